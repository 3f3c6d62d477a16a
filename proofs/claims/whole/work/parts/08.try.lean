theorem dk_K_isWithin_0 : decode prog_1_method_40_code 0 = .ok (.iload_n 0, 1) := by decide +kernel
theorem dk_K_isWithin_1 : decode prog_1_method_40_code 1 = .ok (.iload_n 1, 1) := by decide +kernel
theorem dk_K_isWithin_2 : decode prog_1_method_40_code 2 = .ok (.if_icmp .lt 12, 3) := by decide +kernel
theorem dk_K_isWithin_5 : decode prog_1_method_40_code 5 = .ok (.iload_n 0, 1) := by decide +kernel
theorem dk_K_isWithin_6 : decode prog_1_method_40_code 6 = .ok (.iload_n 2, 1) := by decide +kernel
theorem dk_K_isWithin_7 : decode prog_1_method_40_code 7 = .ok (.if_icmp .gt 7, 3) := by decide +kernel
theorem dk_K_isWithin_10 : decode prog_1_method_40_code 10 = .ok (.iconst 1, 1) := by decide +kernel
theorem dk_K_isWithin_11 : decode prog_1_method_40_code 11 = .ok (.goto 4, 3) := by decide +kernel
theorem dk_K_isWithin_14 : decode prog_1_method_40_code 14 = .ok (.iconst 0, 1) := by decide +kernel
theorem dk_K_isWithin_15 : decode prog_1_method_40_code 15 = .ok (.ireturn, 1) := by decide +kernel
noncomputable def fx_K_isWithin (p0 : Int32) (p1 : Int32) (p2 : Int32) : Option Bool :=
  if p0 < p1 then
    some false
  else
    if p2 < p0 then
      some false
    else
      some true
set_option maxRecDepth 20000 in
theorem cx_K_isWithin (d : Nat) (p0 : Int32) (p1 : Int32) (p2 : Int32) (c : (Nat → Nat → Int32)) (y : (Nat → Nat → Int32) × (Nat → Int64) × (Nat → Int64)) : ∀ a, fx_K_isWithin p0 p1 p2 = some a → kv_C kM_K_isWithin (d + 0) [.int p0, .int p1, .int p2] (c, y) (some (.int (kv_b a)), (c, y)) := by
  refine kv_entryX (E := fun a : Bool => (some (.int (kv_b a)), (c, y))) rfl (Nat.le_of_ble_eq_true rfl) (fun o => ?_)
  unfold fx_K_isWithin
  show kv_X _ _ _ _ _ 0 [(0, .int p0), (1, .int p1), (2, .int p2)] [] (c, y)
  refine kv_iload_n (pc := 0) 0 rfl rfl dk_K_isWithin_0 ?_
  refine kv_iload_n (pc := 1) 1 rfl rfl dk_K_isWithin_1 ?_
  refine kv_icmp_lt (pc := 2) (tgt := 14) dk_K_isWithin_2 rfl ?_ ?_
  · refine kv_iconst (pc := 14) (v := (0 : Int32)) dk_K_isWithin_14 kki_0 ?_
    exact kv_zret (pc := 15) (b := false) (fun h => h) rfl dk_K_isWithin_15
  · refine kv_iload_n (pc := 5) 0 rfl rfl dk_K_isWithin_5 ?_
    refine kv_iload_n (pc := 6) 2 rfl rfl dk_K_isWithin_6 ?_
    refine kv_icmp_gt (pc := 7) (tgt := 14) dk_K_isWithin_7 rfl ?_ ?_
    · refine kv_iconst (pc := 14) (v := (0 : Int32)) dk_K_isWithin_14 kki_0 ?_
      exact kv_zret (pc := 15) (b := false) (fun h => h) rfl dk_K_isWithin_15
    · refine kv_iconst (pc := 10) (v := (1 : Int32)) dk_K_isWithin_10 kki_1 ?_
      refine kv_goto (pc := 11) (tgt := 15) dk_K_isWithin_11 rfl ?_
      exact kv_zret (pc := 15) (b := true) (fun h => h) rfl dk_K_isWithin_15
theorem dk_Lumps_has_0 : decode prog_5_method_2_code 0 = .ok (.iload_n 1, 1) := by decide +kernel
theorem dk_Lumps_has_1 : decode prog_5_method_2_code 1 = .ok (.ifCond .lt 15, 3) := by decide +kernel
theorem dk_Lumps_has_4 : decode prog_5_method_2_code 4 = .ok (.iload_n 1, 1) := by decide +kernel
theorem dk_Lumps_has_5 : decode prog_5_method_2_code 5 = .ok (.aload_n 0, 1) := by decide +kernel
theorem dk_Lumps_has_6 : decode prog_5_method_2_code 6 = .ok (.getfield 33, 3) := by decide +kernel
theorem dk_Lumps_has_9 : decode prog_5_method_2_code 9 = .ok (.if_icmp .ge 7, 3) := by decide +kernel
theorem dk_Lumps_has_12 : decode prog_5_method_2_code 12 = .ok (.iconst 1, 1) := by decide +kernel
theorem dk_Lumps_has_13 : decode prog_5_method_2_code 13 = .ok (.goto 4, 3) := by decide +kernel
theorem dk_Lumps_has_16 : decode prog_5_method_2_code 16 = .ok (.iconst 0, 1) := by decide +kernel
theorem dk_Lumps_has_17 : decode prog_5_method_2_code 17 = .ok (.ireturn, 1) := by decide +kernel
noncomputable def fx_Lumps_has (p1 : Int32) (c : (Nat → Nat → Int32)) : Option Bool :=
  if p1 < 0 then
    some false
  else
    if (c 2 7) ≤ p1 then
      some false
    else
      some true
set_option maxRecDepth 20000 in
theorem cx_Lumps_has (d : Nat) (p1 : Int32) (c : (Nat → Nat → Int32)) (y : (Nat → Nat → Int32) × (Nat → Int64) × (Nat → Int64)) : ∀ a, fx_Lumps_has p1 c = some a → kv_C kM_Lumps_has (d + 0) [.ref 2, .int p1] (c, y) (some (.int (kv_b a)), (c, y)) := by
  refine kv_entryX (E := fun a : Bool => (some (.int (kv_b a)), (c, y))) rfl (Nat.le_of_ble_eq_true rfl) (fun o => ?_)
  unfold fx_Lumps_has
  show kv_X _ _ _ _ _ 0 [(0, .ref 2), (1, .int p1)] [] (c, y)
  refine kv_iload_n (pc := 0) 1 rfl rfl dk_Lumps_has_0 ?_
  refine kv_if_lt (pc := 1) (tgt := 16) dk_Lumps_has_1 rfl ?_ ?_
  · refine kv_iconst (pc := 16) (v := (0 : Int32)) dk_Lumps_has_16 kki_0 ?_
    exact kv_zret (pc := 17) (b := false) (fun h => h) rfl dk_Lumps_has_17
  · refine kv_iload_n (pc := 4) 1 rfl rfl dk_Lumps_has_4 ?_
    refine kv_aload_n (pc := 5) 0 rfl rfl dk_Lumps_has_5 ?_
    refine kv_getC (pc := 6) kf_Lumps_33 kr_2 kn_2 rfl dk_Lumps_has_6 ?_
    refine kv_icmp_ge (pc := 9) (tgt := 16) dk_Lumps_has_9 rfl ?_ ?_
    · refine kv_iconst (pc := 16) (v := (0 : Int32)) dk_Lumps_has_16 kki_0 ?_
      exact kv_zret (pc := 17) (b := false) (fun h => h) rfl dk_Lumps_has_17
    · refine kv_iconst (pc := 12) (v := (1 : Int32)) dk_Lumps_has_12 kki_1 ?_
      refine kv_goto (pc := 13) (tgt := 17) dk_Lumps_has_13 rfl ?_
      exact kv_zret (pc := 17) (b := true) (fun h => h) rfl dk_Lumps_has_17
theorem dk_Chains_sum_0 : decode prog_2_method_3_code 0 = .ok (.iconst 0, 1) := by decide +kernel
theorem dk_Chains_sum_1 : decode prog_2_method_3_code 1 = .ok (.istore_n 2, 1) := by decide +kernel
theorem dk_Chains_sum_2 : decode prog_2_method_3_code 2 = .ok (.iconst 0, 1) := by decide +kernel
theorem dk_Chains_sum_3 : decode prog_2_method_3_code 3 = .ok (.istore_n 3, 1) := by decide +kernel
theorem dk_Chains_sum_4 : decode prog_2_method_3_code 4 = .ok (.iload_n 3, 1) := by decide +kernel
theorem dk_Chains_sum_5 : decode prog_2_method_3_code 5 = .ok (.aload_n 0, 1) := by decide +kernel
theorem dk_Chains_sum_6 : decode prog_2_method_3_code 6 = .ok (.getfield 18, 3) := by decide +kernel
theorem dk_Chains_sum_9 : decode prog_2_method_3_code 9 = .ok (.iload_n 1, 1) := by decide +kernel
theorem dk_Chains_sum_10 : decode prog_2_method_3_code 10 = .ok (.iaload, 1) := by decide +kernel
theorem dk_Chains_sum_11 : decode prog_2_method_3_code 11 = .ok (.if_icmp .ge 23, 3) := by decide +kernel
theorem dk_Chains_sum_14 : decode prog_2_method_3_code 14 = .ok (.iload_n 2, 1) := by decide +kernel
theorem dk_Chains_sum_15 : decode prog_2_method_3_code 15 = .ok (.aload_n 0, 1) := by decide +kernel
theorem dk_Chains_sum_16 : decode prog_2_method_3_code 16 = .ok (.getfield 9, 3) := by decide +kernel
theorem dk_Chains_sum_19 : decode prog_2_method_3_code 19 = .ok (.iload_n 1, 1) := by decide +kernel
theorem dk_Chains_sum_20 : decode prog_2_method_3_code 20 = .ok (.bipush 12, 2) := by decide +kernel
theorem dk_Chains_sum_22 : decode prog_2_method_3_code 22 = .ok (.imul, 1) := by decide +kernel
theorem dk_Chains_sum_23 : decode prog_2_method_3_code 23 = .ok (.iload_n 3, 1) := by decide +kernel
theorem dk_Chains_sum_24 : decode prog_2_method_3_code 24 = .ok (.iadd, 1) := by decide +kernel
theorem dk_Chains_sum_25 : decode prog_2_method_3_code 25 = .ok (.iaload, 1) := by decide +kernel
theorem dk_Chains_sum_26 : decode prog_2_method_3_code 26 = .ok (.iadd, 1) := by decide +kernel
theorem dk_Chains_sum_27 : decode prog_2_method_3_code 27 = .ok (.istore_n 2, 1) := by decide +kernel
theorem dk_Chains_sum_28 : decode prog_2_method_3_code 28 = .ok (.iinc 3 1, 3) := by decide +kernel
theorem dk_Chains_sum_31 : decode prog_2_method_3_code 31 = .ok (.goto (-27), 3) := by decide +kernel
theorem dk_Chains_sum_34 : decode prog_2_method_3_code 34 = .ok (.iload_n 2, 1) := by decide +kernel
theorem dk_Chains_sum_35 : decode prog_2_method_3_code 35 = .ok (.ireturn, 1) := by decide +kernel
noncomputable def fb_Chains_sum_4 (p1 : Int32) (c : (Nat → Nat → Int32)) (x1 : Int32) (x2 : Int32) : Option ((Int32 × Int32) ⊕ Int32) :=
  kv_gd (kv_in p1 4) (
  if (c 23 p1.toNatClampNeg) ≤ x2 then
    some (.inr x1)
  else
    kv_gd (kv_in ((p1 * (12 : Int32)) + x2) 48) (
    kv_let (x1 + (c 21 ((p1 * (12 : Int32)) + x2).toNatClampNeg)) (fun v6 =>
    some (.inl (v6, (x2 + (1 : Int32)))))))
noncomputable def fx_Chains_sum (p1 : Int32) (c : (Nat → Nat → Int32)) : Option Int32 :=
  (kv_loop (kv_u2 (fb_Chains_sum_4 p1 c)) ((0 : Int32), (0 : Int32))).bind (kv_u1 (fun x3 =>
  some x3))
set_option maxRecDepth 20000 in
theorem cx_Chains_sum (d : Nat) (p1 : Int32) (c : (Nat → Nat → Int32)) (y : (Nat → Nat → Int32) × (Nat → Int64) × (Nat → Int64)) : ∀ a, fx_Chains_sum p1 c = some a → kv_C kM_Chains_sum (d + 0) [.ref 20, .int p1] (c, y) (some (.int a), (c, y)) := by
  refine kv_entryX (E := fun a : Int32 => (some (.int a), (c, y))) rfl (Nat.le_of_ble_eq_true rfl) (fun o => ?_)
  unfold fx_Chains_sum
  show kv_X _ _ _ _ _ 0 [(0, .ref 20), (1, .int p1)] [] (c, y)
  refine kv_iconst (pc := 0) (v := (0 : Int32)) dk_Chains_sum_0 kki_0 ?_
  refine kv_istore_n (pc := 1) (lv' := [(2, .int (0 : Int32)), (0, .ref 20), (1, .int p1)]) rfl (Nat.le_of_ble_eq_true rfl) rfl dk_Chains_sum_1 ?_
  refine kv_iconst (pc := 2) (v := (0 : Int32)) dk_Chains_sum_2 kki_0 ?_
  refine kv_istore_n (pc := 3) (lv' := [(3, .int (0 : Int32)), (2, .int (0 : Int32)), (0, .ref 20), (1, .int p1)]) rfl (Nat.le_of_ble_eq_true rfl) rfl dk_Chains_sum_3 ?_
  refine kv_sub (lv' := [(0, .ref 20), (1, .int p1), (2, .int (0 : Int32)), (3, .int (0 : Int32))]) [2, 3, 1, 0] rfl ?_
  refine kv_lp_2_1 (LV := fun x1 x2 => [(0, .ref 20), (1, .int p1), (2, .int x1), (3, .int x2)]) (WW := fun x1 x2 => (c, y)) (LE1 := fun x3 => [(2, .int x3)]) (WE1 := fun x3 => (c, y)) (pe1 := 34) ?_ ?_
  · intro x3
    show kv_X _ _ _ _ _ 34 [(2, .int x3)] [] (c, y)
    refine kv_iload_n (pc := 34) 0 rfl rfl dk_Chains_sum_34 ?_
    exact kv_iret (pc := 35) (fun h => h) rfl dk_Chains_sum_35
  · intro hx4_0 x1 x2
    show kv_X _ _ _ _ (fb_Chains_sum_4 p1 c x1 x2) 4 [(0, .ref 20), (1, .int p1), (2, .int x1), (3, .int x2)] [] (c, y)
    unfold fb_Chains_sum_4
    refine kv_iload_n (pc := 4) 3 rfl rfl dk_Chains_sum_4 ?_
    refine kv_aload_n (pc := 5) 0 rfl rfl dk_Chains_sum_5 ?_
    refine kv_getR (pc := 6) kf_Chains_18 kr_20 rfl kt_20_2 dk_Chains_sum_6 ?_
    refine kv_iload_n (pc := 9) 1 rfl rfl dk_Chains_sum_9 ?_
    refine kv_guard (fun g4 => ?_)
    refine kv_aldC (pc := 10) kr_23 kn_23 kl_23 g4 rfl dk_Chains_sum_10 ?_
    refine kv_icmp_ge (pc := 11) (tgt := 34) dk_Chains_sum_11 rfl ?_ ?_
    · exact kv_sub [2] rfl (kv_leaf (hx4_0 _))
    · refine kv_iload_n (pc := 14) 2 rfl rfl dk_Chains_sum_14 ?_
      refine kv_aload_n (pc := 15) 0 rfl rfl dk_Chains_sum_15 ?_
      refine kv_getR (pc := 16) kf_Chains_9 kr_20 rfl kt_20_0 dk_Chains_sum_16 ?_
      refine kv_iload_n (pc := 19) 1 rfl rfl dk_Chains_sum_19 ?_
      refine kv_bipush (pc := 20) (v := (12 : Int32)) dk_Chains_sum_20 kkb_12 ?_
      refine kv_imul (pc := 22) dk_Chains_sum_22 ?_
      refine kv_iload_n (pc := 23) 3 rfl rfl dk_Chains_sum_23 ?_
      refine kv_iadd (pc := 24) dk_Chains_sum_24 ?_
      refine kv_guard (fun g5 => ?_)
      refine kv_aldC (pc := 25) kr_21 kn_21 kl_21 g5 rfl dk_Chains_sum_25 ?_
      refine kv_iadd (pc := 26) dk_Chains_sum_26 ?_
      refine kv_letI (fun v6 => ?_)
      refine kv_istore_n (pc := 27) (lv' := [(2, .int v6), (0, .ref 20), (1, .int p1), (3, .int x2)]) rfl (Nat.le_of_ble_eq_true rfl) rfl dk_Chains_sum_27 ?_
      refine kv_iinc (pc := 28) (kk := (1 : Int32)) (lv' := [(3, .int (x2 + (1 : Int32))), (2, .int v6), (0, .ref 20), (1, .int p1)]) 3 rfl kki_1 rfl (Nat.le_of_ble_eq_true rfl) dk_Chains_sum_28 ?_
      refine kv_goto (pc := 31) (tgt := 4) dk_Chains_sum_31 rfl ?_
      exact kv_sub [2, 3, 1, 0] rfl (kv_leaf (fun h => h))
theorem dk_Lumps_add_0 : decode prog_5_method_4_code 0 = .ok (.aload_n 0, 1) := by decide +kernel
theorem dk_Lumps_add_1 : decode prog_5_method_4_code 1 = .ok (.getfield 33, 3) := by decide +kernel
theorem dk_Lumps_add_4 : decode prog_5_method_4_code 4 = .ok (.istore 5, 2) := by decide +kernel
theorem dk_Lumps_add_6 : decode prog_5_method_4_code 6 = .ok (.aload_n 0, 1) := by decide +kernel
theorem dk_Lumps_add_7 : decode prog_5_method_4_code 7 = .ok (.getfield 9, 3) := by decide +kernel
theorem dk_Lumps_add_10 : decode prog_5_method_4_code 10 = .ok (.iload 5, 2) := by decide +kernel
theorem dk_Lumps_add_12 : decode prog_5_method_4_code 12 = .ok (.iload_n 1, 1) := by decide +kernel
theorem dk_Lumps_add_13 : decode prog_5_method_4_code 13 = .ok (.iastore, 1) := by decide +kernel
theorem dk_Lumps_add_14 : decode prog_5_method_4_code 14 = .ok (.aload_n 0, 1) := by decide +kernel
theorem dk_Lumps_add_15 : decode prog_5_method_4_code 15 = .ok (.getfield 15, 3) := by decide +kernel
theorem dk_Lumps_add_18 : decode prog_5_method_4_code 18 = .ok (.iload 5, 2) := by decide +kernel
theorem dk_Lumps_add_20 : decode prog_5_method_4_code 20 = .ok (.iload_n 2, 1) := by decide +kernel
theorem dk_Lumps_add_21 : decode prog_5_method_4_code 21 = .ok (.iastore, 1) := by decide +kernel
theorem dk_Lumps_add_22 : decode prog_5_method_4_code 22 = .ok (.aload_n 0, 1) := by decide +kernel
theorem dk_Lumps_add_23 : decode prog_5_method_4_code 23 = .ok (.getfield 18, 3) := by decide +kernel
theorem dk_Lumps_add_26 : decode prog_5_method_4_code 26 = .ok (.iload 5, 2) := by decide +kernel
theorem dk_Lumps_add_28 : decode prog_5_method_4_code 28 = .ok (.iload_n 3, 1) := by decide +kernel
theorem dk_Lumps_add_29 : decode prog_5_method_4_code 29 = .ok (.iastore, 1) := by decide +kernel
theorem dk_Lumps_add_30 : decode prog_5_method_4_code 30 = .ok (.aload_n 0, 1) := by decide +kernel
theorem dk_Lumps_add_31 : decode prog_5_method_4_code 31 = .ok (.getfield 21, 3) := by decide +kernel
theorem dk_Lumps_add_34 : decode prog_5_method_4_code 34 = .ok (.iload 5, 2) := by decide +kernel
theorem dk_Lumps_add_36 : decode prog_5_method_4_code 36 = .ok (.iload 4, 2) := by decide +kernel
theorem dk_Lumps_add_38 : decode prog_5_method_4_code 38 = .ok (.iastore, 1) := by decide +kernel
theorem dk_Lumps_add_39 : decode prog_5_method_4_code 39 = .ok (.aload_n 0, 1) := by decide +kernel
theorem dk_Lumps_add_40 : decode prog_5_method_4_code 40 = .ok (.getfield 27, 3) := by decide +kernel
theorem dk_Lumps_add_43 : decode prog_5_method_4_code 43 = .ok (.iload 5, 2) := by decide +kernel
theorem dk_Lumps_add_45 : decode prog_5_method_4_code 45 = .ok (.iconst 0, 1) := by decide +kernel
theorem dk_Lumps_add_46 : decode prog_5_method_4_code 46 = .ok (.iastore, 1) := by decide +kernel
theorem dk_Lumps_add_47 : decode prog_5_method_4_code 47 = .ok (.aload_n 0, 1) := by decide +kernel
theorem dk_Lumps_add_48 : decode prog_5_method_4_code 48 = .ok (.dup, 1) := by decide +kernel
theorem dk_Lumps_add_49 : decode prog_5_method_4_code 49 = .ok (.getfield 33, 3) := by decide +kernel
theorem dk_Lumps_add_52 : decode prog_5_method_4_code 52 = .ok (.iconst 1, 1) := by decide +kernel
theorem dk_Lumps_add_53 : decode prog_5_method_4_code 53 = .ok (.iadd, 1) := by decide +kernel
theorem dk_Lumps_add_54 : decode prog_5_method_4_code 54 = .ok (.putfield 33, 3) := by decide +kernel
theorem dk_Lumps_add_57 : decode prog_5_method_4_code 57 = .ok (.iload 5, 2) := by decide +kernel
theorem dk_Lumps_add_59 : decode prog_5_method_4_code 59 = .ok (.ireturn, 1) := by decide +kernel
noncomputable def fx_Lumps_add (p1 : Int32) (p2 : Int32) (p3 : Int32) (p4 : Int32) (c : (Nat → Nat → Int32)) : Option (Int32 × (Nat → Nat → Int32)) :=
  kv_let (c 2 7) (fun v1 =>
  kv_gd (kv_in v1 10) (
  kv_let (kv_st c 3 v1.toNatClampNeg p1) (fun c3 =>
  kv_let (kv_st c3 4 v1.toNatClampNeg p2) (fun c4 =>
  kv_let (kv_st c4 5 v1.toNatClampNeg p3) (fun c5 =>
  kv_let (kv_st c5 6 v1.toNatClampNeg p4) (fun c6 =>
  kv_let (kv_st c6 8 v1.toNatClampNeg (0 : Int32)) (fun c7 =>
  kv_let (kv_st c7 2 7 ((c7 2 7) + (1 : Int32))) (fun c8 =>
  some (v1, c8)))))))))
set_option maxRecDepth 20000 in
theorem cx_Lumps_add (d : Nat) (p1 : Int32) (p2 : Int32) (p3 : Int32) (p4 : Int32) (c : (Nat → Nat → Int32)) (y : (Nat → Nat → Int32) × (Nat → Int64) × (Nat → Int64)) : ∀ a, fx_Lumps_add p1 p2 p3 p4 c = some a → kv_C kM_Lumps_add (d + 0) [.ref 2, .int p1, .int p2, .int p3, .int p4] (c, y) (some (.int a.1), (a.2, y)) := by
  refine kv_entryX (E := fun a : (Int32 × (Nat → Nat → Int32)) => (some (.int a.1), (a.2, y))) rfl (Nat.le_of_ble_eq_true rfl) (fun o => ?_)
  unfold fx_Lumps_add
  show kv_X _ _ _ _ _ 0 [(0, .ref 2), (1, .int p1), (2, .int p2), (3, .int p3), (4, .int p4)] [] (c, y)
  refine kv_aload_n (pc := 0) 0 rfl rfl dk_Lumps_add_0 ?_
  refine kv_getC (pc := 1) kf_Lumps_33 kr_2 kn_2 rfl dk_Lumps_add_1 ?_
  refine kv_letI (fun v1 => ?_)
  refine kv_istore (pc := 4) (lv' := [(5, .int v1), (0, .ref 2), (1, .int p1), (2, .int p2), (3, .int p3), (4, .int p4)]) rfl (Nat.le_of_ble_eq_true rfl) dk_Lumps_add_4 ?_
  refine kv_aload_n (pc := 6) 1 rfl rfl dk_Lumps_add_6 ?_
  refine kv_getR (pc := 7) kf_Lumps_9 kr_2 rfl kt_2_0 dk_Lumps_add_7 ?_
  refine kv_iload (pc := 10) 0 rfl dk_Lumps_add_10 ?_
  refine kv_iload_n (pc := 12) 2 rfl rfl dk_Lumps_add_12 ?_
  refine kv_guard (fun g2 => ?_)
  refine kv_astC (pc := 13) kr_3 kn_3 kl_3 g2 rfl dk_Lumps_add_13 (fun c3 => ?_)
  refine kv_aload_n (pc := 14) 1 rfl rfl dk_Lumps_add_14 ?_
  refine kv_getR (pc := 15) kf_Lumps_15 kr_2 rfl kt_2_1 dk_Lumps_add_15 ?_
  refine kv_iload (pc := 18) 0 rfl dk_Lumps_add_18 ?_
  refine kv_iload_n (pc := 20) 3 rfl rfl dk_Lumps_add_20 ?_
  refine kv_astC (pc := 21) kr_4 kn_4 kl_4 g2 rfl dk_Lumps_add_21 (fun c4 => ?_)
  refine kv_aload_n (pc := 22) 1 rfl rfl dk_Lumps_add_22 ?_
  refine kv_getR (pc := 23) kf_Lumps_18 kr_2 rfl kt_2_2 dk_Lumps_add_23 ?_
  refine kv_iload (pc := 26) 0 rfl dk_Lumps_add_26 ?_
  refine kv_iload_n (pc := 28) 4 rfl rfl dk_Lumps_add_28 ?_
  refine kv_astC (pc := 29) kr_5 kn_5 kl_5 g2 rfl dk_Lumps_add_29 (fun c5 => ?_)
  refine kv_aload_n (pc := 30) 1 rfl rfl dk_Lumps_add_30 ?_
  refine kv_getR (pc := 31) kf_Lumps_21 kr_2 rfl kt_2_3 dk_Lumps_add_31 ?_
  refine kv_iload (pc := 34) 0 rfl dk_Lumps_add_34 ?_
  refine kv_iload (pc := 36) 5 rfl dk_Lumps_add_36 ?_
  refine kv_astC (pc := 38) kr_6 kn_6 kl_6 g2 rfl dk_Lumps_add_38 (fun c6 => ?_)
  refine kv_aload_n (pc := 39) 1 rfl rfl dk_Lumps_add_39 ?_
  refine kv_getR (pc := 40) kf_Lumps_27 kr_2 rfl kt_2_5 dk_Lumps_add_40 ?_
  refine kv_iload (pc := 43) 0 rfl dk_Lumps_add_43 ?_
  refine kv_iconst (pc := 45) (v := (0 : Int32)) dk_Lumps_add_45 kki_0 ?_
  refine kv_astC (pc := 46) kr_8 kn_8 kl_8 g2 rfl dk_Lumps_add_46 (fun c7 => ?_)
  refine kv_aload_n (pc := 47) 1 rfl rfl dk_Lumps_add_47 ?_
  refine kv_dupR (pc := 48) dk_Lumps_add_48 ?_
  refine kv_getC (pc := 49) kf_Lumps_33 kr_2 kn_2 rfl dk_Lumps_add_49 ?_
  refine kv_iconst (pc := 52) (v := (1 : Int32)) dk_Lumps_add_52 kki_1 ?_
  refine kv_iadd (pc := 53) dk_Lumps_add_53 ?_
  refine kv_putC (pc := 54) kf_Lumps_33 kr_2 kn_2 rfl rfl rfl dk_Lumps_add_54 (fun c8 => ?_)
  refine kv_iload (pc := 57) 0 rfl dk_Lumps_add_57 ?_
  exact kv_iret (pc := 59) (fun h => h) rfl dk_Lumps_add_59
theorem dk_Lumps_primeAt_0 : decode prog_5_method_5_code 0 = .ok (.iconst 0, 1) := by decide +kernel
theorem dk_Lumps_primeAt_1 : decode prog_5_method_5_code 1 = .ok (.istore_n 1, 1) := by decide +kernel
theorem dk_Lumps_primeAt_2 : decode prog_5_method_5_code 2 = .ok (.iload_n 1, 1) := by decide +kernel
theorem dk_Lumps_primeAt_3 : decode prog_5_method_5_code 3 = .ok (.aload_n 0, 1) := by decide +kernel
theorem dk_Lumps_primeAt_4 : decode prog_5_method_5_code 4 = .ok (.getfield 33, 3) := by decide +kernel
theorem dk_Lumps_primeAt_7 : decode prog_5_method_5_code 7 = .ok (.if_icmp .ge 21, 3) := by decide +kernel
theorem dk_Lumps_primeAt_10 : decode prog_5_method_5_code 10 = .ok (.aload_n 0, 1) := by decide +kernel
theorem dk_Lumps_primeAt_11 : decode prog_5_method_5_code 11 = .ok (.getfield 9, 3) := by decide +kernel
theorem dk_Lumps_primeAt_14 : decode prog_5_method_5_code 14 = .ok (.iload_n 1, 1) := by decide +kernel
theorem dk_Lumps_primeAt_15 : decode prog_5_method_5_code 15 = .ok (.iaload, 1) := by decide +kernel
theorem dk_Lumps_primeAt_16 : decode prog_5_method_5_code 16 = .ok (.iconst 1, 1) := by decide +kernel
theorem dk_Lumps_primeAt_17 : decode prog_5_method_5_code 17 = .ok (.if_icmp .ne 5, 3) := by decide +kernel
theorem dk_Lumps_primeAt_20 : decode prog_5_method_5_code 20 = .ok (.iload_n 1, 1) := by decide +kernel
theorem dk_Lumps_primeAt_21 : decode prog_5_method_5_code 21 = .ok (.ireturn, 1) := by decide +kernel
theorem dk_Lumps_primeAt_22 : decode prog_5_method_5_code 22 = .ok (.iinc 1 1, 3) := by decide +kernel
theorem dk_Lumps_primeAt_25 : decode prog_5_method_5_code 25 = .ok (.goto (-23), 3) := by decide +kernel
theorem dk_Lumps_primeAt_28 : decode prog_5_method_5_code 28 = .ok (.iconst (-1), 1) := by decide +kernel
theorem dk_Lumps_primeAt_29 : decode prog_5_method_5_code 29 = .ok (.ireturn, 1) := by decide +kernel
noncomputable def fb_Lumps_primeAt_2 (c : (Nat → Nat → Int32)) (x1 : Int32) : Option (Int32 ⊕ (Int32 ⊕ Unit)) :=
  if (c 2 7) ≤ x1 then
    some (.inr (.inr ()))
  else
    kv_gd (kv_in x1 10) (
    if (c 3 x1.toNatClampNeg) = (1 : Int32) then
      some (.inr (.inl x1))
    else
      some (.inl (x1 + (1 : Int32))))
noncomputable def fx_Lumps_primeAt (c : (Nat → Nat → Int32)) : Option Int32 :=
  (kv_loop (kv_u1 (fb_Lumps_primeAt_2 c)) (0 : Int32)).bind (Sum.elim (kv_u1 (fun x2 =>
  some x2))
   (kv_u0 (
  some (-1 : Int32))))
set_option maxRecDepth 20000 in
theorem cx_Lumps_primeAt (d : Nat) (c : (Nat → Nat → Int32)) (y : (Nat → Nat → Int32) × (Nat → Int64) × (Nat → Int64)) : ∀ a, fx_Lumps_primeAt c = some a → kv_C kM_Lumps_primeAt (d + 0) [.ref 2] (c, y) (some (.int a), (c, y)) := by
  refine kv_entryX (E := fun a : Int32 => (some (.int a), (c, y))) rfl (Nat.le_of_ble_eq_true rfl) (fun o => ?_)
  unfold fx_Lumps_primeAt
  show kv_X _ _ _ _ _ 0 [(0, .ref 2)] [] (c, y)
  refine kv_iconst (pc := 0) (v := (0 : Int32)) dk_Lumps_primeAt_0 kki_0 ?_
  refine kv_istore_n (pc := 1) (lv' := [(1, .int (0 : Int32)), (0, .ref 2)]) rfl (Nat.le_of_ble_eq_true rfl) rfl dk_Lumps_primeAt_1 ?_
  refine kv_sub (lv' := [(0, .ref 2), (1, .int (0 : Int32))]) [1, 0] rfl ?_
  refine kv_lp_1_1_0 (LV := fun x1 => [(0, .ref 2), (1, .int x1)]) (WW := fun x1 => (c, y)) (LE1 := fun x2 => [(1, .int x2)]) (WE1 := fun x2 => (c, y)) (pe1 := 20) (LE2 := []) (WE2 := (c, y)) (pe2 := 28) ?_ ?_ ?_
  · intro x2
    show kv_X _ _ _ _ _ 20 [(1, .int x2)] [] (c, y)
    refine kv_iload_n (pc := 20) 0 rfl rfl dk_Lumps_primeAt_20 ?_
    exact kv_iret (pc := 21) (fun h => h) rfl dk_Lumps_primeAt_21
  · show kv_X _ _ _ _ _ 28 [] [] (c, y)
    refine kv_iconst (pc := 28) (v := (-1 : Int32)) dk_Lumps_primeAt_28 kki_m1 ?_
    exact kv_iret (pc := 29) (fun h => h) rfl dk_Lumps_primeAt_29
  · intro hx2_0 hx2_1 x1
    show kv_X _ _ _ _ (fb_Lumps_primeAt_2 c x1) 2 [(0, .ref 2), (1, .int x1)] [] (c, y)
    unfold fb_Lumps_primeAt_2
    refine kv_iload_n (pc := 2) 1 rfl rfl dk_Lumps_primeAt_2 ?_
    refine kv_aload_n (pc := 3) 0 rfl rfl dk_Lumps_primeAt_3 ?_
    refine kv_getC (pc := 4) kf_Lumps_33 kr_2 kn_2 rfl dk_Lumps_primeAt_4 ?_
    refine kv_icmp_ge (pc := 7) (tgt := 28) dk_Lumps_primeAt_7 rfl ?_ ?_
    · exact kv_sub [] rfl (kv_leaf (hx2_1))
    · refine kv_aload_n (pc := 10) 0 rfl rfl dk_Lumps_primeAt_10 ?_
      refine kv_getR (pc := 11) kf_Lumps_9 kr_2 rfl kt_2_0 dk_Lumps_primeAt_11 ?_
      refine kv_iload_n (pc := 14) 1 rfl rfl dk_Lumps_primeAt_14 ?_
      refine kv_guard (fun g3 => ?_)
      refine kv_aldC (pc := 15) kr_3 kn_3 kl_3 g3 rfl dk_Lumps_primeAt_15 ?_
      refine kv_iconst (pc := 16) (v := (1 : Int32)) dk_Lumps_primeAt_16 kki_1 ?_
      refine kv_icmp_ne (pc := 17) (tgt := 22) dk_Lumps_primeAt_17 rfl ?_ ?_
      · refine kv_iinc (pc := 22) (kk := (1 : Int32)) (lv' := [(1, .int (x1 + (1 : Int32))), (0, .ref 2)]) 1 rfl kki_1 rfl (Nat.le_of_ble_eq_true rfl) dk_Lumps_primeAt_22 ?_
        refine kv_goto (pc := 25) (tgt := 2) dk_Lumps_primeAt_25 rfl ?_
        exact kv_sub [1, 0] rfl (kv_leaf (fun h => h))
      · exact kv_sub [1] rfl (kv_leaf (hx2_0 _))
theorem dk_K_lump_0 : decode prog_1_method_2_code 0 = .ok (.iload_n 1, 1) := by decide +kernel
theorem dk_K_lump_1 : decode prog_1_method_2_code 1 = .ok (.bipush 10, 2) := by decide +kernel
theorem dk_K_lump_3 : decode prog_1_method_2_code 3 = .ok (.idiv, 1) := by decide +kernel
theorem dk_K_lump_4 : decode prog_1_method_2_code 4 = .ok (.istore 4, 2) := by decide +kernel
theorem dk_K_lump_6 : decode prog_1_method_2_code 6 = .ok (.iload_n 1, 1) := by decide +kernel
theorem dk_K_lump_7 : decode prog_1_method_2_code 7 = .ok (.bipush 10, 2) := by decide +kernel
theorem dk_K_lump_9 : decode prog_1_method_2_code 9 = .ok (.irem, 1) := by decide +kernel
theorem dk_K_lump_10 : decode prog_1_method_2_code 10 = .ok (.istore 5, 2) := by decide +kernel
theorem dk_K_lump_12 : decode prog_1_method_2_code 12 = .ok (.iload_n 1, 1) := by decide +kernel
theorem dk_K_lump_13 : decode prog_1_method_2_code 13 = .ok (.ifCond .lt 17, 3) := by decide +kernel
theorem dk_K_lump_16 : decode prog_1_method_2_code 16 = .ok (.iload 4, 2) := by decide +kernel
theorem dk_K_lump_18 : decode prog_1_method_2_code 18 = .ok (.bipush 7, 2) := by decide +kernel
theorem dk_K_lump_20 : decode prog_1_method_2_code 20 = .ok (.if_icmp .gt 10, 3) := by decide +kernel
theorem dk_K_lump_23 : decode prog_1_method_2_code 23 = .ok (.iload 5, 2) := by decide +kernel
theorem dk_K_lump_25 : decode prog_1_method_2_code 25 = .ok (.bipush 6, 2) := by decide +kernel
theorem dk_K_lump_27 : decode prog_1_method_2_code 27 = .ok (.if_icmp .lt 5, 3) := by decide +kernel
theorem dk_K_lump_30 : decode prog_1_method_2_code 30 = .ok (.iconst (-1), 1) := by decide +kernel
theorem dk_K_lump_31 : decode prog_1_method_2_code 31 = .ok (.ireturn, 1) := by decide +kernel
theorem dk_K_lump_32 : decode prog_1_method_2_code 32 = .ok (.iload_n 2, 1) := by decide +kernel
theorem dk_K_lump_33 : decode prog_1_method_2_code 33 = .ok (.bipush (-9), 2) := by decide +kernel
theorem dk_K_lump_35 : decode prog_1_method_2_code 35 = .ok (.bipush 9, 2) := by decide +kernel
theorem dk_K_lump_37 : decode prog_1_method_2_code 37 = .ok (.invokestatic 54, 3) := by decide +kernel
theorem dk_K_lump_40 : decode prog_1_method_2_code 40 = .ok (.ifCond .eq 16, 3) := by decide +kernel
theorem dk_K_lump_43 : decode prog_1_method_2_code 43 = .ok (.iload_n 3, 1) := by decide +kernel
theorem dk_K_lump_44 : decode prog_1_method_2_code 44 = .ok (.sipush (-9999), 3) := by decide +kernel
theorem dk_K_lump_47 : decode prog_1_method_2_code 47 = .ok (.sipush 9999, 3) := by decide +kernel
theorem dk_K_lump_50 : decode prog_1_method_2_code 50 = .ok (.invokestatic 54, 3) := by decide +kernel
theorem dk_K_lump_53 : decode prog_1_method_2_code 53 = .ok (.ifCond .ne 5, 3) := by decide +kernel
theorem dk_K_lump_56 : decode prog_1_method_2_code 56 = .ok (.iconst (-1), 1) := by decide +kernel
theorem dk_K_lump_57 : decode prog_1_method_2_code 57 = .ok (.ireturn, 1) := by decide +kernel
theorem dk_K_lump_58 : decode prog_1_method_2_code 58 = .ok (.aload_n 0, 1) := by decide +kernel
theorem dk_K_lump_59 : decode prog_1_method_2_code 59 = .ok (.getfield 10, 3) := by decide +kernel
theorem dk_K_lump_62 : decode prog_1_method_2_code 62 = .ok (.getfield 58, 3) := by decide +kernel
theorem dk_K_lump_65 : decode prog_1_method_2_code 65 = .ok (.astore 6, 2) := by decide +kernel
theorem dk_K_lump_67 : decode prog_1_method_2_code 67 = .ok (.aload 6, 2) := by decide +kernel
theorem dk_K_lump_69 : decode prog_1_method_2_code 69 = .ok (.getfield 62, 3) := by decide +kernel
theorem dk_K_lump_72 : decode prog_1_method_2_code 72 = .ok (.bipush 10, 2) := by decide +kernel
theorem dk_K_lump_74 : decode prog_1_method_2_code 74 = .ok (.if_icmp .lt 6, 3) := by decide +kernel
theorem dk_K_lump_77 : decode prog_1_method_2_code 77 = .ok (.bipush (-2), 2) := by decide +kernel
theorem dk_K_lump_79 : decode prog_1_method_2_code 79 = .ok (.ireturn, 1) := by decide +kernel
theorem dk_K_lump_80 : decode prog_1_method_2_code 80 = .ok (.iload 4, 2) := by decide +kernel
theorem dk_K_lump_82 : decode prog_1_method_2_code 82 = .ok (.iconst 1, 1) := by decide +kernel
theorem dk_K_lump_83 : decode prog_1_method_2_code 83 = .ok (.if_icmp .ne 14, 3) := by decide +kernel
theorem dk_K_lump_86 : decode prog_1_method_2_code 86 = .ok (.aload 6, 2) := by decide +kernel
theorem dk_K_lump_88 : decode prog_1_method_2_code 88 = .ok (.invokevirtual 68, 3) := by decide +kernel
theorem dk_K_lump_91 : decode prog_1_method_2_code 91 = .ok (.ifCond .lt 6, 3) := by decide +kernel
theorem dk_K_lump_94 : decode prog_1_method_2_code 94 = .ok (.bipush (-3), 2) := by decide +kernel
theorem dk_K_lump_96 : decode prog_1_method_2_code 96 = .ok (.ireturn, 1) := by decide +kernel
theorem dk_K_lump_97 : decode prog_1_method_2_code 97 = .ok (.aload 6, 2) := by decide +kernel
theorem dk_K_lump_99 : decode prog_1_method_2_code 99 = .ok (.iload 4, 2) := by decide +kernel
theorem dk_K_lump_101 : decode prog_1_method_2_code 101 = .ok (.iload 5, 2) := by decide +kernel
theorem dk_K_lump_103 : decode prog_1_method_2_code 103 = .ok (.iload_n 2, 1) := by decide +kernel
theorem dk_K_lump_104 : decode prog_1_method_2_code 104 = .ok (.iload_n 3, 1) := by decide +kernel
theorem dk_K_lump_105 : decode prog_1_method_2_code 105 = .ok (.invokevirtual 72, 3) := by decide +kernel
theorem dk_K_lump_108 : decode prog_1_method_2_code 108 = .ok (.ireturn, 1) := by decide +kernel
noncomputable def fj_K_lump_97 (v1 : Int32) (v2 : Int32) (p2 : Int32) (p3 : Int32) (c : (Nat → Nat → Int32)) : Option (Int32 × (Nat → Nat → Int32)) :=
  kv_bind2 (fx_Lumps_add v1 v2 p2 p3 c) (fun v5 c6 =>
  some (v5, c6))
noncomputable def fx_K_lump (p1 : Int32) (p2 : Int32) (p3 : Int32) (c : (Nat → Nat → Int32)) : Option (Int32 × (Nat → Nat → Int32)) :=
  kv_let (p1 / (10 : Int32)) (fun v1 =>
  kv_let (p1 - p1 / (10 : Int32) * (10 : Int32)) (fun v2 =>
  if p1 < 0 then
    some ((-1 : Int32), c)
  else
    if (7 : Int32) < v1 then
      some ((-1 : Int32), c)
    else
      if v2 < (6 : Int32) then
        kv_bind1 (fx_K_isWithin p2 (-9 : Int32) (9 : Int32)) (fun b3 =>
        if b3 = true then
          kv_bind1 (fx_K_isWithin p3 (-9999 : Int32) (9999 : Int32)) (fun b4 =>
          if b4 = true then
            if (c 2 7) < (10 : Int32) then
              if v1 = (1 : Int32) then
                kv_bind1 (fx_Lumps_primeAt c) (fun v7 =>
                if v7 < 0 then
                  fj_K_lump_97 v1 v2 p2 p3 c
                else
                  some ((-3 : Int32), c))
              else
                fj_K_lump_97 v1 v2 p2 p3 c
            else
              some ((-2 : Int32), c)
          else
            some ((-1 : Int32), c))
        else
          some ((-1 : Int32), c))
      else
        some ((-1 : Int32), c)))
set_option maxRecDepth 20000 in
theorem cx_K_lump (d : Nat) (p1 : Int32) (p2 : Int32) (p3 : Int32) (c : (Nat → Nat → Int32)) (y : (Nat → Nat → Int32) × (Nat → Int64) × (Nat → Int64)) : ∀ a, fx_K_lump p1 p2 p3 c = some a → kv_C kM_K_lump (d + 1) [.ref 0, .int p1, .int p2, .int p3] (c, y) (some (.int a.1), (a.2, y)) := by
  refine kv_entryX (E := fun a : (Int32 × (Nat → Nat → Int32)) => (some (.int a.1), (a.2, y))) rfl (Nat.le_of_ble_eq_true rfl) (fun o => ?_)
  unfold fx_K_lump
  show kv_X _ _ _ _ _ 0 [(0, .ref 0), (1, .int p1), (2, .int p2), (3, .int p3)] [] (c, y)
  refine kv_iload_n (pc := 0) 1 rfl rfl dk_K_lump_0 ?_
  refine kv_bipush (pc := 1) (v := (10 : Int32)) dk_K_lump_1 kkb_10 ?_
  refine kv_idiv (pc := 3) dk_K_lump_3 kkn_10 ?_
  refine kv_letI (fun v1 => ?_)
  refine kv_istore (pc := 4) (lv' := [(4, .int v1), (0, .ref 0), (1, .int p1), (2, .int p2), (3, .int p3)]) rfl (Nat.le_of_ble_eq_true rfl) dk_K_lump_4 ?_
  refine kv_iload_n (pc := 6) 2 rfl rfl dk_K_lump_6 ?_
  refine kv_bipush (pc := 7) (v := (10 : Int32)) dk_K_lump_7 kkb_10 ?_
  refine kv_irem (pc := 9) dk_K_lump_9 kkn_10 ?_
  refine kv_letI (fun v2 => ?_)
  refine kv_istore (pc := 10) (lv' := [(5, .int v2), (4, .int v1), (0, .ref 0), (1, .int p1), (2, .int p2), (3, .int p3)]) rfl (Nat.le_of_ble_eq_true rfl) dk_K_lump_10 ?_
  refine kv_iload_n (pc := 12) 3 rfl rfl dk_K_lump_12 ?_
  refine kv_if_lt (pc := 13) (tgt := 30) dk_K_lump_13 rfl ?_ ?_
  · refine kv_iconst (pc := 30) (v := (-1 : Int32)) dk_K_lump_30 kki_m1 ?_
    exact kv_iret (pc := 31) (fun h => h) rfl dk_K_lump_31
  · refine kv_iload (pc := 16) 1 rfl dk_K_lump_16 ?_
    refine kv_bipush (pc := 18) (v := (7 : Int32)) dk_K_lump_18 kkb_7 ?_
    refine kv_icmp_gt (pc := 20) (tgt := 30) dk_K_lump_20 rfl ?_ ?_
    · refine kv_iconst (pc := 30) (v := (-1 : Int32)) dk_K_lump_30 kki_m1 ?_
      exact kv_iret (pc := 31) (fun h => h) rfl dk_K_lump_31
    · refine kv_iload (pc := 23) 0 rfl dk_K_lump_23 ?_
      refine kv_bipush (pc := 25) (v := (6 : Int32)) dk_K_lump_25 kkb_6 ?_
      refine kv_icmp_lt (pc := 27) (tgt := 32) dk_K_lump_27 rfl ?_ ?_
      · refine kv_iload_n (pc := 32) 4 rfl rfl dk_K_lump_32 ?_
        refine kv_bipush (pc := 33) (v := (-9 : Int32)) dk_K_lump_33 kkb_m9 ?_
        refine kv_bipush (pc := 35) (v := (9 : Int32)) dk_K_lump_35 kkb_9 ?_
        refine kv_cS_cZ (pc := 37) (as := [.int p2, .int (-9 : Int32), .int (9 : Int32)]) (st := []) ko_K_isWithin rfl kw_508 (Nat.le_of_ble_eq_true rfl) rfl dk_K_lump_37 (cx_K_isWithin d p2 (-9 : Int32) (9 : Int32) c y) (fun b3 => ?_)
        refine kv_zif_eq (pc := 40) (tgt := 56) dk_K_lump_40 rfl ?_ ?_
        · refine kv_iconst (pc := 56) (v := (-1 : Int32)) dk_K_lump_56 kki_m1 ?_
          exact kv_iret (pc := 57) (fun h => h) rfl dk_K_lump_57
        · refine kv_iload_n (pc := 43) 5 rfl rfl dk_K_lump_43 ?_
          refine kv_sipush (pc := 44) (v := (-9999 : Int32)) dk_K_lump_44 kks_m9999 ?_
          refine kv_sipush (pc := 47) (v := (9999 : Int32)) dk_K_lump_47 kks_9999 ?_
          refine kv_cS_cZ (pc := 50) (as := [.int p3, .int (-9999 : Int32), .int (9999 : Int32)]) (st := []) ko_K_isWithin rfl kw_508 (Nat.le_of_ble_eq_true rfl) rfl dk_K_lump_50 (cx_K_isWithin d p3 (-9999 : Int32) (9999 : Int32) c y) (fun b4 => ?_)
          refine kv_zif_ne (pc := 53) (tgt := 58) dk_K_lump_53 rfl ?_ ?_
          · refine kv_aload_n (pc := 58) 2 rfl rfl dk_K_lump_58 ?_
            refine kv_getR (pc := 59) kf_K_10 kr_0 rfl kt_0_0 dk_K_lump_59 ?_
            refine kv_getR (pc := 62) kf_K_58 kr_1 rfl kt_1_0 dk_K_lump_62 ?_
            refine kv_astore (pc := 65) (lv' := [(6, .ref 2), (5, .int v2), (4, .int v1), (0, .ref 0), (1, .int p1), (2, .int p2), (3, .int p3)]) rfl (Nat.le_of_ble_eq_true rfl) dk_K_lump_65 ?_
            refine kv_aload (pc := 67) 0 rfl dk_K_lump_67 ?_
            refine kv_getC (pc := 69) kf_K_62 kr_2 kn_2 rfl dk_K_lump_69 ?_
            refine kv_bipush (pc := 72) (v := (10 : Int32)) dk_K_lump_72 kkb_10 ?_
            refine kv_icmp_lt (pc := 74) (tgt := 80) dk_K_lump_74 rfl ?_ ?_
            · refine kv_iload (pc := 80) 2 rfl dk_K_lump_80 ?_
              refine kv_iconst (pc := 82) (v := (1 : Int32)) dk_K_lump_82 kki_1 ?_
              refine kv_cut_0 (J := fj_K_lump_97 v1 v2 p2 p3 c) (pcj := 97) (LJ := [(2, .int p2), (3, .int p3), (4, .int v1), (5, .int v2), (6, .ref 2)]) (SJ := []) (WJ := (c, y)) ?_ (fun hj97 => ?_)
              · show kv_X _ _ _ _ (fj_K_lump_97 v1 v2 p2 p3 c) 97 [(2, .int p2), (3, .int p3), (4, .int v1), (5, .int v2), (6, .ref 2)] [] (c, y)
                unfold fj_K_lump_97
                refine kv_aload (pc := 97) 4 rfl dk_K_lump_97 ?_
                refine kv_iload (pc := 99) 2 rfl dk_K_lump_99 ?_
                refine kv_iload (pc := 101) 3 rfl dk_K_lump_101 ?_
                refine kv_iload_n (pc := 103) 0 rfl rfl dk_K_lump_103 ?_
                refine kv_iload_n (pc := 104) 1 rfl rfl dk_K_lump_104 ?_
                refine kv_cV_cIc (pc := 105) (as := [.int v1, .int v2, .int p2, .int p3]) (st := []) ko_Lumps_add kc_3 rfl rfl kr_2 kw_515 (Nat.le_of_ble_eq_true rfl) rfl dk_K_lump_105 (cx_Lumps_add d v1 v2 p2 p3 c y) (fun v5 c6 => ?_)
                exact kv_iret (pc := 108) (fun h => h) rfl dk_K_lump_108
              refine kv_icmp_ne (pc := 83) (tgt := 97) dk_K_lump_83 rfl ?_ ?_
              · exact kv_sub [5, 6, 2, 1, 0] rfl (hj97)
              · refine kv_aload (pc := 86) 0 rfl dk_K_lump_86 ?_
                refine kv_cV_cI (pc := 88) (as := []) (st := []) ko_Lumps_primeAt kc_3 rfl rfl kr_2 kw_511 (Nat.le_of_ble_eq_true rfl) rfl dk_K_lump_88 (cx_Lumps_primeAt d c y) (fun v7 => ?_)
                refine kv_if_lt (pc := 91) (tgt := 97) dk_K_lump_91 rfl ?_ ?_
                · exact kv_sub [5, 6, 2, 1, 0] rfl (hj97)
                · refine kv_bipush (pc := 94) (v := (-3 : Int32)) dk_K_lump_94 kkb_m3 ?_
                  exact kv_iret (pc := 96) (fun h => h) rfl dk_K_lump_96
            · refine kv_bipush (pc := 77) (v := (-2 : Int32)) dk_K_lump_77 kkb_m2 ?_
              exact kv_iret (pc := 79) (fun h => h) rfl dk_K_lump_79
          · refine kv_iconst (pc := 56) (v := (-1 : Int32)) dk_K_lump_56 kki_m1 ?_
            exact kv_iret (pc := 57) (fun h => h) rfl dk_K_lump_57
      · refine kv_iconst (pc := 30) (v := (-1 : Int32)) dk_K_lump_30 kki_m1 ?_
        exact kv_iret (pc := 31) (fun h => h) rfl dk_K_lump_31
theorem dk_K_exchange_0 : decode prog_1_method_45_code 0 = .ok (.iload_n 1, 1) := by decide +kernel
theorem dk_K_exchange_1 : decode prog_1_method_45_code 1 = .ok (.iconst 0, 1) := by decide +kernel
theorem dk_K_exchange_2 : decode prog_1_method_45_code 2 = .ok (.aload_n 0, 1) := by decide +kernel
theorem dk_K_exchange_3 : decode prog_1_method_45_code 3 = .ok (.arraylength, 1) := by decide +kernel
theorem dk_K_exchange_4 : decode prog_1_method_45_code 4 = .ok (.iconst 1, 1) := by decide +kernel
theorem dk_K_exchange_5 : decode prog_1_method_45_code 5 = .ok (.isub, 1) := by decide +kernel
theorem dk_K_exchange_6 : decode prog_1_method_45_code 6 = .ok (.invokestatic 54, 3) := by decide +kernel
theorem dk_K_exchange_9 : decode prog_1_method_45_code 9 = .ok (.ifCond .ne 6, 3) := by decide +kernel
theorem dk_K_exchange_12 : decode prog_1_method_45_code 12 = .ok (.ldc 84, 2) := by decide +kernel
theorem dk_K_exchange_14 : decode prog_1_method_45_code 14 = .ok (.ireturn, 1) := by decide +kernel
theorem dk_K_exchange_15 : decode prog_1_method_45_code 15 = .ok (.aload_n 0, 1) := by decide +kernel
theorem dk_K_exchange_16 : decode prog_1_method_45_code 16 = .ok (.iload_n 1, 1) := by decide +kernel
theorem dk_K_exchange_17 : decode prog_1_method_45_code 17 = .ok (.iaload, 1) := by decide +kernel
theorem dk_K_exchange_18 : decode prog_1_method_45_code 18 = .ok (.istore_n 3, 1) := by decide +kernel
theorem dk_K_exchange_19 : decode prog_1_method_45_code 19 = .ok (.aload_n 0, 1) := by decide +kernel
theorem dk_K_exchange_20 : decode prog_1_method_45_code 20 = .ok (.iload_n 1, 1) := by decide +kernel
theorem dk_K_exchange_21 : decode prog_1_method_45_code 21 = .ok (.iload_n 2, 1) := by decide +kernel
theorem dk_K_exchange_22 : decode prog_1_method_45_code 22 = .ok (.iastore, 1) := by decide +kernel
theorem dk_K_exchange_23 : decode prog_1_method_45_code 23 = .ok (.iload_n 3, 1) := by decide +kernel
theorem dk_K_exchange_24 : decode prog_1_method_45_code 24 = .ok (.ireturn, 1) := by decide +kernel
noncomputable def fx_K_exchange (p1 : Int32) (p2 : Int32) (c : (Nat → Nat → Int32)) : Option (Int32 × (Nat → Nat → Int32)) :=
  kv_bind1 (fx_K_isWithin p1 (0 : Int32) ((6 : Int32) - (1 : Int32))) (fun b1 =>
  if b1 = true then
    kv_gd (kv_in p1 6) (
    kv_let (c 9 p1.toNatClampNeg) (fun v3 =>
    kv_let (kv_st c 9 p1.toNatClampNeg p2) (fun c4 =>
    some (v3, c4))))
  else
    some ((-1000000001 : Int32), c))
set_option maxRecDepth 20000 in
theorem cx_K_exchange (d : Nat) (p1 : Int32) (p2 : Int32) (c : (Nat → Nat → Int32)) (y : (Nat → Nat → Int32) × (Nat → Int64) × (Nat → Int64)) : ∀ a, fx_K_exchange p1 p2 c = some a → kv_C kM_K_exchange (d + 1) [.ref 9, .int p1, .int p2] (c, y) (some (.int a.1), (a.2, y)) := by
  refine kv_entryX (E := fun a : (Int32 × (Nat → Nat → Int32)) => (some (.int a.1), (a.2, y))) rfl (Nat.le_of_ble_eq_true rfl) (fun o => ?_)
  unfold fx_K_exchange
  show kv_X _ _ _ _ _ 0 [(0, .ref 9), (1, .int p1), (2, .int p2)] [] (c, y)
  refine kv_iload_n (pc := 0) 1 rfl rfl dk_K_exchange_0 ?_
  refine kv_iconst (pc := 1) (v := (0 : Int32)) dk_K_exchange_1 kki_0 ?_
  refine kv_aload_n (pc := 2) 0 rfl rfl dk_K_exchange_2 ?_
  refine kv_alen (pc := 3) kr_9 kl_9 (v := (6 : Int32)) (by decide) dk_K_exchange_3 ?_
  refine kv_iconst (pc := 4) (v := (1 : Int32)) dk_K_exchange_4 kki_1 ?_
  refine kv_isub (pc := 5) dk_K_exchange_5 ?_
  refine kv_cS_cZ (pc := 6) (as := [.int p1, .int (0 : Int32), .int ((6 : Int32) - (1 : Int32))]) (st := []) ko_K_isWithin rfl kw_508 (Nat.le_of_ble_eq_true rfl) rfl dk_K_exchange_6 (cx_K_isWithin d p1 (0 : Int32) ((6 : Int32) - (1 : Int32)) c y) (fun b1 => ?_)
  refine kv_zif_ne (pc := 9) (tgt := 15) dk_K_exchange_9 rfl ?_ ?_
  · refine kv_aload_n (pc := 15) 0 rfl rfl dk_K_exchange_15 ?_
    refine kv_iload_n (pc := 16) 1 rfl rfl dk_K_exchange_16 ?_
    refine kv_guard (fun g2 => ?_)
    refine kv_aldC (pc := 17) kr_9 kn_9 kl_9 g2 rfl dk_K_exchange_17 ?_
    refine kv_letI (fun v3 => ?_)
    refine kv_istore_n (pc := 18) (lv' := [(3, .int v3), (0, .ref 9), (1, .int p1), (2, .int p2)]) rfl (Nat.le_of_ble_eq_true rfl) rfl dk_K_exchange_18 ?_
    refine kv_aload_n (pc := 19) 1 rfl rfl dk_K_exchange_19 ?_
    refine kv_iload_n (pc := 20) 2 rfl rfl dk_K_exchange_20 ?_
    refine kv_iload_n (pc := 21) 3 rfl rfl dk_K_exchange_21 ?_
    refine kv_astC (pc := 22) kr_9 kn_9 kl_9 g2 rfl dk_K_exchange_22 (fun c4 => ?_)
    refine kv_iload_n (pc := 23) 0 rfl rfl dk_K_exchange_23 ?_
    exact kv_iret (pc := 24) (fun h => h) rfl dk_K_exchange_24
  · refine kv_ldc (pc := 12) (v := (-1000000001 : Int32)) kw_526 dk_K_exchange_12 ?_
    exact kv_iret (pc := 14) (fun h => h) rfl dk_K_exchange_14
noncomputable def fx_K_exchange_25 (p1 : Int32) (p2 : Int32) (c : (Nat → Nat → Int32)) : Option (Int32 × (Nat → Nat → Int32)) :=
  kv_bind1 (fx_K_isWithin p1 (0 : Int32) ((4 : Int32) - (1 : Int32))) (fun b1 =>
  if b1 = true then
    kv_gd (kv_in p1 4) (
    kv_let (c 25 p1.toNatClampNeg) (fun v3 =>
    kv_let (kv_st c 25 p1.toNatClampNeg p2) (fun c4 =>
    some (v3, c4))))
  else
    some ((-1000000001 : Int32), c))
set_option maxRecDepth 20000 in
theorem cx_K_exchange_25 (d : Nat) (p1 : Int32) (p2 : Int32) (c : (Nat → Nat → Int32)) (y : (Nat → Nat → Int32) × (Nat → Int64) × (Nat → Int64)) : ∀ a, fx_K_exchange_25 p1 p2 c = some a → kv_C kM_K_exchange (d + 1) [.ref 25, .int p1, .int p2] (c, y) (some (.int a.1), (a.2, y)) := by
  refine kv_entryX (E := fun a : (Int32 × (Nat → Nat → Int32)) => (some (.int a.1), (a.2, y))) rfl (Nat.le_of_ble_eq_true rfl) (fun o => ?_)
  unfold fx_K_exchange_25
  show kv_X _ _ _ _ _ 0 [(0, .ref 25), (1, .int p1), (2, .int p2)] [] (c, y)
  refine kv_iload_n (pc := 0) 1 rfl rfl dk_K_exchange_0 ?_
  refine kv_iconst (pc := 1) (v := (0 : Int32)) dk_K_exchange_1 kki_0 ?_
  refine kv_aload_n (pc := 2) 0 rfl rfl dk_K_exchange_2 ?_
  refine kv_alen (pc := 3) kr_25 kl_25 (v := (4 : Int32)) (by decide) dk_K_exchange_3 ?_
  refine kv_iconst (pc := 4) (v := (1 : Int32)) dk_K_exchange_4 kki_1 ?_
  refine kv_isub (pc := 5) dk_K_exchange_5 ?_
  refine kv_cS_cZ (pc := 6) (as := [.int p1, .int (0 : Int32), .int ((4 : Int32) - (1 : Int32))]) (st := []) ko_K_isWithin rfl kw_508 (Nat.le_of_ble_eq_true rfl) rfl dk_K_exchange_6 (cx_K_isWithin d p1 (0 : Int32) ((4 : Int32) - (1 : Int32)) c y) (fun b1 => ?_)
  refine kv_zif_ne (pc := 9) (tgt := 15) dk_K_exchange_9 rfl ?_ ?_
  · refine kv_aload_n (pc := 15) 0 rfl rfl dk_K_exchange_15 ?_
    refine kv_iload_n (pc := 16) 1 rfl rfl dk_K_exchange_16 ?_
    refine kv_guard (fun g2 => ?_)
    refine kv_aldC (pc := 17) kr_25 kn_25 kl_25 g2 rfl dk_K_exchange_17 ?_
    refine kv_letI (fun v3 => ?_)
    refine kv_istore_n (pc := 18) (lv' := [(3, .int v3), (0, .ref 25), (1, .int p1), (2, .int p2)]) rfl (Nat.le_of_ble_eq_true rfl) rfl dk_K_exchange_18 ?_
    refine kv_aload_n (pc := 19) 1 rfl rfl dk_K_exchange_19 ?_
    refine kv_iload_n (pc := 20) 2 rfl rfl dk_K_exchange_20 ?_
    refine kv_iload_n (pc := 21) 3 rfl rfl dk_K_exchange_21 ?_
    refine kv_astC (pc := 22) kr_25 kn_25 kl_25 g2 rfl dk_K_exchange_22 (fun c4 => ?_)
    refine kv_iload_n (pc := 23) 0 rfl rfl dk_K_exchange_23 ?_
    exact kv_iret (pc := 24) (fun h => h) rfl dk_K_exchange_24
  · refine kv_ldc (pc := 12) (v := (-1000000001 : Int32)) kw_526 dk_K_exchange_12 ?_
    exact kv_iret (pc := 14) (fun h => h) rfl dk_K_exchange_14
theorem dk_State_exchangeLow_0 : decode prog_10_method_2_code 0 = .ok (.aload_n 0, 1) := by decide +kernel
theorem dk_State_exchangeLow_1 : decode prog_10_method_2_code 1 = .ok (.getfield 47, 3) := by decide +kernel
theorem dk_State_exchangeLow_4 : decode prog_10_method_2_code 4 = .ok (.istore_n 2, 1) := by decide +kernel
theorem dk_State_exchangeLow_5 : decode prog_10_method_2_code 5 = .ok (.aload_n 0, 1) := by decide +kernel
theorem dk_State_exchangeLow_6 : decode prog_10_method_2_code 6 = .ok (.iload_n 1, 1) := by decide +kernel
theorem dk_State_exchangeLow_7 : decode prog_10_method_2_code 7 = .ok (.putfield 47, 3) := by decide +kernel
theorem dk_State_exchangeLow_10 : decode prog_10_method_2_code 10 = .ok (.iload_n 2, 1) := by decide +kernel
theorem dk_State_exchangeLow_11 : decode prog_10_method_2_code 11 = .ok (.ireturn, 1) := by decide +kernel
noncomputable def fx_State_exchangeLow (p1 : Int32) (c : (Nat → Nat → Int32)) : Option (Int32 × (Nat → Nat → Int32)) :=
  kv_let (c 1 7) (fun v1 =>
  kv_let (kv_st c 1 7 p1) (fun c2 =>
  some (v1, c2)))
set_option maxRecDepth 20000 in
theorem cx_State_exchangeLow (d : Nat) (p1 : Int32) (c : (Nat → Nat → Int32)) (y : (Nat → Nat → Int32) × (Nat → Int64) × (Nat → Int64)) : ∀ a, fx_State_exchangeLow p1 c = some a → kv_C kM_State_exchangeLow (d + 0) [.ref 1, .int p1] (c, y) (some (.int a.1), (a.2, y)) := by
  refine kv_entryX (E := fun a : (Int32 × (Nat → Nat → Int32)) => (some (.int a.1), (a.2, y))) rfl (Nat.le_of_ble_eq_true rfl) (fun o => ?_)
  unfold fx_State_exchangeLow
  show kv_X _ _ _ _ _ 0 [(0, .ref 1), (1, .int p1)] [] (c, y)
  refine kv_aload_n (pc := 0) 0 rfl rfl dk_State_exchangeLow_0 ?_
  refine kv_getC (pc := 1) kf_State_47 kr_1 kn_1 rfl dk_State_exchangeLow_1 ?_
  refine kv_letI (fun v1 => ?_)
  refine kv_istore_n (pc := 4) (lv' := [(2, .int v1), (0, .ref 1), (1, .int p1)]) rfl (Nat.le_of_ble_eq_true rfl) rfl dk_State_exchangeLow_4 ?_
  refine kv_aload_n (pc := 5) 1 rfl rfl dk_State_exchangeLow_5 ?_
  refine kv_iload_n (pc := 6) 2 rfl rfl dk_State_exchangeLow_6 ?_
  refine kv_putC (pc := 7) kf_State_47 kr_1 kn_1 rfl rfl rfl dk_State_exchangeLow_7 (fun c2 => ?_)
  refine kv_iload_n (pc := 10) 0 rfl rfl dk_State_exchangeLow_10 ?_
  exact kv_iret (pc := 11) (fun h => h) rfl dk_State_exchangeLow_11
theorem dk_State_exchangeHigh_0 : decode prog_10_method_3_code 0 = .ok (.aload_n 0, 1) := by decide +kernel
theorem dk_State_exchangeHigh_1 : decode prog_10_method_3_code 1 = .ok (.getfield 50, 3) := by decide +kernel
theorem dk_State_exchangeHigh_4 : decode prog_10_method_3_code 4 = .ok (.istore_n 2, 1) := by decide +kernel
theorem dk_State_exchangeHigh_5 : decode prog_10_method_3_code 5 = .ok (.aload_n 0, 1) := by decide +kernel
theorem dk_State_exchangeHigh_6 : decode prog_10_method_3_code 6 = .ok (.iload_n 1, 1) := by decide +kernel
theorem dk_State_exchangeHigh_7 : decode prog_10_method_3_code 7 = .ok (.putfield 50, 3) := by decide +kernel
theorem dk_State_exchangeHigh_10 : decode prog_10_method_3_code 10 = .ok (.iload_n 2, 1) := by decide +kernel
theorem dk_State_exchangeHigh_11 : decode prog_10_method_3_code 11 = .ok (.ireturn, 1) := by decide +kernel
noncomputable def fx_State_exchangeHigh (p1 : Int32) (c : (Nat → Nat → Int32)) : Option (Int32 × (Nat → Nat → Int32)) :=
  kv_let (c 1 8) (fun v1 =>
  kv_let (kv_st c 1 8 p1) (fun c2 =>
  some (v1, c2)))
set_option maxRecDepth 20000 in
theorem cx_State_exchangeHigh (d : Nat) (p1 : Int32) (c : (Nat → Nat → Int32)) (y : (Nat → Nat → Int32) × (Nat → Int64) × (Nat → Int64)) : ∀ a, fx_State_exchangeHigh p1 c = some a → kv_C kM_State_exchangeHigh (d + 0) [.ref 1, .int p1] (c, y) (some (.int a.1), (a.2, y)) := by
  refine kv_entryX (E := fun a : (Int32 × (Nat → Nat → Int32)) => (some (.int a.1), (a.2, y))) rfl (Nat.le_of_ble_eq_true rfl) (fun o => ?_)
  unfold fx_State_exchangeHigh
  show kv_X _ _ _ _ _ 0 [(0, .ref 1), (1, .int p1)] [] (c, y)
  refine kv_aload_n (pc := 0) 0 rfl rfl dk_State_exchangeHigh_0 ?_
  refine kv_getC (pc := 1) kf_State_50 kr_1 kn_1 rfl dk_State_exchangeHigh_1 ?_
  refine kv_letI (fun v1 => ?_)
  refine kv_istore_n (pc := 4) (lv' := [(2, .int v1), (0, .ref 1), (1, .int p1)]) rfl (Nat.le_of_ble_eq_true rfl) rfl dk_State_exchangeHigh_4 ?_
  refine kv_aload_n (pc := 5) 1 rfl rfl dk_State_exchangeHigh_5 ?_
  refine kv_iload_n (pc := 6) 2 rfl rfl dk_State_exchangeHigh_6 ?_
  refine kv_putC (pc := 7) kf_State_50 kr_1 kn_1 rfl rfl rfl dk_State_exchangeHigh_7 (fun c2 => ?_)
  refine kv_iload_n (pc := 10) 0 rfl rfl dk_State_exchangeHigh_10 ?_
  exact kv_iret (pc := 11) (fun h => h) rfl dk_State_exchangeHigh_11
theorem dk_K_set_0 : decode prog_1_method_3_code 0 = .ok (.iload_n 1, 1) := by decide +kernel
theorem dk_K_set_1 : decode prog_1_method_3_code 1 = .ok (.tableswitch 158 0 3 #[31, 62, 90, 124], 31) := by decide +kernel
theorem dk_K_set_32 : decode prog_1_method_3_code 32 = .ok (.iload_n 3, 1) := by decide +kernel
theorem dk_K_set_33 : decode prog_1_method_3_code 33 = .ok (.iconst 0, 1) := by decide +kernel
theorem dk_K_set_34 : decode prog_1_method_3_code 34 = .ok (.bipush 9, 2) := by decide +kernel
theorem dk_K_set_36 : decode prog_1_method_3_code 36 = .ok (.invokestatic 54, 3) := by decide +kernel
theorem dk_K_set_39 : decode prog_1_method_3_code 39 = .ok (.ifCond .eq 21, 3) := by decide +kernel
theorem dk_K_set_42 : decode prog_1_method_3_code 42 = .ok (.aload_n 0, 1) := by decide +kernel
theorem dk_K_set_43 : decode prog_1_method_3_code 43 = .ok (.getfield 10, 3) := by decide +kernel
theorem dk_K_set_46 : decode prog_1_method_3_code 46 = .ok (.getfield 58, 3) := by decide +kernel
theorem dk_K_set_49 : decode prog_1_method_3_code 49 = .ok (.getfield 76, 3) := by decide +kernel
theorem dk_K_set_52 : decode prog_1_method_3_code 52 = .ok (.iload_n 2, 1) := by decide +kernel
theorem dk_K_set_53 : decode prog_1_method_3_code 53 = .ok (.iload_n 3, 1) := by decide +kernel
theorem dk_K_set_54 : decode prog_1_method_3_code 54 = .ok (.invokestatic 80, 3) := by decide +kernel
theorem dk_K_set_57 : decode prog_1_method_3_code 57 = .ok (.goto 5, 3) := by decide +kernel
theorem dk_K_set_60 : decode prog_1_method_3_code 60 = .ok (.ldc 84, 2) := by decide +kernel
theorem dk_K_set_62 : decode prog_1_method_3_code 62 = .ok (.ireturn, 1) := by decide +kernel
theorem dk_K_set_63 : decode prog_1_method_3_code 63 = .ok (.iload_n 3, 1) := by decide +kernel
theorem dk_K_set_64 : decode prog_1_method_3_code 64 = .ok (.iconst 0, 1) := by decide +kernel
theorem dk_K_set_65 : decode prog_1_method_3_code 65 = .ok (.bipush 99, 2) := by decide +kernel
theorem dk_K_set_67 : decode prog_1_method_3_code 67 = .ok (.invokestatic 54, 3) := by decide +kernel
theorem dk_K_set_70 : decode prog_1_method_3_code 70 = .ok (.ifCond .eq 18, 3) := by decide +kernel
theorem dk_K_set_73 : decode prog_1_method_3_code 73 = .ok (.aload_n 0, 1) := by decide +kernel
theorem dk_K_set_74 : decode prog_1_method_3_code 74 = .ok (.getfield 10, 3) := by decide +kernel
theorem dk_K_set_77 : decode prog_1_method_3_code 77 = .ok (.getfield 85, 3) := by decide +kernel
theorem dk_K_set_80 : decode prog_1_method_3_code 80 = .ok (.iload_n 2, 1) := by decide +kernel
theorem dk_K_set_81 : decode prog_1_method_3_code 81 = .ok (.iload_n 3, 1) := by decide +kernel
theorem dk_K_set_82 : decode prog_1_method_3_code 82 = .ok (.invokestatic 80, 3) := by decide +kernel
theorem dk_K_set_85 : decode prog_1_method_3_code 85 = .ok (.goto 5, 3) := by decide +kernel
theorem dk_K_set_88 : decode prog_1_method_3_code 88 = .ok (.ldc 84, 2) := by decide +kernel
theorem dk_K_set_90 : decode prog_1_method_3_code 90 = .ok (.ireturn, 1) := by decide +kernel
theorem dk_K_set_91 : decode prog_1_method_3_code 91 = .ok (.iload_n 2, 1) := by decide +kernel
theorem dk_K_set_92 : decode prog_1_method_3_code 92 = .ok (.ifCond .ne 30, 3) := by decide +kernel
theorem dk_K_set_95 : decode prog_1_method_3_code 95 = .ok (.iload_n 3, 1) := by decide +kernel
theorem dk_K_set_96 : decode prog_1_method_3_code 96 = .ok (.bipush (-99), 2) := by decide +kernel
theorem dk_K_set_98 : decode prog_1_method_3_code 98 = .ok (.aload_n 0, 1) := by decide +kernel
theorem dk_K_set_99 : decode prog_1_method_3_code 99 = .ok (.getfield 10, 3) := by decide +kernel
theorem dk_K_set_102 : decode prog_1_method_3_code 102 = .ok (.getfield 88, 3) := by decide +kernel
theorem dk_K_set_105 : decode prog_1_method_3_code 105 = .ok (.invokestatic 54, 3) := by decide +kernel
theorem dk_K_set_108 : decode prog_1_method_3_code 108 = .ok (.ifCond .eq 14, 3) := by decide +kernel
theorem dk_K_set_111 : decode prog_1_method_3_code 111 = .ok (.aload_n 0, 1) := by decide +kernel
theorem dk_K_set_112 : decode prog_1_method_3_code 112 = .ok (.getfield 10, 3) := by decide +kernel
theorem dk_K_set_115 : decode prog_1_method_3_code 115 = .ok (.iload_n 3, 1) := by decide +kernel
theorem dk_K_set_116 : decode prog_1_method_3_code 116 = .ok (.invokevirtual 91, 3) := by decide +kernel
theorem dk_K_set_119 : decode prog_1_method_3_code 119 = .ok (.goto 5, 3) := by decide +kernel
theorem dk_K_set_122 : decode prog_1_method_3_code 122 = .ok (.ldc 84, 2) := by decide +kernel
theorem dk_K_set_124 : decode prog_1_method_3_code 124 = .ok (.ireturn, 1) := by decide +kernel
theorem dk_K_set_125 : decode prog_1_method_3_code 125 = .ok (.iload_n 2, 1) := by decide +kernel
theorem dk_K_set_126 : decode prog_1_method_3_code 126 = .ok (.ifCond .ne 30, 3) := by decide +kernel
theorem dk_K_set_129 : decode prog_1_method_3_code 129 = .ok (.iload_n 3, 1) := by decide +kernel
theorem dk_K_set_130 : decode prog_1_method_3_code 130 = .ok (.aload_n 0, 1) := by decide +kernel
theorem dk_K_set_131 : decode prog_1_method_3_code 131 = .ok (.getfield 10, 3) := by decide +kernel
theorem dk_K_set_134 : decode prog_1_method_3_code 134 = .ok (.getfield 95, 3) := by decide +kernel
theorem dk_K_set_137 : decode prog_1_method_3_code 137 = .ok (.bipush 99, 2) := by decide +kernel
theorem dk_K_set_139 : decode prog_1_method_3_code 139 = .ok (.invokestatic 54, 3) := by decide +kernel
theorem dk_K_set_142 : decode prog_1_method_3_code 142 = .ok (.ifCond .eq 14, 3) := by decide +kernel
theorem dk_K_set_145 : decode prog_1_method_3_code 145 = .ok (.aload_n 0, 1) := by decide +kernel
theorem dk_K_set_146 : decode prog_1_method_3_code 146 = .ok (.getfield 10, 3) := by decide +kernel
theorem dk_K_set_149 : decode prog_1_method_3_code 149 = .ok (.iload_n 3, 1) := by decide +kernel
theorem dk_K_set_150 : decode prog_1_method_3_code 150 = .ok (.invokevirtual 98, 3) := by decide +kernel
theorem dk_K_set_153 : decode prog_1_method_3_code 153 = .ok (.goto 5, 3) := by decide +kernel
theorem dk_K_set_156 : decode prog_1_method_3_code 156 = .ok (.ldc 84, 2) := by decide +kernel
theorem dk_K_set_158 : decode prog_1_method_3_code 158 = .ok (.ireturn, 1) := by decide +kernel
theorem dk_K_set_159 : decode prog_1_method_3_code 159 = .ok (.ldc 84, 2) := by decide +kernel
theorem dk_K_set_161 : decode prog_1_method_3_code 161 = .ok (.ireturn, 1) := by decide +kernel
noncomputable def fx_K_set (p1 : Int32) (p2 : Int32) (p3 : Int32) (c : (Nat → Nat → Int32)) : Option (Int32 × (Nat → Nat → Int32)) :=
  if p1 = (0 : Int32) then
    kv_bind1 (fx_K_isWithin p3 (0 : Int32) (9 : Int32)) (fun b2 =>
    if b2 = true then
      kv_bind2 (fx_K_exchange p2 p3 c) (fun v3 c4 =>
      some (v3, c4))
    else
      some ((-1000000001 : Int32), c))
  else if p1 = (1 : Int32) then
    kv_bind1 (fx_K_isWithin p3 (0 : Int32) (99 : Int32)) (fun b6 =>
    if b6 = true then
      kv_bind2 (fx_K_exchange_25 p2 p3 c) (fun v7 c8 =>
      some (v7, c8))
    else
      some ((-1000000001 : Int32), c))
  else if p1 = (2 : Int32) then
    if p2 = 0 then
      kv_bind1 (fx_K_isWithin p3 (-99 : Int32) (c 1 8)) (fun b10 =>
      if b10 = true then
        kv_bind2 (fx_State_exchangeLow p3 c) (fun v11 c12 =>
        some (v11, c12))
      else
        some ((-1000000001 : Int32), c))
    else
      some ((-1000000001 : Int32), c)
  else if p1 = (3 : Int32) then
    if p2 = 0 then
      kv_bind1 (fx_K_isWithin p3 (c 1 7) (99 : Int32)) (fun b14 =>
      if b14 = true then
        kv_bind2 (fx_State_exchangeHigh p3 c) (fun v15 c16 =>
        some (v15, c16))
      else
        some ((-1000000001 : Int32), c))
    else
      some ((-1000000001 : Int32), c)
  else 
  some ((-1000000001 : Int32), c)
set_option maxRecDepth 20000 in
theorem cx_K_set (d : Nat) (p1 : Int32) (p2 : Int32) (p3 : Int32) (c : (Nat → Nat → Int32)) (y : (Nat → Nat → Int32) × (Nat → Int64) × (Nat → Int64)) : ∀ a, fx_K_set p1 p2 p3 c = some a → kv_C kM_K_set (d + 2) [.ref 0, .int p1, .int p2, .int p3] (c, y) (some (.int a.1), (a.2, y)) := by
  refine kv_entryX (E := fun a : (Int32 × (Nat → Nat → Int32)) => (some (.int a.1), (a.2, y))) rfl (Nat.le_of_ble_eq_true rfl) (fun o => ?_)
  unfold fx_K_set
  show kv_X _ _ _ _ _ 0 [(0, .ref 0), (1, .int p1), (2, .int p2), (3, .int p3)] [] (c, y)
  refine kv_iload_n (pc := 0) 1 rfl rfl dk_K_set_0 ?_
  refine kv_swIn (pc := 1) (v := (0 : Int32)) (tgt := 32) dk_K_set_1 (by decide) (by decide) rfl (by decide) ?_ (fun n1 => ?_)
  · refine kv_iload_n (pc := 32) 3 rfl rfl dk_K_set_32 ?_
    refine kv_iconst (pc := 33) (v := (0 : Int32)) dk_K_set_33 kki_0 ?_
    refine kv_bipush (pc := 34) (v := (9 : Int32)) dk_K_set_34 kkb_9 ?_
    refine kv_cS_cZ (pc := 36) (as := [.int p3, .int (0 : Int32), .int (9 : Int32)]) (st := []) ko_K_isWithin rfl kw_508 (Nat.le_of_ble_eq_true rfl) rfl dk_K_set_36 (cx_K_isWithin (d + 1) p3 (0 : Int32) (9 : Int32) c y) (fun b2 => ?_)
    refine kv_zif_eq (pc := 39) (tgt := 60) dk_K_set_39 rfl ?_ ?_
    · refine kv_ldc (pc := 60) (v := (-1000000001 : Int32)) kw_526 dk_K_set_60 ?_
      exact kv_iret (pc := 62) (fun h => h) rfl dk_K_set_62
    · refine kv_aload_n (pc := 42) 0 rfl rfl dk_K_set_42 ?_
      refine kv_getR (pc := 43) kf_K_10 kr_0 rfl kt_0_0 dk_K_set_43 ?_
      refine kv_getR (pc := 46) kf_K_58 kr_1 rfl kt_1_0 dk_K_set_46 ?_
      refine kv_getR (pc := 49) kf_K_76 kr_2 rfl kt_2_6 dk_K_set_49 ?_
      refine kv_iload_n (pc := 52) 2 rfl rfl dk_K_set_52 ?_
      refine kv_iload_n (pc := 53) 3 rfl rfl dk_K_set_53 ?_
      refine kv_cS_cIc (pc := 54) (as := [.ref 9, .int p2, .int p3]) (st := []) ko_K_exchange rfl kw_523 (Nat.le_of_ble_eq_true rfl) rfl dk_K_set_54 (cx_K_exchange d p2 p3 c y) (fun v3 c4 => ?_)
      refine kv_goto (pc := 57) (tgt := 62) dk_K_set_57 rfl ?_
      exact kv_iret (pc := 62) (fun h => h) rfl dk_K_set_62
  refine kv_swIn (pc := 1) (v := (1 : Int32)) (tgt := 63) dk_K_set_1 (by decide) (by decide) rfl (by decide) ?_ (fun n5 => ?_)
  · refine kv_iload_n (pc := 63) 3 rfl rfl dk_K_set_63 ?_
    refine kv_iconst (pc := 64) (v := (0 : Int32)) dk_K_set_64 kki_0 ?_
    refine kv_bipush (pc := 65) (v := (99 : Int32)) dk_K_set_65 kkb_99 ?_
    refine kv_cS_cZ (pc := 67) (as := [.int p3, .int (0 : Int32), .int (99 : Int32)]) (st := []) ko_K_isWithin rfl kw_508 (Nat.le_of_ble_eq_true rfl) rfl dk_K_set_67 (cx_K_isWithin (d + 1) p3 (0 : Int32) (99 : Int32) c y) (fun b6 => ?_)
    refine kv_zif_eq (pc := 70) (tgt := 88) dk_K_set_70 rfl ?_ ?_
    · refine kv_ldc (pc := 88) (v := (-1000000001 : Int32)) kw_526 dk_K_set_88 ?_
      exact kv_iret (pc := 90) (fun h => h) rfl dk_K_set_90
    · refine kv_aload_n (pc := 73) 0 rfl rfl dk_K_set_73 ?_
      refine kv_getR (pc := 74) kf_K_10 kr_0 rfl kt_0_0 dk_K_set_74 ?_
      refine kv_getR (pc := 77) kf_K_85 kr_1 rfl kt_1_4 dk_K_set_77 ?_
      refine kv_iload_n (pc := 80) 2 rfl rfl dk_K_set_80 ?_
      refine kv_iload_n (pc := 81) 3 rfl rfl dk_K_set_81 ?_
      refine kv_cS_cIc (pc := 82) (as := [.ref 25, .int p2, .int p3]) (st := []) ko_K_exchange rfl kw_523 (Nat.le_of_ble_eq_true rfl) rfl dk_K_set_82 (cx_K_exchange_25 d p2 p3 c y) (fun v7 c8 => ?_)
      refine kv_goto (pc := 85) (tgt := 90) dk_K_set_85 rfl ?_
      exact kv_iret (pc := 90) (fun h => h) rfl dk_K_set_90
  refine kv_swIn (pc := 1) (v := (2 : Int32)) (tgt := 91) dk_K_set_1 (by decide) (by decide) rfl (by decide) ?_ (fun n9 => ?_)
  · refine kv_iload_n (pc := 91) 2 rfl rfl dk_K_set_91 ?_
    refine kv_if_ne (pc := 92) (tgt := 122) dk_K_set_92 rfl ?_ ?_
    · refine kv_ldc (pc := 122) (v := (-1000000001 : Int32)) kw_526 dk_K_set_122 ?_
      exact kv_iret (pc := 124) (fun h => h) rfl dk_K_set_124
    · refine kv_iload_n (pc := 95) 3 rfl rfl dk_K_set_95 ?_
      refine kv_bipush (pc := 96) (v := (-99 : Int32)) dk_K_set_96 kkb_m99 ?_
      refine kv_aload_n (pc := 98) 0 rfl rfl dk_K_set_98 ?_
      refine kv_getR (pc := 99) kf_K_10 kr_0 rfl kt_0_0 dk_K_set_99 ?_
      refine kv_getC (pc := 102) kf_K_88 kr_1 kn_1 rfl dk_K_set_102 ?_
      refine kv_cS_cZ (pc := 105) (as := [.int p3, .int (-99 : Int32), .int (c 1 8)]) (st := []) ko_K_isWithin rfl kw_508 (Nat.le_of_ble_eq_true rfl) rfl dk_K_set_105 (cx_K_isWithin (d + 1) p3 (-99 : Int32) (c 1 8) c y) (fun b10 => ?_)
      refine kv_zif_eq (pc := 108) (tgt := 122) dk_K_set_108 rfl ?_ ?_
      · refine kv_ldc (pc := 122) (v := (-1000000001 : Int32)) kw_526 dk_K_set_122 ?_
        exact kv_iret (pc := 124) (fun h => h) rfl dk_K_set_124
      · refine kv_aload_n (pc := 111) 0 rfl rfl dk_K_set_111 ?_
        refine kv_getR (pc := 112) kf_K_10 kr_0 rfl kt_0_0 dk_K_set_112 ?_
        refine kv_iload_n (pc := 115) 3 rfl rfl dk_K_set_115 ?_
        refine kv_cV_cIc (pc := 116) (as := [.int p3]) (st := []) ko_State_exchangeLow kc_8 rfl rfl kr_1 kw_527 (Nat.le_of_ble_eq_true rfl) rfl dk_K_set_116 (cx_State_exchangeLow (d + 1) p3 c y) (fun v11 c12 => ?_)
        refine kv_goto (pc := 119) (tgt := 124) dk_K_set_119 rfl ?_
        exact kv_iret (pc := 124) (fun h => h) rfl dk_K_set_124
  refine kv_swIn (pc := 1) (v := (3 : Int32)) (tgt := 125) dk_K_set_1 (by decide) (by decide) rfl (by decide) ?_ (fun n13 => ?_)
  · refine kv_iload_n (pc := 125) 2 rfl rfl dk_K_set_125 ?_
    refine kv_if_ne (pc := 126) (tgt := 156) dk_K_set_126 rfl ?_ ?_
    · refine kv_ldc (pc := 156) (v := (-1000000001 : Int32)) kw_526 dk_K_set_156 ?_
      exact kv_iret (pc := 158) (fun h => h) rfl dk_K_set_158
    · refine kv_iload_n (pc := 129) 3 rfl rfl dk_K_set_129 ?_
      refine kv_aload_n (pc := 130) 0 rfl rfl dk_K_set_130 ?_
      refine kv_getR (pc := 131) kf_K_10 kr_0 rfl kt_0_0 dk_K_set_131 ?_
      refine kv_getC (pc := 134) kf_K_95 kr_1 kn_1 rfl dk_K_set_134 ?_
      refine kv_bipush (pc := 137) (v := (99 : Int32)) dk_K_set_137 kkb_99 ?_
      refine kv_cS_cZ (pc := 139) (as := [.int p3, .int (c 1 7), .int (99 : Int32)]) (st := []) ko_K_isWithin rfl kw_508 (Nat.le_of_ble_eq_true rfl) rfl dk_K_set_139 (cx_K_isWithin (d + 1) p3 (c 1 7) (99 : Int32) c y) (fun b14 => ?_)
      refine kv_zif_eq (pc := 142) (tgt := 156) dk_K_set_142 rfl ?_ ?_
      · refine kv_ldc (pc := 156) (v := (-1000000001 : Int32)) kw_526 dk_K_set_156 ?_
        exact kv_iret (pc := 158) (fun h => h) rfl dk_K_set_158
      · refine kv_aload_n (pc := 145) 0 rfl rfl dk_K_set_145 ?_
        refine kv_getR (pc := 146) kf_K_10 kr_0 rfl kt_0_0 dk_K_set_146 ?_
        refine kv_iload_n (pc := 149) 3 rfl rfl dk_K_set_149 ?_
        refine kv_cV_cIc (pc := 150) (as := [.int p3]) (st := []) ko_State_exchangeHigh kc_8 rfl rfl kr_1 kw_531 (Nat.le_of_ble_eq_true rfl) rfl dk_K_set_150 (cx_State_exchangeHigh (d + 1) p3 c y) (fun v15 c16 => ?_)
        refine kv_goto (pc := 153) (tgt := 158) dk_K_set_153 rfl ?_
        exact kv_iret (pc := 158) (fun h => h) rfl dk_K_set_158
  refine kv_swOut (pc := 1) (tgt := 159) dk_K_set_1 (by have qn1 := kv_ne (0 : Int32) (k := 0) rfl n1; have qn5 := kv_ne (1 : Int32) (k := 1) rfl n5; have qn9 := kv_ne (2 : Int32) (k := 2) rfl n9; have qn13 := kv_ne (3 : Int32) (k := 3) rfl n13; omega) (by decide) ?_
  refine kv_ldc (pc := 159) (v := (-1000000001 : Int32)) kw_526 dk_K_set_159 ?_
  exact kv_iret (pc := 161) (fun h => h) rfl dk_K_set_161
theorem dk_Chains_doubtOf_0 : decode prog_2_method_4_code 0 = .ok (.iconst 0, 1) := by decide +kernel
theorem dk_Chains_doubtOf_1 : decode prog_2_method_4_code 1 = .ok (.istore_n 2, 1) := by decide +kernel
theorem dk_Chains_doubtOf_2 : decode prog_2_method_4_code 2 = .ok (.iconst 0, 1) := by decide +kernel
theorem dk_Chains_doubtOf_3 : decode prog_2_method_4_code 3 = .ok (.istore_n 3, 1) := by decide +kernel
theorem dk_Chains_doubtOf_4 : decode prog_2_method_4_code 4 = .ok (.iload_n 3, 1) := by decide +kernel
theorem dk_Chains_doubtOf_5 : decode prog_2_method_4_code 5 = .ok (.aload_n 0, 1) := by decide +kernel
theorem dk_Chains_doubtOf_6 : decode prog_2_method_4_code 6 = .ok (.getfield 18, 3) := by decide +kernel
theorem dk_Chains_doubtOf_9 : decode prog_2_method_4_code 9 = .ok (.iload_n 1, 1) := by decide +kernel
theorem dk_Chains_doubtOf_10 : decode prog_2_method_4_code 10 = .ok (.iaload, 1) := by decide +kernel
theorem dk_Chains_doubtOf_11 : decode prog_2_method_4_code 11 = .ok (.if_icmp .ge 23, 3) := by decide +kernel
theorem dk_Chains_doubtOf_14 : decode prog_2_method_4_code 14 = .ok (.iload_n 2, 1) := by decide +kernel
theorem dk_Chains_doubtOf_15 : decode prog_2_method_4_code 15 = .ok (.aload_n 0, 1) := by decide +kernel
theorem dk_Chains_doubtOf_16 : decode prog_2_method_4_code 16 = .ok (.getfield 15, 3) := by decide +kernel
theorem dk_Chains_doubtOf_19 : decode prog_2_method_4_code 19 = .ok (.iload_n 1, 1) := by decide +kernel
theorem dk_Chains_doubtOf_20 : decode prog_2_method_4_code 20 = .ok (.bipush 12, 2) := by decide +kernel
theorem dk_Chains_doubtOf_22 : decode prog_2_method_4_code 22 = .ok (.imul, 1) := by decide +kernel
theorem dk_Chains_doubtOf_23 : decode prog_2_method_4_code 23 = .ok (.iload_n 3, 1) := by decide +kernel
theorem dk_Chains_doubtOf_24 : decode prog_2_method_4_code 24 = .ok (.iadd, 1) := by decide +kernel
theorem dk_Chains_doubtOf_25 : decode prog_2_method_4_code 25 = .ok (.iaload, 1) := by decide +kernel
theorem dk_Chains_doubtOf_26 : decode prog_2_method_4_code 26 = .ok (.iadd, 1) := by decide +kernel
theorem dk_Chains_doubtOf_27 : decode prog_2_method_4_code 27 = .ok (.istore_n 2, 1) := by decide +kernel
theorem dk_Chains_doubtOf_28 : decode prog_2_method_4_code 28 = .ok (.iinc 3 1, 3) := by decide +kernel
theorem dk_Chains_doubtOf_31 : decode prog_2_method_4_code 31 = .ok (.goto (-27), 3) := by decide +kernel
theorem dk_Chains_doubtOf_34 : decode prog_2_method_4_code 34 = .ok (.iload_n 2, 1) := by decide +kernel
theorem dk_Chains_doubtOf_35 : decode prog_2_method_4_code 35 = .ok (.ireturn, 1) := by decide +kernel
noncomputable def fb_Chains_doubtOf_4 (p1 : Int32) (c : (Nat → Nat → Int32)) (x1 : Int32) (x2 : Int32) : Option ((Int32 × Int32) ⊕ Int32) :=
  kv_gd (kv_in p1 4) (
  if (c 23 p1.toNatClampNeg) ≤ x2 then
    some (.inr x1)
  else
    kv_gd (kv_in ((p1 * (12 : Int32)) + x2) 48) (
    kv_let (x1 + (c 22 ((p1 * (12 : Int32)) + x2).toNatClampNeg)) (fun v6 =>
    some (.inl (v6, (x2 + (1 : Int32)))))))
noncomputable def fx_Chains_doubtOf (p1 : Int32) (c : (Nat → Nat → Int32)) : Option Int32 :=
  (kv_loop (kv_u2 (fb_Chains_doubtOf_4 p1 c)) ((0 : Int32), (0 : Int32))).bind (kv_u1 (fun x3 =>
  some x3))
set_option maxRecDepth 20000 in
theorem cx_Chains_doubtOf (d : Nat) (p1 : Int32) (c : (Nat → Nat → Int32)) (y : (Nat → Nat → Int32) × (Nat → Int64) × (Nat → Int64)) : ∀ a, fx_Chains_doubtOf p1 c = some a → kv_C kM_Chains_doubtOf (d + 0) [.ref 20, .int p1] (c, y) (some (.int a), (c, y)) := by
  refine kv_entryX (E := fun a : Int32 => (some (.int a), (c, y))) rfl (Nat.le_of_ble_eq_true rfl) (fun o => ?_)
  unfold fx_Chains_doubtOf
  show kv_X _ _ _ _ _ 0 [(0, .ref 20), (1, .int p1)] [] (c, y)
  refine kv_iconst (pc := 0) (v := (0 : Int32)) dk_Chains_doubtOf_0 kki_0 ?_
  refine kv_istore_n (pc := 1) (lv' := [(2, .int (0 : Int32)), (0, .ref 20), (1, .int p1)]) rfl (Nat.le_of_ble_eq_true rfl) rfl dk_Chains_doubtOf_1 ?_
  refine kv_iconst (pc := 2) (v := (0 : Int32)) dk_Chains_doubtOf_2 kki_0 ?_
  refine kv_istore_n (pc := 3) (lv' := [(3, .int (0 : Int32)), (2, .int (0 : Int32)), (0, .ref 20), (1, .int p1)]) rfl (Nat.le_of_ble_eq_true rfl) rfl dk_Chains_doubtOf_3 ?_
  refine kv_sub (lv' := [(0, .ref 20), (1, .int p1), (2, .int (0 : Int32)), (3, .int (0 : Int32))]) [2, 3, 1, 0] rfl ?_
  refine kv_lp_2_1 (LV := fun x1 x2 => [(0, .ref 20), (1, .int p1), (2, .int x1), (3, .int x2)]) (WW := fun x1 x2 => (c, y)) (LE1 := fun x3 => [(2, .int x3)]) (WE1 := fun x3 => (c, y)) (pe1 := 34) ?_ ?_
  · intro x3
    show kv_X _ _ _ _ _ 34 [(2, .int x3)] [] (c, y)
    refine kv_iload_n (pc := 34) 0 rfl rfl dk_Chains_doubtOf_34 ?_
    exact kv_iret (pc := 35) (fun h => h) rfl dk_Chains_doubtOf_35
  · intro hx4_0 x1 x2
    show kv_X _ _ _ _ (fb_Chains_doubtOf_4 p1 c x1 x2) 4 [(0, .ref 20), (1, .int p1), (2, .int x1), (3, .int x2)] [] (c, y)
    unfold fb_Chains_doubtOf_4
    refine kv_iload_n (pc := 4) 3 rfl rfl dk_Chains_doubtOf_4 ?_
    refine kv_aload_n (pc := 5) 0 rfl rfl dk_Chains_doubtOf_5 ?_
    refine kv_getR (pc := 6) kf_Chains_18 kr_20 rfl kt_20_2 dk_Chains_doubtOf_6 ?_
    refine kv_iload_n (pc := 9) 1 rfl rfl dk_Chains_doubtOf_9 ?_
    refine kv_guard (fun g4 => ?_)
    refine kv_aldC (pc := 10) kr_23 kn_23 kl_23 g4 rfl dk_Chains_doubtOf_10 ?_
    refine kv_icmp_ge (pc := 11) (tgt := 34) dk_Chains_doubtOf_11 rfl ?_ ?_
    · exact kv_sub [2] rfl (kv_leaf (hx4_0 _))
    · refine kv_iload_n (pc := 14) 2 rfl rfl dk_Chains_doubtOf_14 ?_
      refine kv_aload_n (pc := 15) 0 rfl rfl dk_Chains_doubtOf_15 ?_
      refine kv_getR (pc := 16) kf_Chains_15 kr_20 rfl kt_20_1 dk_Chains_doubtOf_16 ?_
      refine kv_iload_n (pc := 19) 1 rfl rfl dk_Chains_doubtOf_19 ?_
      refine kv_bipush (pc := 20) (v := (12 : Int32)) dk_Chains_doubtOf_20 kkb_12 ?_
      refine kv_imul (pc := 22) dk_Chains_doubtOf_22 ?_
      refine kv_iload_n (pc := 23) 3 rfl rfl dk_Chains_doubtOf_23 ?_
      refine kv_iadd (pc := 24) dk_Chains_doubtOf_24 ?_
      refine kv_guard (fun g5 => ?_)
      refine kv_aldC (pc := 25) kr_22 kn_22 kl_22 g5 rfl dk_Chains_doubtOf_25 ?_
      refine kv_iadd (pc := 26) dk_Chains_doubtOf_26 ?_
      refine kv_letI (fun v6 => ?_)
      refine kv_istore_n (pc := 27) (lv' := [(2, .int v6), (0, .ref 20), (1, .int p1), (3, .int x2)]) rfl (Nat.le_of_ble_eq_true rfl) rfl dk_Chains_doubtOf_27 ?_
      refine kv_iinc (pc := 28) (kk := (1 : Int32)) (lv' := [(3, .int (x2 + (1 : Int32))), (2, .int v6), (0, .ref 20), (1, .int p1)]) 3 rfl kki_1 rfl (Nat.le_of_ble_eq_true rfl) dk_Chains_doubtOf_28 ?_
      refine kv_goto (pc := 31) (tgt := 4) dk_Chains_doubtOf_31 rfl ?_
      exact kv_sub [2, 3, 1, 0] rfl (kv_leaf (fun h => h))
theorem dk_Chains_willDo_0 : decode prog_2_method_7_code 0 = .ok (.aload_n 0, 1) := by decide +kernel
theorem dk_Chains_willDo_1 : decode prog_2_method_7_code 1 = .ok (.getfield 18, 3) := by decide +kernel
theorem dk_Chains_willDo_4 : decode prog_2_method_7_code 4 = .ok (.iload_n 1, 1) := by decide +kernel
theorem dk_Chains_willDo_5 : decode prog_2_method_7_code 5 = .ok (.iaload, 1) := by decide +kernel
theorem dk_Chains_willDo_6 : decode prog_2_method_7_code 6 = .ok (.ifCond .le 16, 3) := by decide +kernel
theorem dk_Chains_willDo_9 : decode prog_2_method_7_code 9 = .ok (.aload_n 0, 1) := by decide +kernel
theorem dk_Chains_willDo_10 : decode prog_2_method_7_code 10 = .ok (.iload_n 1, 1) := by decide +kernel
theorem dk_Chains_willDo_11 : decode prog_2_method_7_code 11 = .ok (.invokevirtual 33, 3) := by decide +kernel
theorem dk_Chains_willDo_14 : decode prog_2_method_7_code 14 = .ok (.iload_n 2, 1) := by decide +kernel
theorem dk_Chains_willDo_15 : decode prog_2_method_7_code 15 = .ok (.if_icmp .gt 7, 3) := by decide +kernel
theorem dk_Chains_willDo_18 : decode prog_2_method_7_code 18 = .ok (.iconst 1, 1) := by decide +kernel
theorem dk_Chains_willDo_19 : decode prog_2_method_7_code 19 = .ok (.goto 4, 3) := by decide +kernel
theorem dk_Chains_willDo_22 : decode prog_2_method_7_code 22 = .ok (.iconst 0, 1) := by decide +kernel
theorem dk_Chains_willDo_23 : decode prog_2_method_7_code 23 = .ok (.ireturn, 1) := by decide +kernel
noncomputable def fx_Chains_willDo (p1 : Int32) (p2 : Int32) (c : (Nat → Nat → Int32)) : Option Bool :=
  kv_gd (kv_in p1 4) (
  if (c 23 p1.toNatClampNeg) ≤ 0 then
    some false
  else
    kv_bind1 (fx_Chains_doubtOf p1 c) (fun v2 =>
    if p2 < v2 then
      some false
    else
      some true))
set_option maxRecDepth 20000 in
theorem cx_Chains_willDo (d : Nat) (p1 : Int32) (p2 : Int32) (c : (Nat → Nat → Int32)) (y : (Nat → Nat → Int32) × (Nat → Int64) × (Nat → Int64)) : ∀ a, fx_Chains_willDo p1 p2 c = some a → kv_C kM_Chains_willDo (d + 1) [.ref 20, .int p1, .int p2] (c, y) (some (.int (kv_b a)), (c, y)) := by
  refine kv_entryX (E := fun a : Bool => (some (.int (kv_b a)), (c, y))) rfl (Nat.le_of_ble_eq_true rfl) (fun o => ?_)
  unfold fx_Chains_willDo
  show kv_X _ _ _ _ _ 0 [(0, .ref 20), (1, .int p1), (2, .int p2)] [] (c, y)
  refine kv_aload_n (pc := 0) 0 rfl rfl dk_Chains_willDo_0 ?_
  refine kv_getR (pc := 1) kf_Chains_18 kr_20 rfl kt_20_2 dk_Chains_willDo_1 ?_
  refine kv_iload_n (pc := 4) 1 rfl rfl dk_Chains_willDo_4 ?_
  refine kv_guard (fun g1 => ?_)
  refine kv_aldC (pc := 5) kr_23 kn_23 kl_23 g1 rfl dk_Chains_willDo_5 ?_
  refine kv_if_le (pc := 6) (tgt := 22) dk_Chains_willDo_6 rfl ?_ ?_
  · refine kv_iconst (pc := 22) (v := (0 : Int32)) dk_Chains_willDo_22 kki_0 ?_
    exact kv_zret (pc := 23) (b := false) (fun h => h) rfl dk_Chains_willDo_23
  · refine kv_aload_n (pc := 9) 0 rfl rfl dk_Chains_willDo_9 ?_
    refine kv_iload_n (pc := 10) 1 rfl rfl dk_Chains_willDo_10 ?_
    refine kv_cV_cI (pc := 11) (as := [.int p1]) (st := []) ko_Chains_doubtOf kc_0 rfl rfl kr_20 kw_957 (Nat.le_of_ble_eq_true rfl) rfl dk_Chains_willDo_11 (cx_Chains_doubtOf d p1 c y) (fun v2 => ?_)
    refine kv_iload_n (pc := 14) 2 rfl rfl dk_Chains_willDo_14 ?_
    refine kv_icmp_gt (pc := 15) (tgt := 22) dk_Chains_willDo_15 rfl ?_ ?_
    · refine kv_iconst (pc := 22) (v := (0 : Int32)) dk_Chains_willDo_22 kki_0 ?_
      exact kv_zret (pc := 23) (b := false) (fun h => h) rfl dk_Chains_willDo_23
    · refine kv_iconst (pc := 18) (v := (1 : Int32)) dk_Chains_willDo_18 kki_1 ?_
      refine kv_goto (pc := 19) (tgt := 23) dk_Chains_willDo_19 rfl ?_
      exact kv_zret (pc := 23) (b := true) (fun h => h) rfl dk_Chains_willDo_23
theorem dk_Chains_lack_0 : decode prog_2_method_5_code 0 = .ok (.aload_n 0, 1) := by decide +kernel
theorem dk_Chains_lack_1 : decode prog_2_method_5_code 1 = .ok (.iload_n 1, 1) := by decide +kernel
theorem dk_Chains_lack_2 : decode prog_2_method_5_code 2 = .ok (.invokevirtual 24, 3) := by decide +kernel
theorem dk_Chains_lack_5 : decode prog_2_method_5_code 5 = .ok (.aload_n 0, 1) := by decide +kernel
theorem dk_Chains_lack_6 : decode prog_2_method_5_code 6 = .ok (.iload_n 2, 1) := by decide +kernel
theorem dk_Chains_lack_7 : decode prog_2_method_5_code 7 = .ok (.invokevirtual 24, 3) := by decide +kernel
theorem dk_Chains_lack_10 : decode prog_2_method_5_code 10 = .ok (.isub, 1) := by decide +kernel
theorem dk_Chains_lack_11 : decode prog_2_method_5_code 11 = .ok (.invokestatic 28, 3) := by decide +kernel
theorem dk_Chains_lack_14 : decode prog_2_method_5_code 14 = .ok (.aload_n 0, 1) := by decide +kernel
theorem dk_Chains_lack_15 : decode prog_2_method_5_code 15 = .ok (.iload_n 1, 1) := by decide +kernel
theorem dk_Chains_lack_16 : decode prog_2_method_5_code 16 = .ok (.invokevirtual 33, 3) := by decide +kernel
theorem dk_Chains_lack_19 : decode prog_2_method_5_code 19 = .ok (.isub, 1) := by decide +kernel
theorem dk_Chains_lack_20 : decode prog_2_method_5_code 20 = .ok (.aload_n 0, 1) := by decide +kernel
theorem dk_Chains_lack_21 : decode prog_2_method_5_code 21 = .ok (.iload_n 2, 1) := by decide +kernel
theorem dk_Chains_lack_22 : decode prog_2_method_5_code 22 = .ok (.invokevirtual 33, 3) := by decide +kernel
theorem dk_Chains_lack_25 : decode prog_2_method_5_code 25 = .ok (.isub, 1) := by decide +kernel
theorem dk_Chains_lack_26 : decode prog_2_method_5_code 26 = .ok (.ireturn, 1) := by decide +kernel
noncomputable def fx_Chains_lack (p1 : Int32) (p2 : Int32) (c : (Nat → Nat → Int32)) : Option Int32 :=
  kv_bind1 (fx_Chains_sum p1 c) (fun v1 =>
  kv_bind1 (fx_Chains_sum p2 c) (fun v2 =>
  kv_bind1 (fx_Chains_doubtOf p1 c) (fun v3 =>
  kv_bind1 (fx_Chains_doubtOf p2 c) (fun v4 =>
  some (((if 0 ≤ (v1 - v2) then (v1 - v2) else 0 - (v1 - v2)) - v3) - v4)))))
set_option maxRecDepth 20000 in
theorem cx_Chains_lack (d : Nat) (p1 : Int32) (p2 : Int32) (c : (Nat → Nat → Int32)) (y : (Nat → Nat → Int32) × (Nat → Int64) × (Nat → Int64)) : ∀ a, fx_Chains_lack p1 p2 c = some a → kv_C kM_Chains_lack (d + 1) [.ref 20, .int p1, .int p2] (c, y) (some (.int a), (c, y)) := by
  refine kv_entryX (E := fun a : Int32 => (some (.int a), (c, y))) rfl (Nat.le_of_ble_eq_true rfl) (fun o => ?_)
  unfold fx_Chains_lack
  show kv_X _ _ _ _ _ 0 [(0, .ref 20), (1, .int p1), (2, .int p2)] [] (c, y)
  refine kv_aload_n (pc := 0) 0 rfl rfl dk_Chains_lack_0 ?_
  refine kv_iload_n (pc := 1) 1 rfl rfl dk_Chains_lack_1 ?_
  refine kv_cV_cI (pc := 2) (as := [.int p1]) (st := []) ko_Chains_sum kc_0 rfl rfl kr_20 kw_953 (Nat.le_of_ble_eq_true rfl) rfl dk_Chains_lack_2 (cx_Chains_sum d p1 c y) (fun v1 => ?_)
  refine kv_aload_n (pc := 5) 0 rfl rfl dk_Chains_lack_5 ?_
  refine kv_iload_n (pc := 6) 2 rfl rfl dk_Chains_lack_6 ?_
  refine kv_cV_cI (pc := 7) (as := [.int p2]) (st := [.int v1]) ko_Chains_sum kc_0 rfl rfl kr_20 kw_953 (Nat.le_of_ble_eq_true rfl) rfl dk_Chains_lack_7 (cx_Chains_sum d p2 c y) (fun v2 => ?_)
  refine kv_isub (pc := 10) dk_Chains_lack_10 ?_
  refine kv_mabs (pc := 11) kw_954 kw_955 kw_81 kv_wmabs (Nat.le_of_ble_eq_true rfl) dk_Chains_lack_11 ?_
  refine kv_aload_n (pc := 14) 0 rfl rfl dk_Chains_lack_14 ?_
  refine kv_iload_n (pc := 15) 1 rfl rfl dk_Chains_lack_15 ?_
  refine kv_cV_cI (pc := 16) (as := [.int p1]) (st := [.int (if 0 ≤ (v1 - v2) then (v1 - v2) else 0 - (v1 - v2))]) ko_Chains_doubtOf kc_0 rfl rfl kr_20 kw_957 (Nat.le_of_ble_eq_true rfl) rfl dk_Chains_lack_16 (cx_Chains_doubtOf d p1 c y) (fun v3 => ?_)
  refine kv_isub (pc := 19) dk_Chains_lack_19 ?_
  refine kv_aload_n (pc := 20) 0 rfl rfl dk_Chains_lack_20 ?_
  refine kv_iload_n (pc := 21) 2 rfl rfl dk_Chains_lack_21 ?_
  refine kv_cV_cI (pc := 22) (as := [.int p2]) (st := [.int ((if 0 ≤ (v1 - v2) then (v1 - v2) else 0 - (v1 - v2)) - v3)]) ko_Chains_doubtOf kc_0 rfl rfl kr_20 kw_957 (Nat.le_of_ble_eq_true rfl) rfl dk_Chains_lack_22 (cx_Chains_doubtOf d p2 c y) (fun v4 => ?_)
  refine kv_isub (pc := 25) dk_Chains_lack_25 ?_
  exact kv_iret (pc := 26) (fun h => h) rfl dk_Chains_lack_26
theorem dk_K_when_0 : decode prog_1_method_28_code 0 = .ok (.iload_n 1, 1) := by decide +kernel
theorem dk_K_when_1 : decode prog_1_method_28_code 1 = .ok (.ifCond .ge 5, 3) := by decide +kernel
theorem dk_K_when_4 : decode prog_1_method_28_code 4 = .ok (.iconst (-1), 1) := by decide +kernel
theorem dk_K_when_5 : decode prog_1_method_28_code 5 = .ok (.ireturn, 1) := by decide +kernel
theorem dk_K_when_6 : decode prog_1_method_28_code 6 = .ok (.aload_n 0, 1) := by decide +kernel
theorem dk_K_when_7 : decode prog_1_method_28_code 7 = .ok (.getfield 10, 3) := by decide +kernel
theorem dk_K_when_10 : decode prog_1_method_28_code 10 = .ok (.getfield 302, 3) := by decide +kernel
theorem dk_K_when_13 : decode prog_1_method_28_code 13 = .ok (.astore_n 2, 1) := by decide +kernel
theorem dk_K_when_14 : decode prog_1_method_28_code 14 = .ok (.sipush 141, 3) := by decide +kernel
theorem dk_K_when_17 : decode prog_1_method_28_code 17 = .ok (.istore_n 3, 1) := by decide +kernel
theorem dk_K_when_18 : decode prog_1_method_28_code 18 = .ok (.iconst 0, 1) := by decide +kernel
theorem dk_K_when_19 : decode prog_1_method_28_code 19 = .ok (.istore 4, 2) := by decide +kernel
theorem dk_K_when_21 : decode prog_1_method_28_code 21 = .ok (.iload 4, 2) := by decide +kernel
theorem dk_K_when_23 : decode prog_1_method_28_code 23 = .ok (.iconst 4, 1) := by decide +kernel
theorem dk_K_when_24 : decode prog_1_method_28_code 24 = .ok (.if_icmp .ge 80, 3) := by decide +kernel
theorem dk_K_when_27 : decode prog_1_method_28_code 27 = .ok (.iload 4, 2) := by decide +kernel
theorem dk_K_when_29 : decode prog_1_method_28_code 29 = .ok (.iconst 1, 1) := by decide +kernel
theorem dk_K_when_30 : decode prog_1_method_28_code 30 = .ok (.iadd, 1) := by decide +kernel
theorem dk_K_when_31 : decode prog_1_method_28_code 31 = .ok (.istore 5, 2) := by decide +kernel
theorem dk_K_when_33 : decode prog_1_method_28_code 33 = .ok (.iload 5, 2) := by decide +kernel
theorem dk_K_when_35 : decode prog_1_method_28_code 35 = .ok (.iconst 4, 1) := by decide +kernel
theorem dk_K_when_36 : decode prog_1_method_28_code 36 = .ok (.if_icmp .ge 62, 3) := by decide +kernel
theorem dk_K_when_39 : decode prog_1_method_28_code 39 = .ok (.aload_n 2, 1) := by decide +kernel
theorem dk_K_when_40 : decode prog_1_method_28_code 40 = .ok (.iload 4, 2) := by decide +kernel
theorem dk_K_when_42 : decode prog_1_method_28_code 42 = .ok (.iload_n 1, 1) := by decide +kernel
theorem dk_K_when_43 : decode prog_1_method_28_code 43 = .ok (.invokevirtual 327, 3) := by decide +kernel
theorem dk_K_when_46 : decode prog_1_method_28_code 46 = .ok (.ifCond .eq 46, 3) := by decide +kernel
theorem dk_K_when_49 : decode prog_1_method_28_code 49 = .ok (.aload_n 2, 1) := by decide +kernel
theorem dk_K_when_50 : decode prog_1_method_28_code 50 = .ok (.iload 5, 2) := by decide +kernel
theorem dk_K_when_52 : decode prog_1_method_28_code 52 = .ok (.iload_n 1, 1) := by decide +kernel
theorem dk_K_when_53 : decode prog_1_method_28_code 53 = .ok (.invokevirtual 327, 3) := by decide +kernel
theorem dk_K_when_56 : decode prog_1_method_28_code 56 = .ok (.ifCond .eq 36, 3) := by decide +kernel
theorem dk_K_when_59 : decode prog_1_method_28_code 59 = .ok (.aload_n 2, 1) := by decide +kernel
theorem dk_K_when_60 : decode prog_1_method_28_code 60 = .ok (.iload 4, 2) := by decide +kernel
theorem dk_K_when_62 : decode prog_1_method_28_code 62 = .ok (.iload 5, 2) := by decide +kernel
theorem dk_K_when_64 : decode prog_1_method_28_code 64 = .ok (.invokevirtual 321, 3) := by decide +kernel
theorem dk_K_when_67 : decode prog_1_method_28_code 67 = .ok (.ifCond .gt 25, 3) := by decide +kernel
theorem dk_K_when_70 : decode prog_1_method_28_code 70 = .ok (.iload_n 3, 1) := by decide +kernel
theorem dk_K_when_71 : decode prog_1_method_28_code 71 = .ok (.aload_n 2, 1) := by decide +kernel
theorem dk_K_when_72 : decode prog_1_method_28_code 72 = .ok (.getfield 311, 3) := by decide +kernel
theorem dk_K_when_75 : decode prog_1_method_28_code 75 = .ok (.iload 4, 2) := by decide +kernel
theorem dk_K_when_77 : decode prog_1_method_28_code 77 = .ok (.iaload, 1) := by decide +kernel
theorem dk_K_when_78 : decode prog_1_method_28_code 78 = .ok (.aload_n 2, 1) := by decide +kernel
theorem dk_K_when_79 : decode prog_1_method_28_code 79 = .ok (.getfield 311, 3) := by decide +kernel
theorem dk_K_when_82 : decode prog_1_method_28_code 82 = .ok (.iload 5, 2) := by decide +kernel
theorem dk_K_when_84 : decode prog_1_method_28_code 84 = .ok (.iaload, 1) := by decide +kernel
theorem dk_K_when_85 : decode prog_1_method_28_code 85 = .ok (.invokestatic 330, 3) := by decide +kernel
theorem dk_K_when_88 : decode prog_1_method_28_code 88 = .ok (.invokestatic 335, 3) := by decide +kernel
theorem dk_K_when_91 : decode prog_1_method_28_code 91 = .ok (.istore_n 3, 1) := by decide +kernel
theorem dk_K_when_92 : decode prog_1_method_28_code 92 = .ok (.iinc 5 1, 3) := by decide +kernel
theorem dk_K_when_95 : decode prog_1_method_28_code 95 = .ok (.goto (-62), 3) := by decide +kernel
theorem dk_K_when_98 : decode prog_1_method_28_code 98 = .ok (.iinc 4 1, 3) := by decide +kernel
theorem dk_K_when_101 : decode prog_1_method_28_code 101 = .ok (.goto (-80), 3) := by decide +kernel
theorem dk_K_when_104 : decode prog_1_method_28_code 104 = .ok (.iload_n 3, 1) := by decide +kernel
theorem dk_K_when_105 : decode prog_1_method_28_code 105 = .ok (.sipush 140, 3) := by decide +kernel
theorem dk_K_when_108 : decode prog_1_method_28_code 108 = .ok (.if_icmp .le 8, 3) := by decide +kernel
theorem dk_K_when_111 : decode prog_1_method_28_code 111 = .ok (.bipush (-4), 2) := by decide +kernel
theorem dk_K_when_113 : decode prog_1_method_28_code 113 = .ok (.goto 4, 3) := by decide +kernel
theorem dk_K_when_116 : decode prog_1_method_28_code 116 = .ok (.iload_n 3, 1) := by decide +kernel
theorem dk_K_when_117 : decode prog_1_method_28_code 117 = .ok (.ireturn, 1) := by decide +kernel
noncomputable def fj_K_when_92 (x6 : Int32) (x9 : Int32) : Option ((Int32 × Int32) ⊕ Int32) :=
  some (.inl (x9, (x6 + (1 : Int32))))
noncomputable def fb_K_when_33 (x2 : Int32) (p1 : Int32) (c : (Nat → Nat → Int32)) (x5 : Int32) (x6 : Int32) : Option ((Int32 × Int32) ⊕ Int32) :=
  if (4 : Int32) ≤ x6 then
    some (.inr x5)
  else
    kv_bind1 (fx_Chains_willDo x2 p1 c) (fun b8 =>
    if b8 = true then
      kv_bind1 (fx_Chains_willDo x6 p1 c) (fun b10 =>
      if b10 = true then
        kv_bind1 (fx_Chains_lack x2 x6 c) (fun v11 =>
        if 0 < v11 then
          fj_K_when_92 x6 x5
        else
          kv_gd (kv_in x2 4) (
          kv_gd (kv_in x6 4) (
          kv_let (if (if (c 24 x2.toNatClampNeg) < (c 24 x6.toNatClampNeg) then (c 24 x6.toNatClampNeg) else (c 24 x2.toNatClampNeg)) < x5 then (if (c 24 x2.toNatClampNeg) < (c 24 x6.toNatClampNeg) then (c 24 x6.toNatClampNeg) else (c 24 x2.toNatClampNeg)) else x5) (fun v14 =>
          fj_K_when_92 x6 v14))))
      else
        fj_K_when_92 x6 x5)
    else
      fj_K_when_92 x6 x5)
noncomputable def fb_K_when_21 (p1 : Int32) (c : (Nat → Nat → Int32)) (x1 : Int32) (x2 : Int32) : Option ((Int32 × Int32) ⊕ Int32) :=
  if (4 : Int32) ≤ x2 then
    some (.inr x1)
  else
    kv_let (x2 + (1 : Int32)) (fun v4 =>
    (kv_loop (kv_u2 (fb_K_when_33 x2 p1 c)) (x1, v4)).bind (kv_u1 (fun x7 =>
    some (.inl (x7, (x2 + (1 : Int32)))))))
noncomputable def fx_K_when (p1 : Int32) (c : (Nat → Nat → Int32)) : Option Int32 :=
  if 0 ≤ p1 then
    (kv_loop (kv_u2 (fb_K_when_21 p1 c)) ((141 : Int32), (0 : Int32))).bind (kv_u1 (fun x3 =>
    if x3 ≤ (140 : Int32) then
      some x3
    else
      some (-4 : Int32)))
  else
    some (-1 : Int32)
set_option maxRecDepth 20000 in
theorem cx_K_when (d : Nat) (p1 : Int32) (c : (Nat → Nat → Int32)) (y : (Nat → Nat → Int32) × (Nat → Int64) × (Nat → Int64)) : ∀ a, fx_K_when p1 c = some a → kv_C kM_K_when (d + 2) [.ref 0, .int p1] (c, y) (some (.int a), (c, y)) := by
  refine kv_entryX (E := fun a : Int32 => (some (.int a), (c, y))) rfl (Nat.le_of_ble_eq_true rfl) (fun o => ?_)
  unfold fx_K_when
  show kv_X _ _ _ _ _ 0 [(0, .ref 0), (1, .int p1)] [] (c, y)
  refine kv_iload_n (pc := 0) 1 rfl rfl dk_K_when_0 ?_
  refine kv_if_ge (pc := 1) (tgt := 6) dk_K_when_1 rfl ?_ ?_
  · refine kv_aload_n (pc := 6) 0 rfl rfl dk_K_when_6 ?_
    refine kv_getR (pc := 7) kf_K_10 kr_0 rfl kt_0_0 dk_K_when_7 ?_
    refine kv_getR (pc := 10) kf_K_302 kr_1 rfl kt_1_3 dk_K_when_10 ?_
    refine kv_astore_n (pc := 13) (lv' := [(2, .ref 20), (0, .ref 0), (1, .int p1)]) rfl (Nat.le_of_ble_eq_true rfl) rfl dk_K_when_13 ?_
    refine kv_sipush (pc := 14) (v := (141 : Int32)) dk_K_when_14 kks_141 ?_
    refine kv_istore_n (pc := 17) (lv' := [(3, .int (141 : Int32)), (2, .ref 20), (0, .ref 0), (1, .int p1)]) rfl (Nat.le_of_ble_eq_true rfl) rfl dk_K_when_17 ?_
    refine kv_iconst (pc := 18) (v := (0 : Int32)) dk_K_when_18 kki_0 ?_
    refine kv_istore (pc := 19) (lv' := [(4, .int (0 : Int32)), (3, .int (141 : Int32)), (2, .ref 20), (0, .ref 0), (1, .int p1)]) rfl (Nat.le_of_ble_eq_true rfl) dk_K_when_19 ?_
    refine kv_sub (lv' := [(1, .int p1), (2, .ref 20), (3, .int (141 : Int32)), (4, .int (0 : Int32))]) [4, 2, 1, 0] rfl ?_
    refine kv_lp_2_1 (LV := fun x1 x2 => [(1, .int p1), (2, .ref 20), (3, .int x1), (4, .int x2)]) (WW := fun x1 x2 => (c, y)) (LE1 := fun x3 => [(3, .int x3)]) (WE1 := fun x3 => (c, y)) (pe1 := 104) ?_ ?_
    · intro x3
      show kv_X _ _ _ _ _ 104 [(3, .int x3)] [] (c, y)
      refine kv_iload_n (pc := 104) 0 rfl rfl dk_K_when_104 ?_
      refine kv_sipush (pc := 105) (v := (140 : Int32)) dk_K_when_105 kks_140 ?_
      refine kv_icmp_le (pc := 108) (tgt := 116) dk_K_when_108 rfl ?_ ?_
      · refine kv_iload_n (pc := 116) 0 rfl rfl dk_K_when_116 ?_
        exact kv_iret (pc := 117) (fun h => h) rfl dk_K_when_117
      · refine kv_bipush (pc := 111) (v := (-4 : Int32)) dk_K_when_111 kkb_m4 ?_
        refine kv_goto (pc := 113) (tgt := 117) dk_K_when_113 rfl ?_
        exact kv_iret (pc := 117) (fun h => h) rfl dk_K_when_117
    · intro hx21_0 x1 x2
      show kv_X _ _ _ _ (fb_K_when_21 p1 c x1 x2) 21 [(1, .int p1), (2, .ref 20), (3, .int x1), (4, .int x2)] [] (c, y)
      unfold fb_K_when_21
      refine kv_iload (pc := 21) 3 rfl dk_K_when_21 ?_
      refine kv_iconst (pc := 23) (v := (4 : Int32)) dk_K_when_23 kki_4 ?_
      refine kv_icmp_ge (pc := 24) (tgt := 104) dk_K_when_24 rfl ?_ ?_
      · exact kv_sub [2] rfl (kv_leaf (hx21_0 _))
      · refine kv_iload (pc := 27) 3 rfl dk_K_when_27 ?_
        refine kv_iconst (pc := 29) (v := (1 : Int32)) dk_K_when_29 kki_1 ?_
        refine kv_iadd (pc := 30) dk_K_when_30 ?_
        refine kv_letI (fun v4 => ?_)
        refine kv_istore (pc := 31) (lv' := [(5, .int v4), (1, .int p1), (2, .ref 20), (3, .int x1), (4, .int x2)]) rfl (Nat.le_of_ble_eq_true rfl) dk_K_when_31 ?_
        refine kv_sub (lv' := [(1, .int p1), (2, .ref 20), (3, .int x1), (4, .int x2), (5, .int v4)]) [1, 2, 3, 4, 0] rfl ?_
        refine kv_lp_2_1 (LV := fun x5 x6 => [(1, .int p1), (2, .ref 20), (3, .int x5), (4, .int x2), (5, .int x6)]) (WW := fun x5 x6 => (c, y)) (LE1 := fun x7 => [(1, .int p1), (2, .ref 20), (3, .int x7), (4, .int x2)]) (WE1 := fun x7 => (c, y)) (pe1 := 98) ?_ ?_
        · intro x7
          show kv_X _ _ _ _ _ 98 [(1, .int p1), (2, .ref 20), (3, .int x7), (4, .int x2)] [] (c, y)
          refine kv_iinc (pc := 98) (kk := (1 : Int32)) (lv' := [(4, .int (x2 + (1 : Int32))), (1, .int p1), (2, .ref 20), (3, .int x7)]) 3 rfl kki_1 rfl (Nat.le_of_ble_eq_true rfl) dk_K_when_98 ?_
          refine kv_goto (pc := 101) (tgt := 21) dk_K_when_101 rfl ?_
          exact kv_sub [1, 2, 3, 0] rfl (kv_leaf (fun h => h))
        · intro hx33_0 x5 x6
          show kv_X _ _ _ _ (fb_K_when_33 x2 p1 c x5 x6) 33 [(1, .int p1), (2, .ref 20), (3, .int x5), (4, .int x2), (5, .int x6)] [] (c, y)
          unfold fb_K_when_33
          refine kv_iload (pc := 33) 4 rfl dk_K_when_33 ?_
          refine kv_iconst (pc := 35) (v := (4 : Int32)) dk_K_when_35 kki_4 ?_
          refine kv_icmp_ge (pc := 36) (tgt := 98) dk_K_when_36 rfl ?_ ?_
          · exact kv_sub [0, 1, 2, 3] rfl (kv_leaf (hx33_0 _))
          · refine kv_aload_n (pc := 39) 1 rfl rfl dk_K_when_39 ?_
            refine kv_iload (pc := 40) 3 rfl dk_K_when_40 ?_
            refine kv_iload_n (pc := 42) 0 rfl rfl dk_K_when_42 ?_
            refine kv_cV_cZ (pc := 43) (as := [.int x2, .int p1]) (st := []) ko_Chains_willDo kc_0 rfl rfl kr_20 kw_970 (Nat.le_of_ble_eq_true rfl) rfl dk_K_when_43 (cx_Chains_willDo d x2 p1 c y) (fun b8 => ?_)
            refine kv_cut_1 (J := fj_K_when_92 x6) (pcj := 92) (LJ := fun x9 => [(1, .int p1), (2, .ref 20), (3, .int x9), (4, .int x2), (5, .int x6)]) (SJ := fun x9 => []) (WJ := fun x9 => (c, y)) ?_ (fun hj92 => ?_)
            · intro x9
              show kv_X _ _ _ _ (fj_K_when_92 x6 x9) 92 [(1, .int p1), (2, .ref 20), (3, .int x9), (4, .int x2), (5, .int x6)] [] (c, y)
              unfold fj_K_when_92
              refine kv_iinc (pc := 92) (kk := (1 : Int32)) (lv' := [(5, .int (x6 + (1 : Int32))), (1, .int p1), (2, .ref 20), (3, .int x9), (4, .int x2)]) 4 rfl kki_1 rfl (Nat.le_of_ble_eq_true rfl) dk_K_when_92 ?_
              refine kv_goto (pc := 95) (tgt := 33) dk_K_when_95 rfl ?_
              exact kv_sub [1, 2, 3, 4, 0] rfl (kv_leaf (fun h => h))
            refine kv_zif_eq (pc := 46) (tgt := 92) dk_K_when_46 rfl ?_ ?_
            · exact hj92 x5
            · refine kv_aload_n (pc := 49) 1 rfl rfl dk_K_when_49 ?_
              refine kv_iload (pc := 50) 4 rfl dk_K_when_50 ?_
              refine kv_iload_n (pc := 52) 0 rfl rfl dk_K_when_52 ?_
              refine kv_cV_cZ (pc := 53) (as := [.int x6, .int p1]) (st := []) ko_Chains_willDo kc_0 rfl rfl kr_20 kw_970 (Nat.le_of_ble_eq_true rfl) rfl dk_K_when_53 (cx_Chains_willDo d x6 p1 c y) (fun b10 => ?_)
              refine kv_zif_eq (pc := 56) (tgt := 92) dk_K_when_56 rfl ?_ ?_
              · exact hj92 x5
              · refine kv_aload_n (pc := 59) 1 rfl rfl dk_K_when_59 ?_
                refine kv_iload (pc := 60) 3 rfl dk_K_when_60 ?_
                refine kv_iload (pc := 62) 4 rfl dk_K_when_62 ?_
                refine kv_cV_cI (pc := 64) (as := [.int x2, .int x6]) (st := []) ko_Chains_lack kc_0 rfl rfl kr_20 kw_949 (Nat.le_of_ble_eq_true rfl) rfl dk_K_when_64 (cx_Chains_lack d x2 x6 c y) (fun v11 => ?_)
                refine kv_if_gt (pc := 67) (tgt := 92) dk_K_when_67 rfl ?_ ?_
                · exact hj92 x5
                · refine kv_iload_n (pc := 70) 2 rfl rfl dk_K_when_70 ?_
                  refine kv_aload_n (pc := 71) 1 rfl rfl dk_K_when_71 ?_
                  refine kv_getR (pc := 72) kf_K_311 kr_20 rfl kt_20_3 dk_K_when_72 ?_
                  refine kv_iload (pc := 75) 3 rfl dk_K_when_75 ?_
                  refine kv_guard (fun g12 => ?_)
                  refine kv_aldC (pc := 77) kr_24 kn_24 kl_24 g12 rfl dk_K_when_77 ?_
                  refine kv_aload_n (pc := 78) 1 rfl rfl dk_K_when_78 ?_
                  refine kv_getR (pc := 79) kf_K_311 kr_20 rfl kt_20_3 dk_K_when_79 ?_
                  refine kv_iload (pc := 82) 4 rfl dk_K_when_82 ?_
                  refine kv_guard (fun g13 => ?_)
                  refine kv_aldC (pc := 84) kr_24 kn_24 kl_24 g13 rfl dk_K_when_84 ?_
                  refine kv_mmax (pc := 85) kw_974 kw_975 kw_81 kv_wmmax (Nat.le_of_ble_eq_true rfl) dk_K_when_85 ?_
                  refine kv_mmin (pc := 88) kw_977 kw_978 kw_81 kv_wmmin (Nat.le_of_ble_eq_true rfl) dk_K_when_88 ?_
                  refine kv_letI (fun v14 => ?_)
                  refine kv_istore_n (pc := 91) (lv' := [(3, .int v14), (1, .int p1), (2, .ref 20), (4, .int x2), (5, .int x6)]) rfl (Nat.le_of_ble_eq_true rfl) rfl dk_K_when_91 ?_
                  exact kv_sub [1, 2, 0, 3, 4] rfl (hj92 v14)
  · refine kv_iconst (pc := 4) (v := (-1 : Int32)) dk_K_when_4 kki_m1 ?_
    exact kv_iret (pc := 5) (fun h => h) rfl dk_K_when_5
theorem dk_K_isShelf_0 : decode prog_1_method_44_code 0 = .ok (.iload_n 0, 1) := by decide +kernel
theorem dk_K_isShelf_1 : decode prog_1_method_44_code 1 = .ok (.iconst 0, 1) := by decide +kernel
theorem dk_K_isShelf_2 : decode prog_1_method_44_code 2 = .ok (.bipush 7, 2) := by decide +kernel
theorem dk_K_isShelf_4 : decode prog_1_method_44_code 4 = .ok (.invokestatic 54, 3) := by decide +kernel
theorem dk_K_isShelf_7 : decode prog_1_method_44_code 7 = .ok (.ireturn, 1) := by decide +kernel
noncomputable def fx_K_isShelf (p0 : Int32) : Option Bool :=
  kv_bind1 (fx_K_isWithin p0 (0 : Int32) (7 : Int32)) (fun b1 =>
  some b1)
set_option maxRecDepth 20000 in
theorem cx_K_isShelf (d : Nat) (p0 : Int32) (c : (Nat → Nat → Int32)) (y : (Nat → Nat → Int32) × (Nat → Int64) × (Nat → Int64)) : ∀ a, fx_K_isShelf p0 = some a → kv_C kM_K_isShelf (d + 1) [.int p0] (c, y) (some (.int (kv_b a)), (c, y)) := by
  refine kv_entryX (E := fun a : Bool => (some (.int (kv_b a)), (c, y))) rfl (Nat.le_of_ble_eq_true rfl) (fun o => ?_)
  unfold fx_K_isShelf
  show kv_X _ _ _ _ _ 0 [(0, .int p0)] [] (c, y)
  refine kv_iload_n (pc := 0) 0 rfl rfl dk_K_isShelf_0 ?_
  refine kv_iconst (pc := 1) (v := (0 : Int32)) dk_K_isShelf_1 kki_0 ?_
  refine kv_bipush (pc := 2) (v := (7 : Int32)) dk_K_isShelf_2 kkb_7 ?_
  refine kv_cS_cZ (pc := 4) (as := [.int p0, .int (0 : Int32), .int (7 : Int32)]) (st := []) ko_K_isWithin rfl kw_508 (Nat.le_of_ble_eq_true rfl) rfl dk_K_isShelf_4 (cx_K_isWithin d p0 (0 : Int32) (7 : Int32) c y) (fun b1 => ?_)
  exact kv_zret (pc := 7) (b := b1) (fun h => h) rfl dk_K_isShelf_7
theorem dk_Shelf_holdLump_0 : decode prog_9_method_5_code 0 = .ok (.aload_n 0, 1) := by decide +kernel
theorem dk_Shelf_holdLump_1 : decode prog_9_method_5_code 1 = .ok (.iconst 1, 1) := by decide +kernel
theorem dk_Shelf_holdLump_2 : decode prog_9_method_5_code 2 = .ok (.putfield 15, 3) := by decide +kernel
theorem dk_Shelf_holdLump_5 : decode prog_9_method_5_code 5 = .ok (.aload_n 0, 1) := by decide +kernel
theorem dk_Shelf_holdLump_6 : decode prog_9_method_5_code 6 = .ok (.iload_n 2, 1) := by decide +kernel
theorem dk_Shelf_holdLump_7 : decode prog_9_method_5_code 7 = .ok (.putfield 19, 3) := by decide +kernel
theorem dk_Shelf_holdLump_10 : decode prog_9_method_5_code 10 = .ok (.aload_n 0, 1) := by decide +kernel
theorem dk_Shelf_holdLump_11 : decode prog_9_method_5_code 11 = .ok (.aload_n 1, 1) := by decide +kernel
theorem dk_Shelf_holdLump_12 : decode prog_9_method_5_code 12 = .ok (.getfield 22, 3) := by decide +kernel
theorem dk_Shelf_holdLump_15 : decode prog_9_method_5_code 15 = .ok (.iload_n 2, 1) := by decide +kernel
theorem dk_Shelf_holdLump_16 : decode prog_9_method_5_code 16 = .ok (.iaload, 1) := by decide +kernel
theorem dk_Shelf_holdLump_17 : decode prog_9_method_5_code 17 = .ok (.putfield 27, 3) := by decide +kernel
theorem dk_Shelf_holdLump_20 : decode prog_9_method_5_code 20 = .ok (.aload_n 0, 1) := by decide +kernel
theorem dk_Shelf_holdLump_21 : decode prog_9_method_5_code 21 = .ok (.aload_n 1, 1) := by decide +kernel
theorem dk_Shelf_holdLump_22 : decode prog_9_method_5_code 22 = .ok (.getfield 29, 3) := by decide +kernel
theorem dk_Shelf_holdLump_25 : decode prog_9_method_5_code 25 = .ok (.iload_n 2, 1) := by decide +kernel
theorem dk_Shelf_holdLump_26 : decode prog_9_method_5_code 26 = .ok (.iaload, 1) := by decide +kernel
theorem dk_Shelf_holdLump_27 : decode prog_9_method_5_code 27 = .ok (.putfield 32, 3) := by decide +kernel
theorem dk_Shelf_holdLump_30 : decode prog_9_method_5_code 30 = .ok (.aload_n 0, 1) := by decide +kernel
theorem dk_Shelf_holdLump_31 : decode prog_9_method_5_code 31 = .ok (.aload_n 1, 1) := by decide +kernel
theorem dk_Shelf_holdLump_32 : decode prog_9_method_5_code 32 = .ok (.getfield 34, 3) := by decide +kernel
theorem dk_Shelf_holdLump_35 : decode prog_9_method_5_code 35 = .ok (.iload_n 2, 1) := by decide +kernel
theorem dk_Shelf_holdLump_36 : decode prog_9_method_5_code 36 = .ok (.iaload, 1) := by decide +kernel
theorem dk_Shelf_holdLump_37 : decode prog_9_method_5_code 37 = .ok (.putfield 37, 3) := by decide +kernel
theorem dk_Shelf_holdLump_40 : decode prog_9_method_5_code 40 = .ok (.return_, 1) := by decide +kernel
noncomputable def fx_Shelf_holdLump (r0 : Nat) (p2 : Int32) (c : (Nat → Nat → Int32)) : Option (Nat → Nat → Int32) :=
  kv_let (kv_st c r0 1 (1 : Int32)) (fun c1 =>
  kv_let (kv_st c1 r0 4 p2) (fun c2 =>
  kv_gd (kv_in p2 10) (
  kv_let (kv_st c2 r0 5 (c2 3 p2.toNatClampNeg)) (fun c4 =>
  kv_let (kv_st c4 r0 6 (c4 4 p2.toNatClampNeg)) (fun c5 =>
  kv_let (kv_st c5 r0 7 (c5 5 p2.toNatClampNeg)) (fun c6 =>
  some c6))))))
set_option maxRecDepth 20000 in
theorem cx_Shelf_holdLump (d : Nat) (r0 : Nat) (p2 : Int32) (c : (Nat → Nat → Int32)) (y : (Nat → Nat → Int32) × (Nat → Int64) × (Nat → Int64)) (h0 : kv_kd r0 = 7) : ∀ a, fx_Shelf_holdLump r0 p2 c = some a → kv_C kM_Shelf_holdLump (d + 0) [.ref r0, .ref 2, .int p2] (c, y) (none, (a, y)) := by
  refine kv_entryX (E := fun a : (Nat → Nat → Int32) => (none, (a, y))) rfl (Nat.le_of_ble_eq_true rfl) (fun o => ?_)
  unfold fx_Shelf_holdLump
  show kv_X _ _ _ _ _ 0 [(0, .ref r0), (1, .ref 2), (2, .int p2)] [] (c, y)
  refine kv_aload_n (pc := 0) 0 rfl rfl dk_Shelf_holdLump_0 ?_
  refine kv_iconst (pc := 1) (v := (1 : Int32)) dk_Shelf_holdLump_1 kki_1 ?_
  refine kv_putC (pc := 2) kf_Shelf_15 h0 (kv_7nc h0) rfl rfl rfl dk_Shelf_holdLump_2 (fun c1 => ?_)
  refine kv_aload_n (pc := 5) 0 rfl rfl dk_Shelf_holdLump_5 ?_
  refine kv_iload_n (pc := 6) 2 rfl rfl dk_Shelf_holdLump_6 ?_
  refine kv_putC (pc := 7) kf_Shelf_19 h0 (kv_7nc h0) rfl rfl rfl dk_Shelf_holdLump_7 (fun c2 => ?_)
  refine kv_aload_n (pc := 10) 0 rfl rfl dk_Shelf_holdLump_10 ?_
  refine kv_aload_n (pc := 11) 1 rfl rfl dk_Shelf_holdLump_11 ?_
  refine kv_getR (pc := 12) kf_Shelf_22 kr_2 rfl kt_2_0 dk_Shelf_holdLump_12 ?_
  refine kv_iload_n (pc := 15) 2 rfl rfl dk_Shelf_holdLump_15 ?_
  refine kv_guard (fun g3 => ?_)
  refine kv_aldC (pc := 16) kr_3 kn_3 kl_3 g3 rfl dk_Shelf_holdLump_16 ?_
  refine kv_putC (pc := 17) kf_Shelf_27 h0 (kv_7nc h0) rfl rfl rfl dk_Shelf_holdLump_17 (fun c4 => ?_)
  refine kv_aload_n (pc := 20) 0 rfl rfl dk_Shelf_holdLump_20 ?_
  refine kv_aload_n (pc := 21) 1 rfl rfl dk_Shelf_holdLump_21 ?_
  refine kv_getR (pc := 22) kf_Shelf_29 kr_2 rfl kt_2_1 dk_Shelf_holdLump_22 ?_
  refine kv_iload_n (pc := 25) 2 rfl rfl dk_Shelf_holdLump_25 ?_
  refine kv_aldC (pc := 26) kr_4 kn_4 kl_4 g3 rfl dk_Shelf_holdLump_26 ?_
  refine kv_putC (pc := 27) kf_Shelf_32 h0 (kv_7nc h0) rfl rfl rfl dk_Shelf_holdLump_27 (fun c5 => ?_)
  refine kv_aload_n (pc := 30) 0 rfl rfl dk_Shelf_holdLump_30 ?_
  refine kv_aload_n (pc := 31) 1 rfl rfl dk_Shelf_holdLump_31 ?_
  refine kv_getR (pc := 32) kf_Shelf_34 kr_2 rfl kt_2_2 dk_Shelf_holdLump_32 ?_
  refine kv_iload_n (pc := 35) 2 rfl rfl dk_Shelf_holdLump_35 ?_
  refine kv_aldC (pc := 36) kr_5 kn_5 kl_5 g3 rfl dk_Shelf_holdLump_36 ?_
  refine kv_putC (pc := 37) kf_Shelf_37 h0 (kv_7nc h0) rfl rfl rfl dk_Shelf_holdLump_37 (fun c6 => ?_)
  exact kv_vret (pc := 40) (fun h => h) rfl dk_Shelf_holdLump_40
theorem dk_Shelf_clear_0 : decode prog_9_method_4_code 0 = .ok (.aload_n 0, 1) := by decide +kernel
theorem dk_Shelf_clear_1 : decode prog_9_method_4_code 1 = .ok (.iconst 0, 1) := by decide +kernel
theorem dk_Shelf_clear_2 : decode prog_9_method_4_code 2 = .ok (.putfield 15, 3) := by decide +kernel
theorem dk_Shelf_clear_5 : decode prog_9_method_4_code 5 = .ok (.return_, 1) := by decide +kernel
noncomputable def fx_Shelf_clear (r0 : Nat) (c : (Nat → Nat → Int32)) : Option (Nat → Nat → Int32) :=
  kv_let (kv_st c r0 1 (0 : Int32)) (fun c1 =>
  some c1)
set_option maxRecDepth 20000 in
theorem cx_Shelf_clear (d : Nat) (r0 : Nat) (c : (Nat → Nat → Int32)) (y : (Nat → Nat → Int32) × (Nat → Int64) × (Nat → Int64)) (h0 : kv_kd r0 = 7) : ∀ a, fx_Shelf_clear r0 c = some a → kv_C kM_Shelf_clear (d + 0) [.ref r0] (c, y) (none, (a, y)) := by
  refine kv_entryX (E := fun a : (Nat → Nat → Int32) => (none, (a, y))) rfl (Nat.le_of_ble_eq_true rfl) (fun o => ?_)
  unfold fx_Shelf_clear
  show kv_X _ _ _ _ _ 0 [(0, .ref r0)] [] (c, y)
  refine kv_aload_n (pc := 0) 0 rfl rfl dk_Shelf_clear_0 ?_
  refine kv_iconst (pc := 1) (v := (0 : Int32)) dk_Shelf_clear_1 kki_0 ?_
  refine kv_putC (pc := 2) kf_Shelf_15 h0 (kv_7nc h0) rfl rfl rfl dk_Shelf_clear_2 (fun c1 => ?_)
  exact kv_vret (pc := 5) (fun h => h) rfl dk_Shelf_clear_5
theorem dk_K_keep_0 : decode prog_1_method_33_code 0 = .ok (.iload_n 1, 1) := by decide +kernel
theorem dk_K_keep_1 : decode prog_1_method_33_code 1 = .ok (.invokestatic 375, 3) := by decide +kernel
theorem dk_K_keep_4 : decode prog_1_method_33_code 4 = .ok (.ifCond .eq 12, 3) := by decide +kernel
theorem dk_K_keep_7 : decode prog_1_method_33_code 7 = .ok (.iload_n 2, 1) := by decide +kernel
theorem dk_K_keep_8 : decode prog_1_method_33_code 8 = .ok (.iconst 0, 1) := by decide +kernel
theorem dk_K_keep_9 : decode prog_1_method_33_code 9 = .ok (.iconst 1, 1) := by decide +kernel
theorem dk_K_keep_10 : decode prog_1_method_33_code 10 = .ok (.invokestatic 54, 3) := by decide +kernel
theorem dk_K_keep_13 : decode prog_1_method_33_code 13 = .ok (.ifCond .ne 5, 3) := by decide +kernel
theorem dk_K_keep_16 : decode prog_1_method_33_code 16 = .ok (.iconst (-1), 1) := by decide +kernel
theorem dk_K_keep_17 : decode prog_1_method_33_code 17 = .ok (.ireturn, 1) := by decide +kernel
theorem dk_K_keep_18 : decode prog_1_method_33_code 18 = .ok (.iload_n 2, 1) := by decide +kernel
theorem dk_K_keep_19 : decode prog_1_method_33_code 19 = .ok (.ifCond .ne 14, 3) := by decide +kernel
theorem dk_K_keep_22 : decode prog_1_method_33_code 22 = .ok (.aload_n 0, 1) := by decide +kernel
theorem dk_K_keep_23 : decode prog_1_method_33_code 23 = .ok (.getfield 21, 3) := by decide +kernel
theorem dk_K_keep_26 : decode prog_1_method_33_code 26 = .ok (.iload_n 1, 1) := by decide +kernel
theorem dk_K_keep_27 : decode prog_1_method_33_code 27 = .ok (.aaload, 1) := by decide +kernel
theorem dk_K_keep_28 : decode prog_1_method_33_code 28 = .ok (.invokevirtual 378, 3) := by decide +kernel
theorem dk_K_keep_31 : decode prog_1_method_33_code 31 = .ok (.iconst 0, 1) := by decide +kernel
theorem dk_K_keep_32 : decode prog_1_method_33_code 32 = .ok (.ireturn, 1) := by decide +kernel
theorem dk_K_keep_33 : decode prog_1_method_33_code 33 = .ok (.aload_n 0, 1) := by decide +kernel
theorem dk_K_keep_34 : decode prog_1_method_33_code 34 = .ok (.getfield 10, 3) := by decide +kernel
theorem dk_K_keep_37 : decode prog_1_method_33_code 37 = .ok (.getfield 58, 3) := by decide +kernel
theorem dk_K_keep_40 : decode prog_1_method_33_code 40 = .ok (.iload_n 3, 1) := by decide +kernel
theorem dk_K_keep_41 : decode prog_1_method_33_code 41 = .ok (.invokevirtual 101, 3) := by decide +kernel
theorem dk_K_keep_44 : decode prog_1_method_33_code 44 = .ok (.ifCond .ne 5, 3) := by decide +kernel
theorem dk_K_keep_47 : decode prog_1_method_33_code 47 = .ok (.iconst (-1), 1) := by decide +kernel
theorem dk_K_keep_48 : decode prog_1_method_33_code 48 = .ok (.ireturn, 1) := by decide +kernel
theorem dk_K_keep_49 : decode prog_1_method_33_code 49 = .ok (.aload_n 0, 1) := by decide +kernel
theorem dk_K_keep_50 : decode prog_1_method_33_code 50 = .ok (.getfield 21, 3) := by decide +kernel
theorem dk_K_keep_53 : decode prog_1_method_33_code 53 = .ok (.iload_n 1, 1) := by decide +kernel
theorem dk_K_keep_54 : decode prog_1_method_33_code 54 = .ok (.aaload, 1) := by decide +kernel
theorem dk_K_keep_55 : decode prog_1_method_33_code 55 = .ok (.aload_n 0, 1) := by decide +kernel
theorem dk_K_keep_56 : decode prog_1_method_33_code 56 = .ok (.getfield 10, 3) := by decide +kernel
theorem dk_K_keep_59 : decode prog_1_method_33_code 59 = .ok (.getfield 58, 3) := by decide +kernel
theorem dk_K_keep_62 : decode prog_1_method_33_code 62 = .ok (.iload_n 3, 1) := by decide +kernel
theorem dk_K_keep_63 : decode prog_1_method_33_code 63 = .ok (.invokevirtual 381, 3) := by decide +kernel
theorem dk_K_keep_66 : decode prog_1_method_33_code 66 = .ok (.iconst 0, 1) := by decide +kernel
theorem dk_K_keep_67 : decode prog_1_method_33_code 67 = .ok (.ireturn, 1) := by decide +kernel
noncomputable def fx_K_keep (p1 : Int32) (p2 : Int32) (p3 : Int32) (c : (Nat → Nat → Int32)) : Option (Int32 × (Nat → Nat → Int32)) :=
  kv_bind1 (fx_K_isShelf p1) (fun b1 =>
  if b1 = true then
    kv_bind1 (fx_K_isWithin p2 (0 : Int32) (1 : Int32)) (fun b2 =>
    if b2 = true then
      if p2 = 0 then
        kv_gd (kv_in p1 8) (
        kv_bind1 (fx_Shelf_clear (kv_tg 51 p1.toNatClampNeg) c) (fun c7 =>
        some ((0 : Int32), c7)))
      else
        kv_bind1 (fx_Lumps_has p3 c) (fun b3 =>
        if b3 = true then
          kv_gd (kv_in p1 8) (
          kv_bind1 (fx_Shelf_holdLump (kv_tg 51 p1.toNatClampNeg) p3 c) (fun c5 =>
          some ((0 : Int32), c5)))
        else
          some ((-1 : Int32), c))
    else
      some ((-1 : Int32), c))
  else
    some ((-1 : Int32), c))
set_option maxRecDepth 20000 in
theorem cx_K_keep (d : Nat) (p1 : Int32) (p2 : Int32) (p3 : Int32) (c : (Nat → Nat → Int32)) (y : (Nat → Nat → Int32) × (Nat → Int64) × (Nat → Int64)) : ∀ a, fx_K_keep p1 p2 p3 c = some a → kv_C kM_K_keep (d + 2) [.ref 0, .int p1, .int p2, .int p3] (c, y) (some (.int a.1), (a.2, y)) := by
  refine kv_entryX (E := fun a : (Int32 × (Nat → Nat → Int32)) => (some (.int a.1), (a.2, y))) rfl (Nat.le_of_ble_eq_true rfl) (fun o => ?_)
  unfold fx_K_keep
  show kv_X _ _ _ _ _ 0 [(0, .ref 0), (1, .int p1), (2, .int p2), (3, .int p3)] [] (c, y)
  refine kv_iload_n (pc := 0) 1 rfl rfl dk_K_keep_0 ?_
  refine kv_cS_cZ (pc := 1) (as := [.int p1]) (st := []) ko_K_isShelf rfl kw_620 (Nat.le_of_ble_eq_true rfl) rfl dk_K_keep_1 (cx_K_isShelf d p1 c y) (fun b1 => ?_)
  refine kv_zif_eq (pc := 4) (tgt := 16) dk_K_keep_4 rfl ?_ ?_
  · refine kv_iconst (pc := 16) (v := (-1 : Int32)) dk_K_keep_16 kki_m1 ?_
    exact kv_iret (pc := 17) (fun h => h) rfl dk_K_keep_17
  · refine kv_iload_n (pc := 7) 2 rfl rfl dk_K_keep_7 ?_
    refine kv_iconst (pc := 8) (v := (0 : Int32)) dk_K_keep_8 kki_0 ?_
    refine kv_iconst (pc := 9) (v := (1 : Int32)) dk_K_keep_9 kki_1 ?_
    refine kv_cS_cZ (pc := 10) (as := [.int p2, .int (0 : Int32), .int (1 : Int32)]) (st := []) ko_K_isWithin rfl kw_508 (Nat.le_of_ble_eq_true rfl) rfl dk_K_keep_10 (cx_K_isWithin (d + 1) p2 (0 : Int32) (1 : Int32) c y) (fun b2 => ?_)
    refine kv_zif_ne (pc := 13) (tgt := 18) dk_K_keep_13 rfl ?_ ?_
    · refine kv_iload_n (pc := 18) 2 rfl rfl dk_K_keep_18 ?_
      refine kv_if_ne (pc := 19) (tgt := 33) dk_K_keep_19 rfl ?_ ?_
      · refine kv_aload_n (pc := 33) 0 rfl rfl dk_K_keep_33 ?_
        refine kv_getR (pc := 34) kf_K_10 kr_0 rfl kt_0_0 dk_K_keep_34 ?_
        refine kv_getR (pc := 37) kf_K_58 kr_1 rfl kt_1_0 dk_K_keep_37 ?_
        refine kv_iload_n (pc := 40) 3 rfl rfl dk_K_keep_40 ?_
        refine kv_cV_cZ (pc := 41) (as := [.int p3]) (st := []) ko_Lumps_has kc_3 rfl rfl kr_2 kw_539 (Nat.le_of_ble_eq_true rfl) rfl dk_K_keep_41 (cx_Lumps_has (d + 1) p3 c y) (fun b3 => ?_)
        refine kv_zif_ne (pc := 44) (tgt := 49) dk_K_keep_44 rfl ?_ ?_
        · refine kv_aload_n (pc := 49) 0 rfl rfl dk_K_keep_49 ?_
          refine kv_getR (pc := 50) kf_K_21 kr_0 rfl kt_0_3 dk_K_keep_50 ?_
          refine kv_iload_n (pc := 53) 1 rfl rfl dk_K_keep_53 ?_
          refine kv_guard (fun g4 => ?_)
          refine kv_aald (pc := 54) (Or.inl kr_51) kl_51 g4 rfl dk_K_keep_54 ?_
          refine kv_aload_n (pc := 55) 0 rfl rfl dk_K_keep_55 ?_
          refine kv_getR (pc := 56) kf_K_10 kr_0 rfl kt_0_0 dk_K_keep_56 ?_
          refine kv_getR (pc := 59) kf_K_58 kr_1 rfl kt_1_0 dk_K_keep_59 ?_
          refine kv_iload_n (pc := 62) 3 rfl rfl dk_K_keep_62 ?_
          refine kv_cV_cc (pc := 63) (as := [.ref 2, .int p3]) (st := []) ko_Shelf_holdLump kc_7 rfl rfl (kv_sh g4) kw_1085 (Nat.le_of_ble_eq_true rfl) rfl dk_K_keep_63 (cx_Shelf_holdLump (d + 1) (kv_tg 51 p1.toNatClampNeg) p3 c y (kv_sh g4)) (fun c5 => ?_)
          refine kv_iconst (pc := 66) (v := (0 : Int32)) dk_K_keep_66 kki_0 ?_
          exact kv_iret (pc := 67) (fun h => h) rfl dk_K_keep_67
        · refine kv_iconst (pc := 47) (v := (-1 : Int32)) dk_K_keep_47 kki_m1 ?_
          exact kv_iret (pc := 48) (fun h => h) rfl dk_K_keep_48
      · refine kv_aload_n (pc := 22) 0 rfl rfl dk_K_keep_22 ?_
        refine kv_getR (pc := 23) kf_K_21 kr_0 rfl kt_0_3 dk_K_keep_23 ?_
        refine kv_iload_n (pc := 26) 1 rfl rfl dk_K_keep_26 ?_
        refine kv_guard (fun g6 => ?_)
        refine kv_aald (pc := 27) (Or.inl kr_51) kl_51 g6 rfl dk_K_keep_27 ?_
        refine kv_cV_cc (pc := 28) (as := []) (st := []) ko_Shelf_clear kc_7 rfl rfl (kv_sh g6) kw_1081 (Nat.le_of_ble_eq_true rfl) rfl dk_K_keep_28 (cx_Shelf_clear (d + 1) (kv_tg 51 p1.toNatClampNeg) c y (kv_sh g6)) (fun c7 => ?_)
        refine kv_iconst (pc := 31) (v := (0 : Int32)) dk_K_keep_31 kki_0 ?_
        exact kv_iret (pc := 32) (fun h => h) rfl dk_K_keep_32
    · refine kv_iconst (pc := 16) (v := (-1 : Int32)) dk_K_keep_16 kki_m1 ?_
      exact kv_iret (pc := 17) (fun h => h) rfl dk_K_keep_17
theorem dk_D_closes_0 : decode prog_13_method_31_code 0 = .ok (.iconst 0, 1) := by decide +kernel
theorem dk_D_closes_1 : decode prog_13_method_31_code 1 = .ok (.istore_n 1, 1) := by decide +kernel
theorem dk_D_closes_2 : decode prog_13_method_31_code 2 = .ok (.iload_n 1, 1) := by decide +kernel
theorem dk_D_closes_3 : decode prog_13_method_31_code 3 = .ok (.aload_n 0, 1) := by decide +kernel
theorem dk_D_closes_4 : decode prog_13_method_31_code 4 = .ok (.getfield 144, 3) := by decide +kernel
theorem dk_D_closes_7 : decode prog_13_method_31_code 7 = .ok (.if_icmp .ge 125, 3) := by decide +kernel
theorem dk_D_closes_10 : decode prog_13_method_31_code 10 = .ok (.iconst 0, 1) := by decide +kernel
theorem dk_D_closes_11 : decode prog_13_method_31_code 11 = .ok (.istore_n 2, 1) := by decide +kernel
theorem dk_D_closes_12 : decode prog_13_method_31_code 12 = .ok (.iload_n 2, 1) := by decide +kernel
theorem dk_D_closes_13 : decode prog_13_method_31_code 13 = .ok (.aload_n 0, 1) := by decide +kernel
theorem dk_D_closes_14 : decode prog_13_method_31_code 14 = .ok (.getfield 144, 3) := by decide +kernel
theorem dk_D_closes_17 : decode prog_13_method_31_code 17 = .ok (.if_icmp .ge 109, 3) := by decide +kernel
theorem dk_D_closes_20 : decode prog_13_method_31_code 20 = .ok (.aload_n 0, 1) := by decide +kernel
theorem dk_D_closes_21 : decode prog_13_method_31_code 21 = .ok (.getfield 34, 3) := by decide +kernel
theorem dk_D_closes_24 : decode prog_13_method_31_code 24 = .ok (.bipush 44, 2) := by decide +kernel
theorem dk_D_closes_26 : decode prog_13_method_31_code 26 = .ok (.iload_n 2, 1) := by decide +kernel
theorem dk_D_closes_27 : decode prog_13_method_31_code 27 = .ok (.imul, 1) := by decide +kernel
theorem dk_D_closes_28 : decode prog_13_method_31_code 28 = .ok (.iload_n 1, 1) := by decide +kernel
theorem dk_D_closes_29 : decode prog_13_method_31_code 29 = .ok (.iadd, 1) := by decide +kernel
theorem dk_D_closes_30 : decode prog_13_method_31_code 30 = .ok (.laload, 1) := by decide +kernel
theorem dk_D_closes_31 : decode prog_13_method_31_code 31 = .ok (.lstore_n 3, 1) := by decide +kernel
theorem dk_D_closes_32 : decode prog_13_method_31_code 32 = .ok (.lload_n 3, 1) := by decide +kernel
theorem dk_D_closes_33 : decode prog_13_method_31_code 33 = .ok (.ldc2_w 147, 3) := by decide +kernel
theorem dk_D_closes_36 : decode prog_13_method_31_code 36 = .ok (.lcmp, 1) := by decide +kernel
theorem dk_D_closes_37 : decode prog_13_method_31_code 37 = .ok (.ifCond .ne 6, 3) := by decide +kernel
theorem dk_D_closes_40 : decode prog_13_method_31_code 40 = .ok (.goto 80, 3) := by decide +kernel
theorem dk_D_closes_43 : decode prog_13_method_31_code 43 = .ok (.iconst 0, 1) := by decide +kernel
theorem dk_D_closes_44 : decode prog_13_method_31_code 44 = .ok (.istore 5, 2) := by decide +kernel
theorem dk_D_closes_46 : decode prog_13_method_31_code 46 = .ok (.iload 5, 2) := by decide +kernel
theorem dk_D_closes_48 : decode prog_13_method_31_code 48 = .ok (.aload_n 0, 1) := by decide +kernel
theorem dk_D_closes_49 : decode prog_13_method_31_code 49 = .ok (.getfield 144, 3) := by decide +kernel
theorem dk_D_closes_52 : decode prog_13_method_31_code 52 = .ok (.if_icmp .ge 68, 3) := by decide +kernel
theorem dk_D_closes_55 : decode prog_13_method_31_code 55 = .ok (.aload_n 0, 1) := by decide +kernel
theorem dk_D_closes_56 : decode prog_13_method_31_code 56 = .ok (.getfield 34, 3) := by decide +kernel
theorem dk_D_closes_59 : decode prog_13_method_31_code 59 = .ok (.bipush 44, 2) := by decide +kernel
theorem dk_D_closes_61 : decode prog_13_method_31_code 61 = .ok (.iload_n 1, 1) := by decide +kernel
theorem dk_D_closes_62 : decode prog_13_method_31_code 62 = .ok (.imul, 1) := by decide +kernel
theorem dk_D_closes_63 : decode prog_13_method_31_code 63 = .ok (.iload 5, 2) := by decide +kernel
theorem dk_D_closes_65 : decode prog_13_method_31_code 65 = .ok (.iadd, 1) := by decide +kernel
theorem dk_D_closes_66 : decode prog_13_method_31_code 66 = .ok (.laload, 1) := by decide +kernel
theorem dk_D_closes_67 : decode prog_13_method_31_code 67 = .ok (.lstore 6, 2) := by decide +kernel
theorem dk_D_closes_69 : decode prog_13_method_31_code 69 = .ok (.lload 6, 2) := by decide +kernel
theorem dk_D_closes_71 : decode prog_13_method_31_code 71 = .ok (.ldc2_w 147, 3) := by decide +kernel
theorem dk_D_closes_74 : decode prog_13_method_31_code 74 = .ok (.lcmp, 1) := by decide +kernel
theorem dk_D_closes_75 : decode prog_13_method_31_code 75 = .ok (.ifCond .eq 39, 3) := by decide +kernel
theorem dk_D_closes_78 : decode prog_13_method_31_code 78 = .ok (.lload_n 3, 1) := by decide +kernel
theorem dk_D_closes_79 : decode prog_13_method_31_code 79 = .ok (.lload 6, 2) := by decide +kernel
theorem dk_D_closes_81 : decode prog_13_method_31_code 81 = .ok (.ladd, 1) := by decide +kernel
theorem dk_D_closes_82 : decode prog_13_method_31_code 82 = .ok (.aload_n 0, 1) := by decide +kernel
theorem dk_D_closes_83 : decode prog_13_method_31_code 83 = .ok (.getfield 34, 3) := by decide +kernel
theorem dk_D_closes_86 : decode prog_13_method_31_code 86 = .ok (.bipush 44, 2) := by decide +kernel
theorem dk_D_closes_88 : decode prog_13_method_31_code 88 = .ok (.iload_n 2, 1) := by decide +kernel
theorem dk_D_closes_89 : decode prog_13_method_31_code 89 = .ok (.imul, 1) := by decide +kernel
theorem dk_D_closes_90 : decode prog_13_method_31_code 90 = .ok (.iload 5, 2) := by decide +kernel
theorem dk_D_closes_92 : decode prog_13_method_31_code 92 = .ok (.iadd, 1) := by decide +kernel
theorem dk_D_closes_93 : decode prog_13_method_31_code 93 = .ok (.laload, 1) := by decide +kernel
theorem dk_D_closes_94 : decode prog_13_method_31_code 94 = .ok (.lcmp, 1) := by decide +kernel
theorem dk_D_closes_95 : decode prog_13_method_31_code 95 = .ok (.ifCond .ge 19, 3) := by decide +kernel
theorem dk_D_closes_98 : decode prog_13_method_31_code 98 = .ok (.aload_n 0, 1) := by decide +kernel
theorem dk_D_closes_99 : decode prog_13_method_31_code 99 = .ok (.getfield 34, 3) := by decide +kernel
theorem dk_D_closes_102 : decode prog_13_method_31_code 102 = .ok (.bipush 44, 2) := by decide +kernel
theorem dk_D_closes_104 : decode prog_13_method_31_code 104 = .ok (.iload_n 2, 1) := by decide +kernel
theorem dk_D_closes_105 : decode prog_13_method_31_code 105 = .ok (.imul, 1) := by decide +kernel
theorem dk_D_closes_106 : decode prog_13_method_31_code 106 = .ok (.iload 5, 2) := by decide +kernel
theorem dk_D_closes_108 : decode prog_13_method_31_code 108 = .ok (.iadd, 1) := by decide +kernel
theorem dk_D_closes_109 : decode prog_13_method_31_code 109 = .ok (.lload_n 3, 1) := by decide +kernel
theorem dk_D_closes_110 : decode prog_13_method_31_code 110 = .ok (.lload 6, 2) := by decide +kernel
theorem dk_D_closes_112 : decode prog_13_method_31_code 112 = .ok (.ladd, 1) := by decide +kernel
theorem dk_D_closes_113 : decode prog_13_method_31_code 113 = .ok (.lastore, 1) := by decide +kernel
theorem dk_D_closes_114 : decode prog_13_method_31_code 114 = .ok (.iinc 5 1, 3) := by decide +kernel
theorem dk_D_closes_117 : decode prog_13_method_31_code 117 = .ok (.goto (-71), 3) := by decide +kernel
theorem dk_D_closes_120 : decode prog_13_method_31_code 120 = .ok (.iinc 2 1, 3) := by decide +kernel
theorem dk_D_closes_123 : decode prog_13_method_31_code 123 = .ok (.goto (-111), 3) := by decide +kernel
theorem dk_D_closes_126 : decode prog_13_method_31_code 126 = .ok (.iinc 1 1, 3) := by decide +kernel
theorem dk_D_closes_129 : decode prog_13_method_31_code 129 = .ok (.goto (-127), 3) := by decide +kernel
theorem dk_D_closes_132 : decode prog_13_method_31_code 132 = .ok (.iconst 0, 1) := by decide +kernel
theorem dk_D_closes_133 : decode prog_13_method_31_code 133 = .ok (.istore_n 1, 1) := by decide +kernel
theorem dk_D_closes_134 : decode prog_13_method_31_code 134 = .ok (.iload_n 1, 1) := by decide +kernel
theorem dk_D_closes_135 : decode prog_13_method_31_code 135 = .ok (.aload_n 0, 1) := by decide +kernel
theorem dk_D_closes_136 : decode prog_13_method_31_code 136 = .ok (.getfield 144, 3) := by decide +kernel
theorem dk_D_closes_139 : decode prog_13_method_31_code 139 = .ok (.if_icmp .ge 27, 3) := by decide +kernel
theorem dk_D_closes_142 : decode prog_13_method_31_code 142 = .ok (.aload_n 0, 1) := by decide +kernel
theorem dk_D_closes_143 : decode prog_13_method_31_code 143 = .ok (.getfield 34, 3) := by decide +kernel
theorem dk_D_closes_146 : decode prog_13_method_31_code 146 = .ok (.bipush 44, 2) := by decide +kernel
theorem dk_D_closes_148 : decode prog_13_method_31_code 148 = .ok (.iload_n 1, 1) := by decide +kernel
theorem dk_D_closes_149 : decode prog_13_method_31_code 149 = .ok (.imul, 1) := by decide +kernel
theorem dk_D_closes_150 : decode prog_13_method_31_code 150 = .ok (.iload_n 1, 1) := by decide +kernel
theorem dk_D_closes_151 : decode prog_13_method_31_code 151 = .ok (.iadd, 1) := by decide +kernel
theorem dk_D_closes_152 : decode prog_13_method_31_code 152 = .ok (.laload, 1) := by decide +kernel
theorem dk_D_closes_153 : decode prog_13_method_31_code 153 = .ok (.lconst 0, 1) := by decide +kernel
theorem dk_D_closes_154 : decode prog_13_method_31_code 154 = .ok (.lcmp, 1) := by decide +kernel
theorem dk_D_closes_155 : decode prog_13_method_31_code 155 = .ok (.ifCond .ge 5, 3) := by decide +kernel
theorem dk_D_closes_158 : decode prog_13_method_31_code 158 = .ok (.iconst 0, 1) := by decide +kernel
theorem dk_D_closes_159 : decode prog_13_method_31_code 159 = .ok (.ireturn, 1) := by decide +kernel
theorem dk_D_closes_160 : decode prog_13_method_31_code 160 = .ok (.iinc 1 1, 3) := by decide +kernel
theorem dk_D_closes_163 : decode prog_13_method_31_code 163 = .ok (.goto (-29), 3) := by decide +kernel
theorem dk_D_closes_166 : decode prog_13_method_31_code 166 = .ok (.iconst 1, 1) := by decide +kernel
theorem dk_D_closes_167 : decode prog_13_method_31_code 167 = .ok (.ireturn, 1) := by decide +kernel
noncomputable def fj_D_closes_120 (x4 : Int32) (f9 : (Nat → Int64)) : Option ((Int32 × (Nat → Int64)) ⊕ (Nat → Int64)) :=
  some (.inl ((x4 + (1 : Int32)), f9))
noncomputable def fj_D_closes_114 (x10 : Int32) (f15 : (Nat → Int64)) : Option ((Int32 × (Nat → Int64)) ⊕ (Nat → Int64)) :=
  some (.inl ((x10 + (1 : Int32)), f15))
noncomputable def fb_D_closes_46 (m : (Nat → Nat → Int32)) (x1 : Int32) (x4 : Int32) (v8 : Int64) (x10 : Int32) (f11 : (Nat → Int64)) : Option ((Int32 × (Nat → Int64)) ⊕ (Nat → Int64)) :=
  if (m 88 13) ≤ x10 then
    some (.inr f11)
  else
    kv_gd (kv_in (((44 : Int32) * x1) + x10) 1936) (
    kv_let (f11 (((44 : Int32) * x1) + x10).toNatClampNeg) (fun v14 =>
    if v14 = (1000000000000 : Int64) then
      fj_D_closes_114 x10 f11
    else
      kv_gd (kv_in (((44 : Int32) * x4) + x10) 1936) (
      if (f11 (((44 : Int32) * x4) + x10).toNatClampNeg) ≤ (v8 + v14) then
        fj_D_closes_114 x10 f11
      else
        kv_let (vp_updL f11 (((44 : Int32) * x4) + x10).toNatClampNeg (v8 + v14)) (fun f17 =>
        fj_D_closes_114 x10 f17))))
noncomputable def fb_D_closes_12 (m : (Nat → Nat → Int32)) (x1 : Int32) (x4 : Int32) (f5 : (Nat → Int64)) : Option ((Int32 × (Nat → Int64)) ⊕ (Nat → Int64)) :=
  if (m 88 13) ≤ x4 then
    some (.inr f5)
  else
    kv_gd (kv_in (((44 : Int32) * x4) + x1) 1936) (
    kv_let (f5 (((44 : Int32) * x4) + x1).toNatClampNeg) (fun v8 =>
    if v8 = (1000000000000 : Int64) then
      fj_D_closes_120 x4 f5
    else
      (kv_loop (kv_u2 (fb_D_closes_46 m x1 x4 v8)) ((0 : Int32), f5)).bind (kv_u1 (fun f12 =>
      fj_D_closes_120 x4 f12))))
noncomputable def fb_D_closes_2 (m : (Nat → Nat → Int32)) (x1 : Int32) (f2 : (Nat → Int64)) : Option ((Int32 × (Nat → Int64)) ⊕ (Nat → Int64)) :=
  if (m 88 13) ≤ x1 then
    some (.inr f2)
  else
    (kv_loop (kv_u2 (fb_D_closes_12 m x1)) ((0 : Int32), f2)).bind (kv_u1 (fun f6 =>
    some (.inl ((x1 + (1 : Int32)), f6))))
noncomputable def fb_D_closes_134 (m : (Nat → Nat → Int32)) (f3 : (Nat → Int64)) (x18 : Int32) : Option (Int32 ⊕ (Unit ⊕ Unit)) :=
  if (m 88 13) ≤ x18 then
    some (.inr (.inr ()))
  else
    kv_gd (kv_in (((44 : Int32) * x18) + x18) 1936) (
    if (0 : Int64) ≤ (f3 (((44 : Int32) * x18) + x18).toNatClampNeg) then
      some (.inl (x18 + (1 : Int32)))
    else
      some (.inr (.inl ())))
noncomputable def fx_D_closes (m : (Nat → Nat → Int32)) (f : (Nat → Int64)) : Option (Bool × (Nat → Int64)) :=
  (kv_loop (kv_u2 (fb_D_closes_2 m)) ((0 : Int32), f)).bind (kv_u1 (fun f3 =>
  (kv_loop (kv_u1 (fb_D_closes_134 m f3)) (0 : Int32)).bind (Sum.elim (kv_u0 (
  some (false, f3)))
   (kv_u0 (
  some (true, f3))))))
set_option maxRecDepth 20000 in
theorem cx_D_closes (d : Nat) (c : (Nat → Nat → Int32)) (m : (Nat → Nat → Int32)) (f : (Nat → Int64)) (u : (Nat → Int64)) : ∀ a, fx_D_closes m f = some a → kv_C kM_D_closes (d + 0) [.ref 88] (c, m, f, u) (some (.int (kv_b a.1)), (c, m, a.2, u)) := by
  refine kv_entryX (E := fun a : (Bool × (Nat → Int64)) => (some (.int (kv_b a.1)), (c, m, a.2, u))) rfl (Nat.le_of_ble_eq_true rfl) (fun o => ?_)
  unfold fx_D_closes
  show kv_X _ _ _ _ _ 0 [(0, .ref 88)] [] (c, m, f, u)
  refine kv_iconst (pc := 0) (v := (0 : Int32)) dk_D_closes_0 kki_0 ?_
  refine kv_istore_n (pc := 1) (lv' := [(1, .int (0 : Int32)), (0, .ref 88)]) rfl (Nat.le_of_ble_eq_true rfl) rfl dk_D_closes_1 ?_
  refine kv_sub (lv' := [(0, .ref 88), (1, .int (0 : Int32))]) [1, 0] rfl ?_
  refine kv_lp_2_1 (LV := fun x1 f2 => [(0, .ref 88), (1, .int x1)]) (WW := fun x1 f2 => (c, m, f2, u)) (LE1 := fun f3 => [(0, .ref 88)]) (WE1 := fun f3 => (c, m, f3, u)) (pe1 := 132) ?_ ?_
  · intro f3
    show kv_X _ _ _ _ _ 132 [(0, .ref 88)] [] (c, m, f3, u)
    refine kv_iconst (pc := 132) (v := (0 : Int32)) dk_D_closes_132 kki_0 ?_
    refine kv_istore_n (pc := 133) (lv' := [(1, .int (0 : Int32)), (0, .ref 88)]) rfl (Nat.le_of_ble_eq_true rfl) rfl dk_D_closes_133 ?_
    refine kv_sub (lv' := [(0, .ref 88), (1, .int (0 : Int32))]) [1, 0] rfl ?_
    refine kv_lp_1_0_0 (LV := fun x18 => [(0, .ref 88), (1, .int x18)]) (WW := fun x18 => (c, m, f3, u)) (LE1 := []) (WE1 := (c, m, f3, u)) (pe1 := 158) (LE2 := []) (WE2 := (c, m, f3, u)) (pe2 := 166) ?_ ?_ ?_
    · show kv_X _ _ _ _ _ 158 [] [] (c, m, f3, u)
      refine kv_iconst (pc := 158) (v := (0 : Int32)) dk_D_closes_158 kki_0 ?_
      exact kv_zret (pc := 159) (b := false) (fun h => h) rfl dk_D_closes_159
    · show kv_X _ _ _ _ _ 166 [] [] (c, m, f3, u)
      refine kv_iconst (pc := 166) (v := (1 : Int32)) dk_D_closes_166 kki_1 ?_
      exact kv_zret (pc := 167) (b := true) (fun h => h) rfl dk_D_closes_167
    · intro hx134_0 hx134_1 x18
      show kv_X _ _ _ _ (fb_D_closes_134 m f3 x18) 134 [(0, .ref 88), (1, .int x18)] [] (c, m, f3, u)
      unfold fb_D_closes_134
      refine kv_iload_n (pc := 134) 1 rfl rfl dk_D_closes_134 ?_
      refine kv_aload_n (pc := 135) 0 rfl rfl dk_D_closes_135 ?_
      refine kv_getM (pc := 136) kf_D_144 kr_88 kn_88 rfl dk_D_closes_136 ?_
      refine kv_icmp_ge (pc := 139) (tgt := 166) dk_D_closes_139 rfl ?_ ?_
      · exact kv_sub [] rfl (kv_leaf (hx134_1))
      · refine kv_aload_n (pc := 142) 0 rfl rfl dk_D_closes_142 ?_
        refine kv_getR (pc := 143) kf_D_34 kr_88 rfl kt_88_10 dk_D_closes_143 ?_
        refine kv_bipush (pc := 146) (v := (44 : Int32)) dk_D_closes_146 kkb_44 ?_
        refine kv_iload_n (pc := 148) 1 rfl rfl dk_D_closes_148 ?_
        refine kv_imul (pc := 149) dk_D_closes_149 ?_
        refine kv_iload_n (pc := 150) 1 rfl rfl dk_D_closes_150 ?_
        refine kv_iadd (pc := 151) dk_D_closes_151 ?_
        refine kv_guard (fun g19 => ?_)
        refine kv_aldJ (pc := 152) rfl kr_97 kl_97 g19 rfl dk_D_closes_152 ?_
        refine kv_lconst (pc := 153) (v := (0 : Int64)) dk_D_closes_153 kkl_0 ?_
        refine kv_lcmp_ge (pc := 154) (tgt := 160) dk_D_closes_154 dk_D_closes_155 rfl ?_ ?_
        · refine kv_iinc (pc := 160) (kk := (1 : Int32)) (lv' := [(1, .int (x18 + (1 : Int32))), (0, .ref 88)]) 1 rfl kki_1 rfl (Nat.le_of_ble_eq_true rfl) dk_D_closes_160 ?_
          refine kv_goto (pc := 163) (tgt := 134) dk_D_closes_163 rfl ?_
          exact kv_sub [1, 0] rfl (kv_leaf (fun h => h))
        · exact kv_sub [] rfl (kv_leaf (hx134_0))
  · intro hx2_0 x1 f2
    show kv_X _ _ _ _ (fb_D_closes_2 m x1 f2) 2 [(0, .ref 88), (1, .int x1)] [] (c, m, f2, u)
    unfold fb_D_closes_2
    refine kv_iload_n (pc := 2) 1 rfl rfl dk_D_closes_2 ?_
    refine kv_aload_n (pc := 3) 0 rfl rfl dk_D_closes_3 ?_
    refine kv_getM (pc := 4) kf_D_144 kr_88 kn_88 rfl dk_D_closes_4 ?_
    refine kv_icmp_ge (pc := 7) (tgt := 132) dk_D_closes_7 rfl ?_ ?_
    · exact kv_sub [0] rfl (kv_leaf (hx2_0 _))
    · refine kv_iconst (pc := 10) (v := (0 : Int32)) dk_D_closes_10 kki_0 ?_
      refine kv_istore_n (pc := 11) (lv' := [(2, .int (0 : Int32)), (0, .ref 88), (1, .int x1)]) rfl (Nat.le_of_ble_eq_true rfl) rfl dk_D_closes_11 ?_
      refine kv_sub (lv' := [(0, .ref 88), (1, .int x1), (2, .int (0 : Int32))]) [1, 2, 0] rfl ?_
      refine kv_lp_2_1 (LV := fun x4 f5 => [(0, .ref 88), (1, .int x1), (2, .int x4)]) (WW := fun x4 f5 => (c, m, f5, u)) (LE1 := fun f6 => [(0, .ref 88), (1, .int x1)]) (WE1 := fun f6 => (c, m, f6, u)) (pe1 := 126) ?_ ?_
      · intro f6
        show kv_X _ _ _ _ _ 126 [(0, .ref 88), (1, .int x1)] [] (c, m, f6, u)
        refine kv_iinc (pc := 126) (kk := (1 : Int32)) (lv' := [(1, .int (x1 + (1 : Int32))), (0, .ref 88)]) 1 rfl kki_1 rfl (Nat.le_of_ble_eq_true rfl) dk_D_closes_126 ?_
        refine kv_goto (pc := 129) (tgt := 2) dk_D_closes_129 rfl ?_
        exact kv_sub [1, 0] rfl (kv_leaf (fun h => h))
      · intro hx12_0 x4 f5
        show kv_X _ _ _ _ (fb_D_closes_12 m x1 x4 f5) 12 [(0, .ref 88), (1, .int x1), (2, .int x4)] [] (c, m, f5, u)
        unfold fb_D_closes_12
        refine kv_iload_n (pc := 12) 2 rfl rfl dk_D_closes_12 ?_
        refine kv_aload_n (pc := 13) 0 rfl rfl dk_D_closes_13 ?_
        refine kv_getM (pc := 14) kf_D_144 kr_88 kn_88 rfl dk_D_closes_14 ?_
        refine kv_icmp_ge (pc := 17) (tgt := 126) dk_D_closes_17 rfl ?_ ?_
        · exact kv_sub [0, 1] rfl (kv_leaf (hx12_0 _))
        · refine kv_aload_n (pc := 20) 0 rfl rfl dk_D_closes_20 ?_
          refine kv_getR (pc := 21) kf_D_34 kr_88 rfl kt_88_10 dk_D_closes_21 ?_
          refine kv_bipush (pc := 24) (v := (44 : Int32)) dk_D_closes_24 kkb_44 ?_
          refine kv_iload_n (pc := 26) 2 rfl rfl dk_D_closes_26 ?_
          refine kv_imul (pc := 27) dk_D_closes_27 ?_
          refine kv_iload_n (pc := 28) 1 rfl rfl dk_D_closes_28 ?_
          refine kv_iadd (pc := 29) dk_D_closes_29 ?_
          refine kv_guard (fun g7 => ?_)
          refine kv_aldJ (pc := 30) rfl kr_97 kl_97 g7 rfl dk_D_closes_30 ?_
          refine kv_letJ (fun v8 => ?_)
          refine kv_lstore_n (pc := 31) (lv' := [(3, .long v8), (0, .ref 88), (1, .int x1), (2, .int x4)]) rfl (Nat.le_of_ble_eq_true rfl) rfl dk_D_closes_31 ?_
          refine kv_lload_n (pc := 32) 0 rfl rfl dk_D_closes_32 ?_
          refine kv_ldc2 (pc := 33) (v := (1000000000000 : Int64)) kw_1449 dk_D_closes_33 ?_
          refine kv_cut_1 (J := fj_D_closes_120 x4) (pcj := 120) (LJ := fun f9 => [(0, .ref 88), (1, .int x1), (2, .int x4)]) (SJ := fun f9 => []) (WJ := fun f9 => (c, m, f9, u)) ?_ (fun hj120 => ?_)
          · intro f9
            show kv_X _ _ _ _ (fj_D_closes_120 x4 f9) 120 [(0, .ref 88), (1, .int x1), (2, .int x4)] [] (c, m, f9, u)
            unfold fj_D_closes_120
            refine kv_iinc (pc := 120) (kk := (1 : Int32)) (lv' := [(2, .int (x4 + (1 : Int32))), (0, .ref 88), (1, .int x1)]) 2 rfl kki_1 rfl (Nat.le_of_ble_eq_true rfl) dk_D_closes_120 ?_
            refine kv_goto (pc := 123) (tgt := 12) dk_D_closes_123 rfl ?_
            exact kv_sub [1, 2, 0] rfl (kv_leaf (fun h => h))
          refine kv_lcmp_ne (pc := 36) (tgt := 43) dk_D_closes_36 dk_D_closes_37 rfl ?_ ?_
          · refine kv_iconst (pc := 43) (v := (0 : Int32)) dk_D_closes_43 kki_0 ?_
            refine kv_istore (pc := 44) (lv' := [(5, .int (0 : Int32)), (3, .long v8), (0, .ref 88), (1, .int x1), (2, .int x4)]) rfl (Nat.le_of_ble_eq_true rfl) dk_D_closes_44 ?_
            refine kv_sub (lv' := [(0, .ref 88), (1, .int x1), (2, .int x4), (3, .long v8), (5, .int (0 : Int32))]) [2, 3, 4, 1, 0] rfl ?_
            refine kv_lp_2_1 (LV := fun x10 f11 => [(0, .ref 88), (1, .int x1), (2, .int x4), (3, .long v8), (5, .int x10)]) (WW := fun x10 f11 => (c, m, f11, u)) (LE1 := fun f12 => [(0, .ref 88), (1, .int x1), (2, .int x4)]) (WE1 := fun f12 => (c, m, f12, u)) (pe1 := 120) ?_ ?_
            · intro f12
              show kv_X _ _ _ _ _ 120 [(0, .ref 88), (1, .int x1), (2, .int x4)] [] (c, m, f12, u)
              exact hj120 f12
            · intro hx46_0 x10 f11
              show kv_X _ _ _ _ (fb_D_closes_46 m x1 x4 v8 x10 f11) 46 [(0, .ref 88), (1, .int x1), (2, .int x4), (3, .long v8), (5, .int x10)] [] (c, m, f11, u)
              unfold fb_D_closes_46
              refine kv_iload (pc := 46) 4 rfl dk_D_closes_46 ?_
              refine kv_aload_n (pc := 48) 0 rfl rfl dk_D_closes_48 ?_
              refine kv_getM (pc := 49) kf_D_144 kr_88 kn_88 rfl dk_D_closes_49 ?_
              refine kv_icmp_ge (pc := 52) (tgt := 120) dk_D_closes_52 rfl ?_ ?_
              · exact kv_sub [0, 1, 2] rfl (kv_leaf (hx46_0 _))
              · refine kv_aload_n (pc := 55) 0 rfl rfl dk_D_closes_55 ?_
                refine kv_getR (pc := 56) kf_D_34 kr_88 rfl kt_88_10 dk_D_closes_56 ?_
                refine kv_bipush (pc := 59) (v := (44 : Int32)) dk_D_closes_59 kkb_44 ?_
                refine kv_iload_n (pc := 61) 1 rfl rfl dk_D_closes_61 ?_
                refine kv_imul (pc := 62) dk_D_closes_62 ?_
                refine kv_iload (pc := 63) 4 rfl dk_D_closes_63 ?_
                refine kv_iadd (pc := 65) dk_D_closes_65 ?_
                refine kv_guard (fun g13 => ?_)
                refine kv_aldJ (pc := 66) rfl kr_97 kl_97 g13 rfl dk_D_closes_66 ?_
                refine kv_letJ (fun v14 => ?_)
                refine kv_lstore (pc := 67) (lv' := [(6, .long v14), (0, .ref 88), (1, .int x1), (2, .int x4), (3, .long v8), (5, .int x10)]) rfl (Nat.le_of_ble_eq_true rfl) dk_D_closes_67 ?_
                refine kv_lload (pc := 69) 0 rfl dk_D_closes_69 ?_
                refine kv_ldc2 (pc := 71) (v := (1000000000000 : Int64)) kw_1449 dk_D_closes_71 ?_
                refine kv_cut_1 (J := fj_D_closes_114 x10) (pcj := 114) (LJ := fun f15 => [(0, .ref 88), (1, .int x1), (2, .int x4), (3, .long v8), (5, .int x10)]) (SJ := fun f15 => []) (WJ := fun f15 => (c, m, f15, u)) ?_ (fun hj114 => ?_)
                · intro f15
                  show kv_X _ _ _ _ (fj_D_closes_114 x10 f15) 114 [(0, .ref 88), (1, .int x1), (2, .int x4), (3, .long v8), (5, .int x10)] [] (c, m, f15, u)
                  unfold fj_D_closes_114
                  refine kv_iinc (pc := 114) (kk := (1 : Int32)) (lv' := [(5, .int (x10 + (1 : Int32))), (0, .ref 88), (1, .int x1), (2, .int x4), (3, .long v8)]) 4 rfl kki_1 rfl (Nat.le_of_ble_eq_true rfl) dk_D_closes_114 ?_
                  refine kv_goto (pc := 117) (tgt := 46) dk_D_closes_117 rfl ?_
                  exact kv_sub [1, 2, 3, 4, 0] rfl (kv_leaf (fun h => h))
                refine kv_lcmp_eq (pc := 74) (tgt := 114) dk_D_closes_74 dk_D_closes_75 rfl ?_ ?_
                · exact kv_sub [1, 2, 3, 4, 5] rfl (hj114 f11)
                · refine kv_lload_n (pc := 78) 4 rfl rfl dk_D_closes_78 ?_
                  refine kv_lload (pc := 79) 0 rfl dk_D_closes_79 ?_
                  refine kv_ladd (pc := 81) dk_D_closes_81 ?_
                  refine kv_aload_n (pc := 82) 1 rfl rfl dk_D_closes_82 ?_
                  refine kv_getR (pc := 83) kf_D_34 kr_88 rfl kt_88_10 dk_D_closes_83 ?_
                  refine kv_bipush (pc := 86) (v := (44 : Int32)) dk_D_closes_86 kkb_44 ?_
                  refine kv_iload_n (pc := 88) 3 rfl rfl dk_D_closes_88 ?_
                  refine kv_imul (pc := 89) dk_D_closes_89 ?_
                  refine kv_iload (pc := 90) 5 rfl dk_D_closes_90 ?_
                  refine kv_iadd (pc := 92) dk_D_closes_92 ?_
                  refine kv_guard (fun g16 => ?_)
                  refine kv_aldJ (pc := 93) rfl kr_97 kl_97 g16 rfl dk_D_closes_93 ?_
                  refine kv_lcmp_ge (pc := 94) (tgt := 114) dk_D_closes_94 dk_D_closes_95 rfl ?_ ?_
                  · exact kv_sub [1, 2, 3, 4, 5] rfl (hj114 f11)
                  · refine kv_aload_n (pc := 98) 1 rfl rfl dk_D_closes_98 ?_
                    refine kv_getR (pc := 99) kf_D_34 kr_88 rfl kt_88_10 dk_D_closes_99 ?_
                    refine kv_bipush (pc := 102) (v := (44 : Int32)) dk_D_closes_102 kkb_44 ?_
                    refine kv_iload_n (pc := 104) 3 rfl rfl dk_D_closes_104 ?_
                    refine kv_imul (pc := 105) dk_D_closes_105 ?_
                    refine kv_iload (pc := 106) 5 rfl dk_D_closes_106 ?_
                    refine kv_iadd (pc := 108) dk_D_closes_108 ?_
                    refine kv_lload_n (pc := 109) 4 rfl rfl dk_D_closes_109 ?_
                    refine kv_lload (pc := 110) 0 rfl dk_D_closes_110 ?_
                    refine kv_ladd (pc := 112) dk_D_closes_112 ?_
                    refine kv_astJ (pc := 113) rfl kr_97 kl_97 g16 rfl dk_D_closes_113 (fun f17 => ?_)
                    exact kv_sub [1, 2, 3, 4, 5] rfl (hj114 f17)
          · refine kv_goto (pc := 40) (tgt := 120) dk_D_closes_40 rfl ?_
            exact kv_sub [1, 2, 3] rfl (hj120 f5)
theorem dk_D_isIn_0 : decode prog_13_method_3_code 0 = .ok (.lload_n 0, 1) := by decide +kernel
theorem dk_D_isIn_1 : decode prog_13_method_3_code 1 = .ok (.lload_n 2, 1) := by decide +kernel
theorem dk_D_isIn_2 : decode prog_13_method_3_code 2 = .ok (.lcmp, 1) := by decide +kernel
theorem dk_D_isIn_3 : decode prog_13_method_3_code 3 = .ok (.ifCond .lt 14, 3) := by decide +kernel
theorem dk_D_isIn_6 : decode prog_13_method_3_code 6 = .ok (.lload_n 0, 1) := by decide +kernel
theorem dk_D_isIn_7 : decode prog_13_method_3_code 7 = .ok (.lload 4, 2) := by decide +kernel
theorem dk_D_isIn_9 : decode prog_13_method_3_code 9 = .ok (.lcmp, 1) := by decide +kernel
theorem dk_D_isIn_10 : decode prog_13_method_3_code 10 = .ok (.ifCond .gt 7, 3) := by decide +kernel
theorem dk_D_isIn_13 : decode prog_13_method_3_code 13 = .ok (.iconst 1, 1) := by decide +kernel
theorem dk_D_isIn_14 : decode prog_13_method_3_code 14 = .ok (.goto 4, 3) := by decide +kernel
theorem dk_D_isIn_17 : decode prog_13_method_3_code 17 = .ok (.iconst 0, 1) := by decide +kernel
theorem dk_D_isIn_18 : decode prog_13_method_3_code 18 = .ok (.ireturn, 1) := by decide +kernel
noncomputable def fx_D_isIn (p0 : Int64) (p2 : Int64) (p4 : Int64) : Option Bool :=
  if p0 < p2 then
    some false
  else
    if p4 < p0 then
      some false
    else
      some true
set_option maxRecDepth 20000 in
theorem cx_D_isIn (d : Nat) (p0 : Int64) (p2 : Int64) (p4 : Int64) (c : (Nat → Nat → Int32)) (m : (Nat → Nat → Int32)) (f : (Nat → Int64)) (u : (Nat → Int64)) : ∀ a, fx_D_isIn p0 p2 p4 = some a → kv_C kM_D_isIn (d + 0) [.long p0, .long p2, .long p4] (c, m, f, u) (some (.int (kv_b a)), (c, m, f, u)) := by
  refine kv_entryX (E := fun a : Bool => (some (.int (kv_b a)), (c, m, f, u))) rfl (Nat.le_of_ble_eq_true rfl) (fun o => ?_)
  unfold fx_D_isIn
  show kv_X _ _ _ _ _ 0 [(0, .long p0), (2, .long p2), (4, .long p4)] [] (c, m, f, u)
  refine kv_lload_n (pc := 0) 0 rfl rfl dk_D_isIn_0 ?_
  refine kv_lload_n (pc := 1) 1 rfl rfl dk_D_isIn_1 ?_
  refine kv_lcmp_lt (pc := 2) (tgt := 17) dk_D_isIn_2 dk_D_isIn_3 rfl ?_ ?_
  · refine kv_iconst (pc := 17) (v := (0 : Int32)) dk_D_isIn_17 kki_0 ?_
    exact kv_zret (pc := 18) (b := false) (fun h => h) rfl dk_D_isIn_18
  · refine kv_lload_n (pc := 6) 0 rfl rfl dk_D_isIn_6 ?_
    refine kv_lload (pc := 7) 2 rfl dk_D_isIn_7 ?_
    refine kv_lcmp_gt (pc := 9) (tgt := 17) dk_D_isIn_9 dk_D_isIn_10 rfl ?_ ?_
    · refine kv_iconst (pc := 17) (v := (0 : Int32)) dk_D_isIn_17 kki_0 ?_
      exact kv_zret (pc := 18) (b := false) (fun h => h) rfl dk_D_isIn_18
    · refine kv_iconst (pc := 13) (v := (1 : Int32)) dk_D_isIn_13 kki_1 ?_
      refine kv_goto (pc := 14) (tgt := 18) dk_D_isIn_14 rfl ?_
      exact kv_zret (pc := 18) (b := true) (fun h => h) rfl dk_D_isIn_18
theorem dk_D_isShelf_0 : decode prog_13_method_6_code 0 = .ok (.iload_n 0, 1) := by decide +kernel
theorem dk_D_isShelf_1 : decode prog_13_method_6_code 1 = .ok (.i2l, 1) := by decide +kernel
theorem dk_D_isShelf_2 : decode prog_13_method_6_code 2 = .ok (.lconst 0, 1) := by decide +kernel
theorem dk_D_isShelf_3 : decode prog_13_method_6_code 3 = .ok (.ldc2_w 66, 3) := by decide +kernel
theorem dk_D_isShelf_6 : decode prog_13_method_6_code 6 = .ok (.invokestatic 60, 3) := by decide +kernel
theorem dk_D_isShelf_9 : decode prog_13_method_6_code 9 = .ok (.ireturn, 1) := by decide +kernel
noncomputable def fx_D_isShelf (p0 : Int32) : Option Bool :=
  kv_bind1 (fx_D_isIn p0.toInt64 (0 : Int64) (7 : Int64)) (fun b1 =>
  some b1)
set_option maxRecDepth 20000 in
theorem cx_D_isShelf (d : Nat) (p0 : Int32) (c : (Nat → Nat → Int32)) (m : (Nat → Nat → Int32)) (f : (Nat → Int64)) (u : (Nat → Int64)) : ∀ a, fx_D_isShelf p0 = some a → kv_C kM_D_isShelf (d + 1) [.int p0] (c, m, f, u) (some (.int (kv_b a)), (c, m, f, u)) := by
  refine kv_entryX (E := fun a : Bool => (some (.int (kv_b a)), (c, m, f, u))) rfl (Nat.le_of_ble_eq_true rfl) (fun o => ?_)
  unfold fx_D_isShelf
  show kv_X _ _ _ _ _ 0 [(0, .int p0)] [] (c, m, f, u)
  refine kv_iload_n (pc := 0) 0 rfl rfl dk_D_isShelf_0 ?_
  refine kv_i2l (pc := 1) dk_D_isShelf_1 ?_
  refine kv_lconst (pc := 2) (v := (0 : Int64)) dk_D_isShelf_2 kkl_0 ?_
  refine kv_ldc2 (pc := 3) (v := (7 : Int64)) kw_1409 dk_D_isShelf_3 ?_
  refine kv_cS_mZ (pc := 6) (as := [.long p0.toInt64, .long (0 : Int64), .long (7 : Int64)]) (st := []) ko_D_isIn rfl kw_1320 (Nat.le_of_ble_eq_true rfl) rfl dk_D_isShelf_6 (cx_D_isIn d p0.toInt64 (0 : Int64) (7 : Int64) c m f u) (fun b1 => ?_)
  exact kv_zret (pc := 9) (b := b1) (fun h => h) rfl dk_D_isShelf_9
theorem dk_D_wrongRow_0 : decode prog_13_method_21_code 0 = .ok (.iload_n 1, 1) := by decide +kernel
theorem dk_D_wrongRow_1 : decode prog_13_method_21_code 1 = .ok (.invokestatic 123, 3) := by decide +kernel
theorem dk_D_wrongRow_4 : decode prog_13_method_21_code 4 = .ok (.ifCond .ne 7, 3) := by decide +kernel
theorem dk_D_wrongRow_7 : decode prog_13_method_21_code 7 = .ok (.iconst (-1), 1) := by decide +kernel
theorem dk_D_wrongRow_8 : decode prog_13_method_21_code 8 = .ok (.goto 47, 3) := by decide +kernel
theorem dk_D_wrongRow_11 : decode prog_13_method_21_code 11 = .ok (.aload_n 0, 1) := by decide +kernel
theorem dk_D_wrongRow_12 : decode prog_13_method_21_code 12 = .ok (.getfield 16, 3) := by decide +kernel
theorem dk_D_wrongRow_15 : decode prog_13_method_21_code 15 = .ok (.iload_n 1, 1) := by decide +kernel
theorem dk_D_wrongRow_16 : decode prog_13_method_21_code 16 = .ok (.iaload, 1) := by decide +kernel
theorem dk_D_wrongRow_17 : decode prog_13_method_21_code 17 = .ok (.ifCond .ne 8, 3) := by decide +kernel
theorem dk_D_wrongRow_20 : decode prog_13_method_21_code 20 = .ok (.bipush (-11), 2) := by decide +kernel
theorem dk_D_wrongRow_22 : decode prog_13_method_21_code 22 = .ok (.goto 33, 3) := by decide +kernel
theorem dk_D_wrongRow_25 : decode prog_13_method_21_code 25 = .ok (.aload_n 0, 1) := by decide +kernel
theorem dk_D_wrongRow_26 : decode prog_13_method_21_code 26 = .ok (.getfield 16, 3) := by decide +kernel
theorem dk_D_wrongRow_29 : decode prog_13_method_21_code 29 = .ok (.iload_n 1, 1) := by decide +kernel
theorem dk_D_wrongRow_30 : decode prog_13_method_21_code 30 = .ok (.iaload, 1) := by decide +kernel
theorem dk_D_wrongRow_31 : decode prog_13_method_21_code 31 = .ok (.iconst 2, 1) := by decide +kernel
theorem dk_D_wrongRow_32 : decode prog_13_method_21_code 32 = .ok (.if_icmp .ne 17, 3) := by decide +kernel
theorem dk_D_wrongRow_35 : decode prog_13_method_21_code 35 = .ok (.iload_n 2, 1) := by decide +kernel
theorem dk_D_wrongRow_36 : decode prog_13_method_21_code 36 = .ok (.ifCond .lt 18, 3) := by decide +kernel
theorem dk_D_wrongRow_39 : decode prog_13_method_21_code 39 = .ok (.aload_n 0, 1) := by decide +kernel
theorem dk_D_wrongRow_40 : decode prog_13_method_21_code 40 = .ok (.getfield 19, 3) := by decide +kernel
theorem dk_D_wrongRow_43 : decode prog_13_method_21_code 43 = .ok (.iload_n 1, 1) := by decide +kernel
theorem dk_D_wrongRow_44 : decode prog_13_method_21_code 44 = .ok (.iaload, 1) := by decide +kernel
theorem dk_D_wrongRow_45 : decode prog_13_method_21_code 45 = .ok (.iload_n 2, 1) := by decide +kernel
theorem dk_D_wrongRow_46 : decode prog_13_method_21_code 46 = .ok (.if_icmp .eq 8, 3) := by decide +kernel
theorem dk_D_wrongRow_49 : decode prog_13_method_21_code 49 = .ok (.bipush (-12), 2) := by decide +kernel
theorem dk_D_wrongRow_51 : decode prog_13_method_21_code 51 = .ok (.goto 4, 3) := by decide +kernel
theorem dk_D_wrongRow_54 : decode prog_13_method_21_code 54 = .ok (.iconst 0, 1) := by decide +kernel
theorem dk_D_wrongRow_55 : decode prog_13_method_21_code 55 = .ok (.ireturn, 1) := by decide +kernel
noncomputable def fx_D_wrongRow (p1 : Int32) (p2 : Int32) (m : (Nat → Nat → Int32)) : Option Int32 :=
  kv_bind1 (fx_D_isShelf p1) (fun b1 =>
  if b1 = true then
    kv_gd (kv_in p1 8) (
    if (m 91 p1.toNatClampNeg) = 0 then
      some (-11 : Int32)
    else
      if (m 91 p1.toNatClampNeg) = (2 : Int32) then
        if p2 < 0 then
          some (0 : Int32)
        else
          if (m 92 p1.toNatClampNeg) = p2 then
            some (0 : Int32)
          else
            some (-12 : Int32)
      else
        some (-12 : Int32))
  else
    some (-1 : Int32))
set_option maxRecDepth 20000 in
theorem cx_D_wrongRow (d : Nat) (p1 : Int32) (p2 : Int32) (c : (Nat → Nat → Int32)) (m : (Nat → Nat → Int32)) (f : (Nat → Int64)) (u : (Nat → Int64)) : ∀ a, fx_D_wrongRow p1 p2 m = some a → kv_C kM_D_wrongRow (d + 2) [.ref 88, .int p1, .int p2] (c, m, f, u) (some (.int a), (c, m, f, u)) := by
  refine kv_entryX (E := fun a : Int32 => (some (.int a), (c, m, f, u))) rfl (Nat.le_of_ble_eq_true rfl) (fun o => ?_)
  unfold fx_D_wrongRow
  show kv_X _ _ _ _ _ 0 [(0, .ref 88), (1, .int p1), (2, .int p2)] [] (c, m, f, u)
  refine kv_iload_n (pc := 0) 1 rfl rfl dk_D_wrongRow_0 ?_
  refine kv_cS_mZ (pc := 1) (as := [.int p1]) (st := []) ko_D_isShelf rfl kw_1406 (Nat.le_of_ble_eq_true rfl) rfl dk_D_wrongRow_1 (cx_D_isShelf d p1 c m f u) (fun b1 => ?_)
  refine kv_zif_ne (pc := 4) (tgt := 11) dk_D_wrongRow_4 rfl ?_ ?_
  · refine kv_aload_n (pc := 11) 0 rfl rfl dk_D_wrongRow_11 ?_
    refine kv_getR (pc := 12) kf_D_16 kr_88 rfl kt_88_2 dk_D_wrongRow_12 ?_
    refine kv_iload_n (pc := 15) 1 rfl rfl dk_D_wrongRow_15 ?_
    refine kv_guard (fun g2 => ?_)
    refine kv_aldM (pc := 16) kr_91 kn_91 kl_91 g2 rfl dk_D_wrongRow_16 ?_
    refine kv_if_ne (pc := 17) (tgt := 25) dk_D_wrongRow_17 rfl ?_ ?_
    · refine kv_aload_n (pc := 25) 0 rfl rfl dk_D_wrongRow_25 ?_
      refine kv_getR (pc := 26) kf_D_16 kr_88 rfl kt_88_2 dk_D_wrongRow_26 ?_
      refine kv_iload_n (pc := 29) 1 rfl rfl dk_D_wrongRow_29 ?_
      refine kv_aldM (pc := 30) kr_91 kn_91 kl_91 g2 rfl dk_D_wrongRow_30 ?_
      refine kv_iconst (pc := 31) (v := (2 : Int32)) dk_D_wrongRow_31 kki_2 ?_
      refine kv_icmp_ne (pc := 32) (tgt := 49) dk_D_wrongRow_32 rfl ?_ ?_
      · refine kv_bipush (pc := 49) (v := (-12 : Int32)) dk_D_wrongRow_49 kkb_m12 ?_
        refine kv_goto (pc := 51) (tgt := 55) dk_D_wrongRow_51 rfl ?_
        exact kv_iret (pc := 55) (fun h => h) rfl dk_D_wrongRow_55
      · refine kv_iload_n (pc := 35) 2 rfl rfl dk_D_wrongRow_35 ?_
        refine kv_if_lt (pc := 36) (tgt := 54) dk_D_wrongRow_36 rfl ?_ ?_
        · refine kv_iconst (pc := 54) (v := (0 : Int32)) dk_D_wrongRow_54 kki_0 ?_
          exact kv_iret (pc := 55) (fun h => h) rfl dk_D_wrongRow_55
        · refine kv_aload_n (pc := 39) 0 rfl rfl dk_D_wrongRow_39 ?_
          refine kv_getR (pc := 40) kf_D_19 kr_88 rfl kt_88_3 dk_D_wrongRow_40 ?_
          refine kv_iload_n (pc := 43) 1 rfl rfl dk_D_wrongRow_43 ?_
          refine kv_aldM (pc := 44) kr_92 kn_92 kl_92 g2 rfl dk_D_wrongRow_44 ?_
          refine kv_iload_n (pc := 45) 2 rfl rfl dk_D_wrongRow_45 ?_
          refine kv_icmp_eq (pc := 46) (tgt := 54) dk_D_wrongRow_46 rfl ?_ ?_
          · refine kv_iconst (pc := 54) (v := (0 : Int32)) dk_D_wrongRow_54 kki_0 ?_
            exact kv_iret (pc := 55) (fun h => h) rfl dk_D_wrongRow_55
          · refine kv_bipush (pc := 49) (v := (-12 : Int32)) dk_D_wrongRow_49 kkb_m12 ?_
            refine kv_goto (pc := 51) (tgt := 55) dk_D_wrongRow_51 rfl ?_
            exact kv_iret (pc := 55) (fun h => h) rfl dk_D_wrongRow_55
    · refine kv_bipush (pc := 20) (v := (-11 : Int32)) dk_D_wrongRow_20 kkb_m11 ?_
      refine kv_goto (pc := 22) (tgt := 55) dk_D_wrongRow_22 rfl ?_
      exact kv_iret (pc := 55) (fun h => h) rfl dk_D_wrongRow_55
  · refine kv_iconst (pc := 7) (v := (-1 : Int32)) dk_D_wrongRow_7 kki_m1 ?_
    refine kv_goto (pc := 8) (tgt := 55) dk_D_wrongRow_8 rfl ?_
    exact kv_iret (pc := 55) (fun h => h) rfl dk_D_wrongRow_55
theorem dk_D_isLost_0 : decode prog_13_method_22_code 0 = .ok (.aload_n 0, 1) := by decide +kernel
theorem dk_D_isLost_1 : decode prog_13_method_22_code 1 = .ok (.getfield 19, 3) := by decide +kernel
theorem dk_D_isLost_4 : decode prog_13_method_22_code 4 = .ok (.iload_n 1, 1) := by decide +kernel
theorem dk_D_isLost_5 : decode prog_13_method_22_code 5 = .ok (.iaload, 1) := by decide +kernel
theorem dk_D_isLost_6 : decode prog_13_method_22_code 6 = .ok (.ifCond .ne 8, 3) := by decide +kernel
theorem dk_D_isLost_9 : decode prog_13_method_22_code 9 = .ok (.bipush (-128), 2) := by decide +kernel
theorem dk_D_isLost_11 : decode prog_13_method_22_code 11 = .ok (.goto 21, 3) := by decide +kernel
theorem dk_D_isLost_14 : decode prog_13_method_22_code 14 = .ok (.aload_n 0, 1) := by decide +kernel
theorem dk_D_isLost_15 : decode prog_13_method_22_code 15 = .ok (.getfield 19, 3) := by decide +kernel
theorem dk_D_isLost_18 : decode prog_13_method_22_code 18 = .ok (.iload_n 1, 1) := by decide +kernel
theorem dk_D_isLost_19 : decode prog_13_method_22_code 19 = .ok (.iaload, 1) := by decide +kernel
theorem dk_D_isLost_20 : decode prog_13_method_22_code 20 = .ok (.iconst 1, 1) := by decide +kernel
theorem dk_D_isLost_21 : decode prog_13_method_22_code 21 = .ok (.if_icmp .ne 9, 3) := by decide +kernel
theorem dk_D_isLost_24 : decode prog_13_method_22_code 24 = .ok (.sipush (-32768), 3) := by decide +kernel
theorem dk_D_isLost_27 : decode prog_13_method_22_code 27 = .ok (.goto 5, 3) := by decide +kernel
theorem dk_D_isLost_30 : decode prog_13_method_22_code 30 = .ok (.ldc 126, 2) := by decide +kernel
theorem dk_D_isLost_32 : decode prog_13_method_22_code 32 = .ok (.istore_n 3, 1) := by decide +kernel
theorem dk_D_isLost_33 : decode prog_13_method_22_code 33 = .ok (.iconst 0, 1) := by decide +kernel
theorem dk_D_isLost_34 : decode prog_13_method_22_code 34 = .ok (.istore 4, 2) := by decide +kernel
theorem dk_D_isLost_36 : decode prog_13_method_22_code 36 = .ok (.iload 4, 2) := by decide +kernel
theorem dk_D_isLost_38 : decode prog_13_method_22_code 38 = .ok (.iconst 5, 1) := by decide +kernel
theorem dk_D_isLost_39 : decode prog_13_method_22_code 39 = .ok (.if_icmp .ge 24, 3) := by decide +kernel
theorem dk_D_isLost_42 : decode prog_13_method_22_code 42 = .ok (.aload_n 0, 1) := by decide +kernel
theorem dk_D_isLost_43 : decode prog_13_method_22_code 43 = .ok (.getfield 25, 3) := by decide +kernel
theorem dk_D_isLost_46 : decode prog_13_method_22_code 46 = .ok (.iload_n 2, 1) := by decide +kernel
theorem dk_D_isLost_47 : decode prog_13_method_22_code 47 = .ok (.iload 4, 2) := by decide +kernel
theorem dk_D_isLost_49 : decode prog_13_method_22_code 49 = .ok (.iadd, 1) := by decide +kernel
theorem dk_D_isLost_50 : decode prog_13_method_22_code 50 = .ok (.iaload, 1) := by decide +kernel
theorem dk_D_isLost_51 : decode prog_13_method_22_code 51 = .ok (.iload_n 3, 1) := by decide +kernel
theorem dk_D_isLost_52 : decode prog_13_method_22_code 52 = .ok (.if_icmp .ne 5, 3) := by decide +kernel
theorem dk_D_isLost_55 : decode prog_13_method_22_code 55 = .ok (.iconst 1, 1) := by decide +kernel
theorem dk_D_isLost_56 : decode prog_13_method_22_code 56 = .ok (.ireturn, 1) := by decide +kernel
theorem dk_D_isLost_57 : decode prog_13_method_22_code 57 = .ok (.iinc 4 1, 3) := by decide +kernel
theorem dk_D_isLost_60 : decode prog_13_method_22_code 60 = .ok (.goto (-24), 3) := by decide +kernel
theorem dk_D_isLost_63 : decode prog_13_method_22_code 63 = .ok (.iconst 0, 1) := by decide +kernel
theorem dk_D_isLost_64 : decode prog_13_method_22_code 64 = .ok (.ireturn, 1) := by decide +kernel
noncomputable def fb_D_isLost_36 (p2 : Int32) (m : (Nat → Nat → Int32)) (x2 : Int32) (x3 : Int32) : Option (Int32 ⊕ (Unit ⊕ Unit)) :=
  if (5 : Int32) ≤ x3 then
    some (.inr (.inr ()))
  else
    kv_gd (kv_in (p2 + x3) 800) (
    if (m 94 (p2 + x3).toNatClampNeg) = x2 then
      some (.inr (.inl ()))
    else
      some (.inl (x3 + (1 : Int32))))
noncomputable def fj_D_isLost_32 (p2 : Int32) (m : (Nat → Nat → Int32)) (x2 : Int32) : Option Bool :=
  (kv_loop (kv_u1 (fb_D_isLost_36 p2 m x2)) (0 : Int32)).bind (Sum.elim (kv_u0 (
  some true))
   (kv_u0 (
  some false)))
noncomputable def fx_D_isLost (p1 : Int32) (p2 : Int32) (m : (Nat → Nat → Int32)) : Option Bool :=
  kv_gd (kv_in p1 8) (
  if (m 92 p1.toNatClampNeg) = 0 then
    fj_D_isLost_32 p2 m (-128 : Int32)
  else
    if (m 92 p1.toNatClampNeg) = (1 : Int32) then
      fj_D_isLost_32 p2 m (-32768 : Int32)
    else
      fj_D_isLost_32 p2 m (-2147483648 : Int32))
set_option maxRecDepth 20000 in
theorem cx_D_isLost (d : Nat) (p1 : Int32) (p2 : Int32) (c : (Nat → Nat → Int32)) (m : (Nat → Nat → Int32)) (f : (Nat → Int64)) (u : (Nat → Int64)) : ∀ a, fx_D_isLost p1 p2 m = some a → kv_C kM_D_isLost (d + 0) [.ref 88, .int p1, .int p2] (c, m, f, u) (some (.int (kv_b a)), (c, m, f, u)) := by
  refine kv_entryX (E := fun a : Bool => (some (.int (kv_b a)), (c, m, f, u))) rfl (Nat.le_of_ble_eq_true rfl) (fun o => ?_)
  unfold fx_D_isLost
  show kv_X _ _ _ _ _ 0 [(0, .ref 88), (1, .int p1), (2, .int p2)] [] (c, m, f, u)
  refine kv_aload_n (pc := 0) 0 rfl rfl dk_D_isLost_0 ?_
  refine kv_getR (pc := 1) kf_D_19 kr_88 rfl kt_88_3 dk_D_isLost_1 ?_
  refine kv_iload_n (pc := 4) 1 rfl rfl dk_D_isLost_4 ?_
  refine kv_guard (fun g1 => ?_)
  refine kv_aldM (pc := 5) kr_92 kn_92 kl_92 g1 rfl dk_D_isLost_5 ?_
  refine kv_cut_1 (J := fj_D_isLost_32 p2 m) (pcj := 32) (LJ := fun x2 => [(0, .ref 88), (2, .int p2)]) (SJ := fun x2 => [.int x2]) (WJ := fun x2 => (c, m, f, u)) ?_ (fun hj32 => ?_)
  · intro x2
    show kv_X _ _ _ _ (fj_D_isLost_32 p2 m x2) 32 [(0, .ref 88), (2, .int p2)] [.int x2] (c, m, f, u)
    unfold fj_D_isLost_32
    refine kv_istore_n (pc := 32) (lv' := [(3, .int x2), (0, .ref 88), (2, .int p2)]) rfl (Nat.le_of_ble_eq_true rfl) rfl dk_D_isLost_32 ?_
    refine kv_iconst (pc := 33) (v := (0 : Int32)) dk_D_isLost_33 kki_0 ?_
    refine kv_istore (pc := 34) (lv' := [(4, .int (0 : Int32)), (3, .int x2), (0, .ref 88), (2, .int p2)]) rfl (Nat.le_of_ble_eq_true rfl) dk_D_isLost_34 ?_
    refine kv_sub (lv' := [(0, .ref 88), (2, .int p2), (3, .int x2), (4, .int (0 : Int32))]) [2, 3, 1, 0] rfl ?_
    refine kv_lp_1_0_0 (LV := fun x3 => [(0, .ref 88), (2, .int p2), (3, .int x2), (4, .int x3)]) (WW := fun x3 => (c, m, f, u)) (LE1 := []) (WE1 := (c, m, f, u)) (pe1 := 55) (LE2 := []) (WE2 := (c, m, f, u)) (pe2 := 63) ?_ ?_ ?_
    · show kv_X _ _ _ _ _ 55 [] [] (c, m, f, u)
      refine kv_iconst (pc := 55) (v := (1 : Int32)) dk_D_isLost_55 kki_1 ?_
      exact kv_zret (pc := 56) (b := true) (fun h => h) rfl dk_D_isLost_56
    · show kv_X _ _ _ _ _ 63 [] [] (c, m, f, u)
      refine kv_iconst (pc := 63) (v := (0 : Int32)) dk_D_isLost_63 kki_0 ?_
      exact kv_zret (pc := 64) (b := false) (fun h => h) rfl dk_D_isLost_64
    · intro hx36_0 hx36_1 x3
      show kv_X _ _ _ _ (fb_D_isLost_36 p2 m x2 x3) 36 [(0, .ref 88), (2, .int p2), (3, .int x2), (4, .int x3)] [] (c, m, f, u)
      unfold fb_D_isLost_36
      refine kv_iload (pc := 36) 3 rfl dk_D_isLost_36 ?_
      refine kv_iconst (pc := 38) (v := (5 : Int32)) dk_D_isLost_38 kki_5 ?_
      refine kv_icmp_ge (pc := 39) (tgt := 63) dk_D_isLost_39 rfl ?_ ?_
      · exact kv_sub [] rfl (kv_leaf (hx36_1))
      · refine kv_aload_n (pc := 42) 0 rfl rfl dk_D_isLost_42 ?_
        refine kv_getR (pc := 43) kf_D_25 kr_88 rfl kt_88_5 dk_D_isLost_43 ?_
        refine kv_iload_n (pc := 46) 1 rfl rfl dk_D_isLost_46 ?_
        refine kv_iload (pc := 47) 3 rfl dk_D_isLost_47 ?_
        refine kv_iadd (pc := 49) dk_D_isLost_49 ?_
        refine kv_guard (fun g4 => ?_)
        refine kv_aldM (pc := 50) kr_94 kn_94 kl_94 g4 rfl dk_D_isLost_50 ?_
        refine kv_iload_n (pc := 51) 2 rfl rfl dk_D_isLost_51 ?_
        refine kv_icmp_ne (pc := 52) (tgt := 57) dk_D_isLost_52 rfl ?_ ?_
        · refine kv_iinc (pc := 57) (kk := (1 : Int32)) (lv' := [(4, .int (x3 + (1 : Int32))), (0, .ref 88), (2, .int p2), (3, .int x2)]) 3 rfl kki_1 rfl (Nat.le_of_ble_eq_true rfl) dk_D_isLost_57 ?_
          refine kv_goto (pc := 60) (tgt := 36) dk_D_isLost_60 rfl ?_
          exact kv_sub [1, 2, 3, 0] rfl (kv_leaf (fun h => h))
        · exact kv_sub [] rfl (kv_leaf (hx36_0))
  refine kv_if_ne (pc := 6) (tgt := 14) dk_D_isLost_6 rfl ?_ ?_
  · refine kv_aload_n (pc := 14) 0 rfl rfl dk_D_isLost_14 ?_
    refine kv_getR (pc := 15) kf_D_19 kr_88 rfl kt_88_3 dk_D_isLost_15 ?_
    refine kv_iload_n (pc := 18) 1 rfl rfl dk_D_isLost_18 ?_
    refine kv_aldM (pc := 19) kr_92 kn_92 kl_92 g1 rfl dk_D_isLost_19 ?_
    refine kv_iconst (pc := 20) (v := (1 : Int32)) dk_D_isLost_20 kki_1 ?_
    refine kv_icmp_ne (pc := 21) (tgt := 30) dk_D_isLost_21 rfl ?_ ?_
    · refine kv_ldc (pc := 30) (v := (-2147483648 : Int32)) kw_1414 dk_D_isLost_30 ?_
      exact kv_sub [0, 2] rfl (hj32 (-2147483648 : Int32))
    · refine kv_sipush (pc := 24) (v := (-32768 : Int32)) dk_D_isLost_24 kks_m32768 ?_
      refine kv_goto (pc := 27) (tgt := 32) dk_D_isLost_27 rfl ?_
      exact kv_sub [0, 2] rfl (hj32 (-32768 : Int32))
  · refine kv_bipush (pc := 9) (v := (-128 : Int32)) dk_D_isLost_9 kkb_m128 ?_
    refine kv_goto (pc := 11) (tgt := 32) dk_D_isLost_11 rfl ?_
    exact kv_sub [0, 2] rfl (hj32 (-128 : Int32))
theorem dk_D_isYear_0 : decode prog_13_method_5_code 0 = .ok (.iload_n 0, 1) := by decide +kernel
theorem dk_D_isYear_1 : decode prog_13_method_5_code 1 = .ok (.i2l, 1) := by decide +kernel
theorem dk_D_isYear_2 : decode prog_13_method_5_code 2 = .ok (.lconst 0, 1) := by decide +kernel
theorem dk_D_isYear_3 : decode prog_13_method_5_code 3 = .ok (.ldc2_w 64, 3) := by decide +kernel
theorem dk_D_isYear_6 : decode prog_13_method_5_code 6 = .ok (.invokestatic 60, 3) := by decide +kernel
theorem dk_D_isYear_9 : decode prog_13_method_5_code 9 = .ok (.ireturn, 1) := by decide +kernel
noncomputable def fx_D_isYear (p0 : Int32) : Option Bool :=
  kv_bind1 (fx_D_isIn p0.toInt64 (0 : Int64) (140 : Int64)) (fun b1 =>
  some b1)
set_option maxRecDepth 20000 in
theorem cx_D_isYear (d : Nat) (p0 : Int32) (c : (Nat → Nat → Int32)) (m : (Nat → Nat → Int32)) (f : (Nat → Int64)) (u : (Nat → Int64)) : ∀ a, fx_D_isYear p0 = some a → kv_C kM_D_isYear (d + 1) [.int p0] (c, m, f, u) (some (.int (kv_b a)), (c, m, f, u)) := by
  refine kv_entryX (E := fun a : Bool => (some (.int (kv_b a)), (c, m, f, u))) rfl (Nat.le_of_ble_eq_true rfl) (fun o => ?_)
  unfold fx_D_isYear
  show kv_X _ _ _ _ _ 0 [(0, .int p0)] [] (c, m, f, u)
  refine kv_iload_n (pc := 0) 0 rfl rfl dk_D_isYear_0 ?_
  refine kv_i2l (pc := 1) dk_D_isYear_1 ?_
  refine kv_lconst (pc := 2) (v := (0 : Int64)) dk_D_isYear_2 kkl_0 ?_
  refine kv_ldc2 (pc := 3) (v := (140 : Int64)) kw_1378 dk_D_isYear_3 ?_
  refine kv_cS_mZ (pc := 6) (as := [.long p0.toInt64, .long (0 : Int64), .long (140 : Int64)]) (st := []) ko_D_isIn rfl kw_1320 (Nat.le_of_ble_eq_true rfl) rfl dk_D_isYear_6 (cx_D_isIn d p0.toInt64 (0 : Int64) (140 : Int64) c m f u) (fun b1 => ?_)
  exact kv_zret (pc := 9) (b := b1) (fun h => h) rfl dk_D_isYear_9
theorem dk_D_isLump_0 : decode prog_13_method_4_code 0 = .ok (.iload_n 1, 1) := by decide +kernel
theorem dk_D_isLump_1 : decode prog_13_method_4_code 1 = .ok (.i2l, 1) := by decide +kernel
theorem dk_D_isLump_2 : decode prog_13_method_4_code 2 = .ok (.lconst 0, 1) := by decide +kernel
theorem dk_D_isLump_3 : decode prog_13_method_4_code 3 = .ok (.aload_n 0, 1) := by decide +kernel
theorem dk_D_isLump_4 : decode prog_13_method_4_code 4 = .ok (.getfield 9, 3) := by decide +kernel
theorem dk_D_isLump_7 : decode prog_13_method_4_code 7 = .ok (.iconst 1, 1) := by decide +kernel
theorem dk_D_isLump_8 : decode prog_13_method_4_code 8 = .ok (.iaload, 1) := by decide +kernel
theorem dk_D_isLump_9 : decode prog_13_method_4_code 9 = .ok (.iconst 1, 1) := by decide +kernel
theorem dk_D_isLump_10 : decode prog_13_method_4_code 10 = .ok (.isub, 1) := by decide +kernel
theorem dk_D_isLump_11 : decode prog_13_method_4_code 11 = .ok (.i2l, 1) := by decide +kernel
theorem dk_D_isLump_12 : decode prog_13_method_4_code 12 = .ok (.invokestatic 60, 3) := by decide +kernel
theorem dk_D_isLump_15 : decode prog_13_method_4_code 15 = .ok (.ireturn, 1) := by decide +kernel
noncomputable def fx_D_isLump (p1 : Int32) (m : (Nat → Nat → Int32)) : Option Bool :=
  kv_bind1 (fx_D_isIn p1.toInt64 (0 : Int64) ((m 89 1) - (1 : Int32)).toInt64) (fun b1 =>
  some b1)
set_option maxRecDepth 20000 in
theorem cx_D_isLump (d : Nat) (p1 : Int32) (c : (Nat → Nat → Int32)) (m : (Nat → Nat → Int32)) (f : (Nat → Int64)) (u : (Nat → Int64)) : ∀ a, fx_D_isLump p1 m = some a → kv_C kM_D_isLump (d + 1) [.ref 88, .int p1] (c, m, f, u) (some (.int (kv_b a)), (c, m, f, u)) := by
  refine kv_entryX (E := fun a : Bool => (some (.int (kv_b a)), (c, m, f, u))) rfl (Nat.le_of_ble_eq_true rfl) (fun o => ?_)
  unfold fx_D_isLump
  show kv_X _ _ _ _ _ 0 [(0, .ref 88), (1, .int p1)] [] (c, m, f, u)
  refine kv_iload_n (pc := 0) 1 rfl rfl dk_D_isLump_0 ?_
  refine kv_i2l (pc := 1) dk_D_isLump_1 ?_
  refine kv_lconst (pc := 2) (v := (0 : Int64)) dk_D_isLump_2 kkl_0 ?_
  refine kv_aload_n (pc := 3) 0 rfl rfl dk_D_isLump_3 ?_
  refine kv_getR (pc := 4) kf_D_9 kr_88 rfl kt_88_0 dk_D_isLump_4 ?_
  refine kv_iconst (pc := 7) (v := (1 : Int32)) dk_D_isLump_7 kki_1 ?_
  refine kv_aldM (pc := 8) kr_89 kn_89 kl_89 kkg_1_444 (j := 1) kkx_1 dk_D_isLump_8 ?_
  refine kv_iconst (pc := 9) (v := (1 : Int32)) dk_D_isLump_9 kki_1 ?_
  refine kv_isub (pc := 10) dk_D_isLump_10 ?_
  refine kv_i2l (pc := 11) dk_D_isLump_11 ?_
  refine kv_cS_mZ (pc := 12) (as := [.long p1.toInt64, .long (0 : Int64), .long ((m 89 1) - (1 : Int32)).toInt64]) (st := []) ko_D_isIn rfl kw_1320 (Nat.le_of_ble_eq_true rfl) rfl dk_D_isLump_12 (cx_D_isIn d p1.toInt64 (0 : Int64) ((m 89 1) - (1 : Int32)).toInt64 c m f u) (fun b1 => ?_)
  exact kv_zret (pc := 15) (b := b1) (fun h => h) rfl dk_D_isLump_15
theorem dk_D_tells_0 : decode prog_13_method_19_code 0 = .ok (.bipush 80, 2) := by decide +kernel
theorem dk_D_tells_2 : decode prog_13_method_19_code 2 = .ok (.bipush 6, 2) := by decide +kernel
theorem dk_D_tells_4 : decode prog_13_method_19_code 4 = .ok (.aload_n 0, 1) := by decide +kernel
theorem dk_D_tells_5 : decode prog_13_method_19_code 5 = .ok (.getfield 9, 3) := by decide +kernel
theorem dk_D_tells_8 : decode prog_13_method_19_code 8 = .ok (.iconst 2, 1) := by decide +kernel
theorem dk_D_tells_9 : decode prog_13_method_19_code 9 = .ok (.iaload, 1) := by decide +kernel
theorem dk_D_tells_10 : decode prog_13_method_19_code 10 = .ok (.imul, 1) := by decide +kernel
theorem dk_D_tells_11 : decode prog_13_method_19_code 11 = .ok (.iadd, 1) := by decide +kernel
theorem dk_D_tells_12 : decode prog_13_method_19_code 12 = .ok (.istore 6, 2) := by decide +kernel
theorem dk_D_tells_14 : decode prog_13_method_19_code 14 = .ok (.aload_n 0, 1) := by decide +kernel
theorem dk_D_tells_15 : decode prog_13_method_19_code 15 = .ok (.getfield 9, 3) := by decide +kernel
theorem dk_D_tells_18 : decode prog_13_method_19_code 18 = .ok (.iload 6, 2) := by decide +kernel
theorem dk_D_tells_20 : decode prog_13_method_19_code 20 = .ok (.iload_n 1, 1) := by decide +kernel
theorem dk_D_tells_21 : decode prog_13_method_19_code 21 = .ok (.iastore, 1) := by decide +kernel
theorem dk_D_tells_22 : decode prog_13_method_19_code 22 = .ok (.aload_n 0, 1) := by decide +kernel
theorem dk_D_tells_23 : decode prog_13_method_19_code 23 = .ok (.getfield 9, 3) := by decide +kernel
theorem dk_D_tells_26 : decode prog_13_method_19_code 26 = .ok (.iload 6, 2) := by decide +kernel
theorem dk_D_tells_28 : decode prog_13_method_19_code 28 = .ok (.iconst 1, 1) := by decide +kernel
theorem dk_D_tells_29 : decode prog_13_method_19_code 29 = .ok (.iadd, 1) := by decide +kernel
theorem dk_D_tells_30 : decode prog_13_method_19_code 30 = .ok (.iload_n 2, 1) := by decide +kernel
theorem dk_D_tells_31 : decode prog_13_method_19_code 31 = .ok (.iastore, 1) := by decide +kernel
theorem dk_D_tells_32 : decode prog_13_method_19_code 32 = .ok (.aload_n 0, 1) := by decide +kernel
theorem dk_D_tells_33 : decode prog_13_method_19_code 33 = .ok (.getfield 9, 3) := by decide +kernel
theorem dk_D_tells_36 : decode prog_13_method_19_code 36 = .ok (.iload 6, 2) := by decide +kernel
theorem dk_D_tells_38 : decode prog_13_method_19_code 38 = .ok (.iconst 2, 1) := by decide +kernel
theorem dk_D_tells_39 : decode prog_13_method_19_code 39 = .ok (.iadd, 1) := by decide +kernel
theorem dk_D_tells_40 : decode prog_13_method_19_code 40 = .ok (.iload_n 3, 1) := by decide +kernel
theorem dk_D_tells_41 : decode prog_13_method_19_code 41 = .ok (.iastore, 1) := by decide +kernel
theorem dk_D_tells_42 : decode prog_13_method_19_code 42 = .ok (.aload_n 0, 1) := by decide +kernel
theorem dk_D_tells_43 : decode prog_13_method_19_code 43 = .ok (.getfield 9, 3) := by decide +kernel
theorem dk_D_tells_46 : decode prog_13_method_19_code 46 = .ok (.iload 6, 2) := by decide +kernel
theorem dk_D_tells_48 : decode prog_13_method_19_code 48 = .ok (.iconst 3, 1) := by decide +kernel
theorem dk_D_tells_49 : decode prog_13_method_19_code 49 = .ok (.iadd, 1) := by decide +kernel
theorem dk_D_tells_50 : decode prog_13_method_19_code 50 = .ok (.iload 4, 2) := by decide +kernel
theorem dk_D_tells_52 : decode prog_13_method_19_code 52 = .ok (.iastore, 1) := by decide +kernel
theorem dk_D_tells_53 : decode prog_13_method_19_code 53 = .ok (.aload_n 0, 1) := by decide +kernel
theorem dk_D_tells_54 : decode prog_13_method_19_code 54 = .ok (.getfield 9, 3) := by decide +kernel
theorem dk_D_tells_57 : decode prog_13_method_19_code 57 = .ok (.iload 6, 2) := by decide +kernel
theorem dk_D_tells_59 : decode prog_13_method_19_code 59 = .ok (.iconst 4, 1) := by decide +kernel
theorem dk_D_tells_60 : decode prog_13_method_19_code 60 = .ok (.iadd, 1) := by decide +kernel
theorem dk_D_tells_61 : decode prog_13_method_19_code 61 = .ok (.iload 5, 2) := by decide +kernel
theorem dk_D_tells_63 : decode prog_13_method_19_code 63 = .ok (.iastore, 1) := by decide +kernel
theorem dk_D_tells_64 : decode prog_13_method_19_code 64 = .ok (.aload_n 0, 1) := by decide +kernel
theorem dk_D_tells_65 : decode prog_13_method_19_code 65 = .ok (.getfield 9, 3) := by decide +kernel
theorem dk_D_tells_68 : decode prog_13_method_19_code 68 = .ok (.iload 6, 2) := by decide +kernel
theorem dk_D_tells_70 : decode prog_13_method_19_code 70 = .ok (.iconst 5, 1) := by decide +kernel
theorem dk_D_tells_71 : decode prog_13_method_19_code 71 = .ok (.iadd, 1) := by decide +kernel
theorem dk_D_tells_72 : decode prog_13_method_19_code 72 = .ok (.iconst 0, 1) := by decide +kernel
theorem dk_D_tells_73 : decode prog_13_method_19_code 73 = .ok (.iastore, 1) := by decide +kernel
theorem dk_D_tells_74 : decode prog_13_method_19_code 74 = .ok (.aload_n 0, 1) := by decide +kernel
theorem dk_D_tells_75 : decode prog_13_method_19_code 75 = .ok (.getfield 9, 3) := by decide +kernel
theorem dk_D_tells_78 : decode prog_13_method_19_code 78 = .ok (.iconst 2, 1) := by decide +kernel
theorem dk_D_tells_79 : decode prog_13_method_19_code 79 = .ok (.dup2, 1) := by decide +kernel
theorem dk_D_tells_80 : decode prog_13_method_19_code 80 = .ok (.iaload, 1) := by decide +kernel
theorem dk_D_tells_81 : decode prog_13_method_19_code 81 = .ok (.iconst 1, 1) := by decide +kernel
theorem dk_D_tells_82 : decode prog_13_method_19_code 82 = .ok (.iadd, 1) := by decide +kernel
theorem dk_D_tells_83 : decode prog_13_method_19_code 83 = .ok (.iastore, 1) := by decide +kernel
theorem dk_D_tells_84 : decode prog_13_method_19_code 84 = .ok (.return_, 1) := by decide +kernel
noncomputable def fx_D_tells (p1 : Int32) (p2 : Int32) (p3 : Int32) (p4 : Int32) (p5 : Int32) (m : (Nat → Nat → Int32)) : Option (Nat → Nat → Int32) :=
  kv_let ((80 : Int32) + ((6 : Int32) * (m 89 2))) (fun v1 =>
  kv_gd (kv_in v1 444) (
  kv_let (kv_st m 89 v1.toNatClampNeg p1) (fun m3 =>
  kv_gd (kv_in (v1 + (1 : Int32)) 444) (
  kv_let (kv_st m3 89 (v1 + (1 : Int32)).toNatClampNeg p2) (fun m5 =>
  kv_gd (kv_in (v1 + (2 : Int32)) 444) (
  kv_let (kv_st m5 89 (v1 + (2 : Int32)).toNatClampNeg p3) (fun m7 =>
  kv_gd (kv_in (v1 + (3 : Int32)) 444) (
  kv_let (kv_st m7 89 (v1 + (3 : Int32)).toNatClampNeg p4) (fun m9 =>
  kv_gd (kv_in (v1 + (4 : Int32)) 444) (
  kv_let (kv_st m9 89 (v1 + (4 : Int32)).toNatClampNeg p5) (fun m11 =>
  kv_gd (kv_in (v1 + (5 : Int32)) 444) (
  kv_let (kv_st m11 89 (v1 + (5 : Int32)).toNatClampNeg (0 : Int32)) (fun m13 =>
  kv_let (kv_st m13 89 2 ((m13 89 2) + (1 : Int32))) (fun m14 =>
  some m14))))))))))))))
set_option maxRecDepth 20000 in
theorem cx_D_tells (d : Nat) (p1 : Int32) (p2 : Int32) (p3 : Int32) (p4 : Int32) (p5 : Int32) (c : (Nat → Nat → Int32)) (m : (Nat → Nat → Int32)) (f : (Nat → Int64)) (u : (Nat → Int64)) : ∀ a, fx_D_tells p1 p2 p3 p4 p5 m = some a → kv_C kM_D_tells (d + 0) [.ref 88, .int p1, .int p2, .int p3, .int p4, .int p5] (c, m, f, u) (none, (c, a, f, u)) := by
  refine kv_entryX (E := fun a : (Nat → Nat → Int32) => (none, (c, a, f, u))) rfl (Nat.le_of_ble_eq_true rfl) (fun o => ?_)
  unfold fx_D_tells
  show kv_X _ _ _ _ _ 0 [(0, .ref 88), (1, .int p1), (2, .int p2), (3, .int p3), (4, .int p4), (5, .int p5)] [] (c, m, f, u)
  refine kv_bipush (pc := 0) (v := (80 : Int32)) dk_D_tells_0 kkb_80 ?_
  refine kv_bipush (pc := 2) (v := (6 : Int32)) dk_D_tells_2 kkb_6 ?_
  refine kv_aload_n (pc := 4) 0 rfl rfl dk_D_tells_4 ?_
  refine kv_getR (pc := 5) kf_D_9 kr_88 rfl kt_88_0 dk_D_tells_5 ?_
  refine kv_iconst (pc := 8) (v := (2 : Int32)) dk_D_tells_8 kki_2 ?_
  refine kv_aldM (pc := 9) kr_89 kn_89 kl_89 kkg_2_444 (j := 2) kkx_2 dk_D_tells_9 ?_
  refine kv_imul (pc := 10) dk_D_tells_10 ?_
  refine kv_iadd (pc := 11) dk_D_tells_11 ?_
  refine kv_letI (fun v1 => ?_)
  refine kv_istore (pc := 12) (lv' := [(6, .int v1), (0, .ref 88), (1, .int p1), (2, .int p2), (3, .int p3), (4, .int p4), (5, .int p5)]) rfl (Nat.le_of_ble_eq_true rfl) dk_D_tells_12 ?_
  refine kv_aload_n (pc := 14) 1 rfl rfl dk_D_tells_14 ?_
  refine kv_getR (pc := 15) kf_D_9 kr_88 rfl kt_88_0 dk_D_tells_15 ?_
  refine kv_iload (pc := 18) 0 rfl dk_D_tells_18 ?_
  refine kv_iload_n (pc := 20) 2 rfl rfl dk_D_tells_20 ?_
  refine kv_guard (fun g2 => ?_)
  refine kv_astM (pc := 21) kr_89 kn_89 kl_89 g2 rfl dk_D_tells_21 (fun m3 => ?_)
  refine kv_aload_n (pc := 22) 1 rfl rfl dk_D_tells_22 ?_
  refine kv_getR (pc := 23) kf_D_9 kr_88 rfl kt_88_0 dk_D_tells_23 ?_
  refine kv_iload (pc := 26) 0 rfl dk_D_tells_26 ?_
  refine kv_iconst (pc := 28) (v := (1 : Int32)) dk_D_tells_28 kki_1 ?_
  refine kv_iadd (pc := 29) dk_D_tells_29 ?_
  refine kv_iload_n (pc := 30) 3 rfl rfl dk_D_tells_30 ?_
  refine kv_guard (fun g4 => ?_)
  refine kv_astM (pc := 31) kr_89 kn_89 kl_89 g4 rfl dk_D_tells_31 (fun m5 => ?_)
  refine kv_aload_n (pc := 32) 1 rfl rfl dk_D_tells_32 ?_
  refine kv_getR (pc := 33) kf_D_9 kr_88 rfl kt_88_0 dk_D_tells_33 ?_
  refine kv_iload (pc := 36) 0 rfl dk_D_tells_36 ?_
  refine kv_iconst (pc := 38) (v := (2 : Int32)) dk_D_tells_38 kki_2 ?_
  refine kv_iadd (pc := 39) dk_D_tells_39 ?_
  refine kv_iload_n (pc := 40) 4 rfl rfl dk_D_tells_40 ?_
  refine kv_guard (fun g6 => ?_)
  refine kv_astM (pc := 41) kr_89 kn_89 kl_89 g6 rfl dk_D_tells_41 (fun m7 => ?_)
  refine kv_aload_n (pc := 42) 1 rfl rfl dk_D_tells_42 ?_
  refine kv_getR (pc := 43) kf_D_9 kr_88 rfl kt_88_0 dk_D_tells_43 ?_
  refine kv_iload (pc := 46) 0 rfl dk_D_tells_46 ?_
  refine kv_iconst (pc := 48) (v := (3 : Int32)) dk_D_tells_48 kki_3 ?_
  refine kv_iadd (pc := 49) dk_D_tells_49 ?_
  refine kv_iload (pc := 50) 5 rfl dk_D_tells_50 ?_
  refine kv_guard (fun g8 => ?_)
  refine kv_astM (pc := 52) kr_89 kn_89 kl_89 g8 rfl dk_D_tells_52 (fun m9 => ?_)
  refine kv_aload_n (pc := 53) 1 rfl rfl dk_D_tells_53 ?_
  refine kv_getR (pc := 54) kf_D_9 kr_88 rfl kt_88_0 dk_D_tells_54 ?_
  refine kv_iload (pc := 57) 0 rfl dk_D_tells_57 ?_
  refine kv_iconst (pc := 59) (v := (4 : Int32)) dk_D_tells_59 kki_4 ?_
  refine kv_iadd (pc := 60) dk_D_tells_60 ?_
  refine kv_iload (pc := 61) 6 rfl dk_D_tells_61 ?_
  refine kv_guard (fun g10 => ?_)
  refine kv_astM (pc := 63) kr_89 kn_89 kl_89 g10 rfl dk_D_tells_63 (fun m11 => ?_)
  refine kv_aload_n (pc := 64) 1 rfl rfl dk_D_tells_64 ?_
  refine kv_getR (pc := 65) kf_D_9 kr_88 rfl kt_88_0 dk_D_tells_65 ?_
  refine kv_iload (pc := 68) 0 rfl dk_D_tells_68 ?_
  refine kv_iconst (pc := 70) (v := (5 : Int32)) dk_D_tells_70 kki_5 ?_
  refine kv_iadd (pc := 71) dk_D_tells_71 ?_
  refine kv_iconst (pc := 72) (v := (0 : Int32)) dk_D_tells_72 kki_0 ?_
  refine kv_guard (fun g12 => ?_)
  refine kv_astM (pc := 73) kr_89 kn_89 kl_89 g12 rfl dk_D_tells_73 (fun m13 => ?_)
  refine kv_aload_n (pc := 74) 1 rfl rfl dk_D_tells_74 ?_
  refine kv_getR (pc := 75) kf_D_9 kr_88 rfl kt_88_0 dk_D_tells_75 ?_
  refine kv_iconst (pc := 78) (v := (2 : Int32)) dk_D_tells_78 kki_2 ?_
  refine kv_dup2RI (pc := 79) dk_D_tells_79 ?_
  refine kv_aldM (pc := 80) kr_89 kn_89 kl_89 kkg_2_444 (j := 2) kkx_2 dk_D_tells_80 ?_
  refine kv_iconst (pc := 81) (v := (1 : Int32)) dk_D_tells_81 kki_1 ?_
  refine kv_iadd (pc := 82) dk_D_tells_82 ?_
  refine kv_astM (pc := 83) kr_89 kn_89 kl_89 kkg_2_444 (j := 2) kkx_2 dk_D_tells_83 (fun m14 => ?_)
  exact kv_vret (pc := 84) (fun h => h) rfl dk_D_tells_84
theorem dk_D_hear_0 : decode prog_13_method_23_code 0 = .ok (.aload_n 0, 1) := by decide +kernel
theorem dk_D_hear_1 : decode prog_13_method_23_code 1 = .ok (.iload_n 1, 1) := by decide +kernel
theorem dk_D_hear_2 : decode prog_13_method_23_code 2 = .ok (.iconst (-1), 1) := by decide +kernel
theorem dk_D_hear_3 : decode prog_13_method_23_code 3 = .ok (.invokevirtual 127, 3) := by decide +kernel
theorem dk_D_hear_6 : decode prog_13_method_23_code 6 = .ok (.istore_n 2, 1) := by decide +kernel
theorem dk_D_hear_7 : decode prog_13_method_23_code 7 = .ok (.iload_n 2, 1) := by decide +kernel
theorem dk_D_hear_8 : decode prog_13_method_23_code 8 = .ok (.ifCond .eq 5, 3) := by decide +kernel
theorem dk_D_hear_11 : decode prog_13_method_23_code 11 = .ok (.iload_n 2, 1) := by decide +kernel
theorem dk_D_hear_12 : decode prog_13_method_23_code 12 = .ok (.ireturn, 1) := by decide +kernel
theorem dk_D_hear_13 : decode prog_13_method_23_code 13 = .ok (.iconst 0, 1) := by decide +kernel
theorem dk_D_hear_14 : decode prog_13_method_23_code 14 = .ok (.istore_n 3, 1) := by decide +kernel
theorem dk_D_hear_15 : decode prog_13_method_23_code 15 = .ok (.iconst 0, 1) := by decide +kernel
theorem dk_D_hear_16 : decode prog_13_method_23_code 16 = .ok (.istore 4, 2) := by decide +kernel
theorem dk_D_hear_18 : decode prog_13_method_23_code 18 = .ok (.iload 4, 2) := by decide +kernel
theorem dk_D_hear_20 : decode prog_13_method_23_code 20 = .ok (.iconst 5, 1) := by decide +kernel
theorem dk_D_hear_21 : decode prog_13_method_23_code 21 = .ok (.iadd, 1) := by decide +kernel
theorem dk_D_hear_22 : decode prog_13_method_23_code 22 = .ok (.aload_n 0, 1) := by decide +kernel
theorem dk_D_hear_23 : decode prog_13_method_23_code 23 = .ok (.getfield 22, 3) := by decide +kernel
theorem dk_D_hear_26 : decode prog_13_method_23_code 26 = .ok (.iload_n 1, 1) := by decide +kernel
theorem dk_D_hear_27 : decode prog_13_method_23_code 27 = .ok (.iaload, 1) := by decide +kernel
theorem dk_D_hear_28 : decode prog_13_method_23_code 28 = .ok (.if_icmp .gt 182, 3) := by decide +kernel
theorem dk_D_hear_31 : decode prog_13_method_23_code 31 = .ok (.bipush 100, 2) := by decide +kernel
theorem dk_D_hear_33 : decode prog_13_method_23_code 33 = .ok (.iload_n 1, 1) := by decide +kernel
theorem dk_D_hear_34 : decode prog_13_method_23_code 34 = .ok (.imul, 1) := by decide +kernel
theorem dk_D_hear_35 : decode prog_13_method_23_code 35 = .ok (.iload 4, 2) := by decide +kernel
theorem dk_D_hear_37 : decode prog_13_method_23_code 37 = .ok (.iadd, 1) := by decide +kernel
theorem dk_D_hear_38 : decode prog_13_method_23_code 38 = .ok (.istore 5, 2) := by decide +kernel
theorem dk_D_hear_40 : decode prog_13_method_23_code 40 = .ok (.aload_n 0, 1) := by decide +kernel
theorem dk_D_hear_41 : decode prog_13_method_23_code 41 = .ok (.iload_n 1, 1) := by decide +kernel
theorem dk_D_hear_42 : decode prog_13_method_23_code 42 = .ok (.iload 5, 2) := by decide +kernel
theorem dk_D_hear_44 : decode prog_13_method_23_code 44 = .ok (.invokevirtual 130, 3) := by decide +kernel
theorem dk_D_hear_47 : decode prog_13_method_23_code 47 = .ok (.ifCond .eq 6, 3) := by decide +kernel
theorem dk_D_hear_50 : decode prog_13_method_23_code 50 = .ok (.goto 154, 3) := by decide +kernel
theorem dk_D_hear_53 : decode prog_13_method_23_code 53 = .ok (.aload_n 0, 1) := by decide +kernel
theorem dk_D_hear_54 : decode prog_13_method_23_code 54 = .ok (.getfield 25, 3) := by decide +kernel
theorem dk_D_hear_57 : decode prog_13_method_23_code 57 = .ok (.iload 5, 2) := by decide +kernel
theorem dk_D_hear_59 : decode prog_13_method_23_code 59 = .ok (.iconst 1, 1) := by decide +kernel
theorem dk_D_hear_60 : decode prog_13_method_23_code 60 = .ok (.iadd, 1) := by decide +kernel
theorem dk_D_hear_61 : decode prog_13_method_23_code 61 = .ok (.iaload, 1) := by decide +kernel
theorem dk_D_hear_62 : decode prog_13_method_23_code 62 = .ok (.istore 6, 2) := by decide +kernel
theorem dk_D_hear_64 : decode prog_13_method_23_code 64 = .ok (.aload_n 0, 1) := by decide +kernel
theorem dk_D_hear_65 : decode prog_13_method_23_code 65 = .ok (.getfield 25, 3) := by decide +kernel
theorem dk_D_hear_68 : decode prog_13_method_23_code 68 = .ok (.iload 5, 2) := by decide +kernel
theorem dk_D_hear_70 : decode prog_13_method_23_code 70 = .ok (.iconst 2, 1) := by decide +kernel
theorem dk_D_hear_71 : decode prog_13_method_23_code 71 = .ok (.iadd, 1) := by decide +kernel
theorem dk_D_hear_72 : decode prog_13_method_23_code 72 = .ok (.iaload, 1) := by decide +kernel
theorem dk_D_hear_73 : decode prog_13_method_23_code 73 = .ok (.istore 7, 2) := by decide +kernel
theorem dk_D_hear_75 : decode prog_13_method_23_code 75 = .ok (.aload_n 0, 1) := by decide +kernel
theorem dk_D_hear_76 : decode prog_13_method_23_code 76 = .ok (.getfield 25, 3) := by decide +kernel
theorem dk_D_hear_79 : decode prog_13_method_23_code 79 = .ok (.iload 5, 2) := by decide +kernel
theorem dk_D_hear_81 : decode prog_13_method_23_code 81 = .ok (.iaload, 1) := by decide +kernel
theorem dk_D_hear_82 : decode prog_13_method_23_code 82 = .ok (.invokestatic 110, 3) := by decide +kernel
theorem dk_D_hear_85 : decode prog_13_method_23_code 85 = .ok (.ifCond .eq 81, 3) := by decide +kernel
theorem dk_D_hear_88 : decode prog_13_method_23_code 88 = .ok (.aload_n 0, 1) := by decide +kernel
theorem dk_D_hear_89 : decode prog_13_method_23_code 89 = .ok (.iload 6, 2) := by decide +kernel
theorem dk_D_hear_91 : decode prog_13_method_23_code 91 = .ok (.invokevirtual 98, 3) := by decide +kernel
theorem dk_D_hear_94 : decode prog_13_method_23_code 94 = .ok (.ifCond .eq 72, 3) := by decide +kernel
theorem dk_D_hear_97 : decode prog_13_method_23_code 97 = .ok (.aload_n 0, 1) := by decide +kernel
theorem dk_D_hear_98 : decode prog_13_method_23_code 98 = .ok (.iload 7, 2) := by decide +kernel
theorem dk_D_hear_100 : decode prog_13_method_23_code 100 = .ok (.invokevirtual 98, 3) := by decide +kernel
theorem dk_D_hear_103 : decode prog_13_method_23_code 103 = .ok (.ifCond .eq 63, 3) := by decide +kernel
theorem dk_D_hear_106 : decode prog_13_method_23_code 106 = .ok (.iload 6, 2) := by decide +kernel
theorem dk_D_hear_108 : decode prog_13_method_23_code 108 = .ok (.iload 7, 2) := by decide +kernel
theorem dk_D_hear_110 : decode prog_13_method_23_code 110 = .ok (.if_icmp .eq 56, 3) := by decide +kernel
theorem dk_D_hear_113 : decode prog_13_method_23_code 113 = .ok (.aload_n 0, 1) := by decide +kernel
theorem dk_D_hear_114 : decode prog_13_method_23_code 114 = .ok (.getfield 25, 3) := by decide +kernel
theorem dk_D_hear_117 : decode prog_13_method_23_code 117 = .ok (.iload 5, 2) := by decide +kernel
theorem dk_D_hear_119 : decode prog_13_method_23_code 119 = .ok (.iconst 3, 1) := by decide +kernel
theorem dk_D_hear_120 : decode prog_13_method_23_code 120 = .ok (.iadd, 1) := by decide +kernel
theorem dk_D_hear_121 : decode prog_13_method_23_code 121 = .ok (.iaload, 1) := by decide +kernel
theorem dk_D_hear_122 : decode prog_13_method_23_code 122 = .ok (.i2l, 1) := by decide +kernel
theorem dk_D_hear_123 : decode prog_13_method_23_code 123 = .ok (.ldc2_w 134, 3) := by decide +kernel
theorem dk_D_hear_126 : decode prog_13_method_23_code 126 = .ok (.ldc2_w 136, 3) := by decide +kernel
theorem dk_D_hear_129 : decode prog_13_method_23_code 129 = .ok (.invokestatic 60, 3) := by decide +kernel
theorem dk_D_hear_132 : decode prog_13_method_23_code 132 = .ok (.ifCond .eq 34, 3) := by decide +kernel
theorem dk_D_hear_135 : decode prog_13_method_23_code 135 = .ok (.aload_n 0, 1) := by decide +kernel
theorem dk_D_hear_136 : decode prog_13_method_23_code 136 = .ok (.getfield 25, 3) := by decide +kernel
theorem dk_D_hear_139 : decode prog_13_method_23_code 139 = .ok (.iload 5, 2) := by decide +kernel
theorem dk_D_hear_141 : decode prog_13_method_23_code 141 = .ok (.iconst 4, 1) := by decide +kernel
theorem dk_D_hear_142 : decode prog_13_method_23_code 142 = .ok (.iadd, 1) := by decide +kernel
theorem dk_D_hear_143 : decode prog_13_method_23_code 143 = .ok (.iaload, 1) := by decide +kernel
theorem dk_D_hear_144 : decode prog_13_method_23_code 144 = .ok (.i2l, 1) := by decide +kernel
theorem dk_D_hear_145 : decode prog_13_method_23_code 145 = .ok (.lconst 0, 1) := by decide +kernel
theorem dk_D_hear_146 : decode prog_13_method_23_code 146 = .ok (.ldc2_w 94, 3) := by decide +kernel
theorem dk_D_hear_149 : decode prog_13_method_23_code 149 = .ok (.invokestatic 60, 3) := by decide +kernel
theorem dk_D_hear_152 : decode prog_13_method_23_code 152 = .ok (.ifCond .eq 14, 3) := by decide +kernel
theorem dk_D_hear_155 : decode prog_13_method_23_code 155 = .ok (.aload_n 0, 1) := by decide +kernel
theorem dk_D_hear_156 : decode prog_13_method_23_code 156 = .ok (.getfield 9, 3) := by decide +kernel
theorem dk_D_hear_159 : decode prog_13_method_23_code 159 = .ok (.iconst 2, 1) := by decide +kernel
theorem dk_D_hear_160 : decode prog_13_method_23_code 160 = .ok (.iaload, 1) := by decide +kernel
theorem dk_D_hear_161 : decode prog_13_method_23_code 161 = .ok (.bipush 20, 2) := by decide +kernel
theorem dk_D_hear_163 : decode prog_13_method_23_code 163 = .ok (.if_icmp .ne 5, 3) := by decide +kernel
theorem dk_D_hear_166 : decode prog_13_method_23_code 166 = .ok (.iload_n 3, 1) := by decide +kernel
theorem dk_D_hear_167 : decode prog_13_method_23_code 167 = .ok (.ireturn, 1) := by decide +kernel
theorem dk_D_hear_168 : decode prog_13_method_23_code 168 = .ok (.aload_n 0, 1) := by decide +kernel
theorem dk_D_hear_169 : decode prog_13_method_23_code 169 = .ok (.aload_n 0, 1) := by decide +kernel
theorem dk_D_hear_170 : decode prog_13_method_23_code 170 = .ok (.getfield 25, 3) := by decide +kernel
theorem dk_D_hear_173 : decode prog_13_method_23_code 173 = .ok (.iload 5, 2) := by decide +kernel
theorem dk_D_hear_175 : decode prog_13_method_23_code 175 = .ok (.iaload, 1) := by decide +kernel
theorem dk_D_hear_176 : decode prog_13_method_23_code 176 = .ok (.iload 6, 2) := by decide +kernel
theorem dk_D_hear_178 : decode prog_13_method_23_code 178 = .ok (.iload 7, 2) := by decide +kernel
theorem dk_D_hear_180 : decode prog_13_method_23_code 180 = .ok (.aload_n 0, 1) := by decide +kernel
theorem dk_D_hear_181 : decode prog_13_method_23_code 181 = .ok (.getfield 25, 3) := by decide +kernel
theorem dk_D_hear_184 : decode prog_13_method_23_code 184 = .ok (.iload 5, 2) := by decide +kernel
theorem dk_D_hear_186 : decode prog_13_method_23_code 186 = .ok (.iconst 3, 1) := by decide +kernel
theorem dk_D_hear_187 : decode prog_13_method_23_code 187 = .ok (.iadd, 1) := by decide +kernel
theorem dk_D_hear_188 : decode prog_13_method_23_code 188 = .ok (.iaload, 1) := by decide +kernel
theorem dk_D_hear_189 : decode prog_13_method_23_code 189 = .ok (.aload_n 0, 1) := by decide +kernel
theorem dk_D_hear_190 : decode prog_13_method_23_code 190 = .ok (.getfield 25, 3) := by decide +kernel
theorem dk_D_hear_193 : decode prog_13_method_23_code 193 = .ok (.iload 5, 2) := by decide +kernel
theorem dk_D_hear_195 : decode prog_13_method_23_code 195 = .ok (.iconst 4, 1) := by decide +kernel
theorem dk_D_hear_196 : decode prog_13_method_23_code 196 = .ok (.iadd, 1) := by decide +kernel
theorem dk_D_hear_197 : decode prog_13_method_23_code 197 = .ok (.iaload, 1) := by decide +kernel
theorem dk_D_hear_198 : decode prog_13_method_23_code 198 = .ok (.invokevirtual 119, 3) := by decide +kernel
theorem dk_D_hear_201 : decode prog_13_method_23_code 201 = .ok (.iinc 3 1, 3) := by decide +kernel
theorem dk_D_hear_204 : decode prog_13_method_23_code 204 = .ok (.iinc 4 5, 3) := by decide +kernel
theorem dk_D_hear_207 : decode prog_13_method_23_code 207 = .ok (.goto (-189), 3) := by decide +kernel
theorem dk_D_hear_210 : decode prog_13_method_23_code 210 = .ok (.iload_n 3, 1) := by decide +kernel
theorem dk_D_hear_211 : decode prog_13_method_23_code 211 = .ok (.ireturn, 1) := by decide +kernel
noncomputable def fj_D_hear_204 (x3 : Int32) (x12 : Int32) (m13 : (Nat → Nat → Int32)) : Option ((Int32 × Int32 × (Nat → Nat → Int32)) ⊕ ((Int32 × (Nat → Nat → Int32)) ⊕ (Int32 × (Nat → Nat → Int32)))) :=
  some (.inl (x12, (x3 + (5 : Int32)), m13))
noncomputable def fb_D_hear_18 (p1 : Int32) (x2 : Int32) (x3 : Int32) (m4 : (Nat → Nat → Int32)) : Option ((Int32 × Int32 × (Nat → Nat → Int32)) ⊕ ((Int32 × (Nat → Nat → Int32)) ⊕ (Int32 × (Nat → Nat → Int32)))) :=
  kv_gd (kv_in p1 8) (
  if (m4 93 p1.toNatClampNeg) < (x3 + (5 : Int32)) then
    some (.inr (.inr (x2, m4)))
  else
    kv_let (((100 : Int32) * p1) + x3) (fun v10 =>
    kv_bind1 (fx_D_isLost p1 v10 m4) (fun b11 =>
    if b11 = true then
      fj_D_hear_204 x3 x2 m4
    else
      kv_gd (kv_in (v10 + (1 : Int32)) 800) (
      kv_let (m4 94 (v10 + (1 : Int32)).toNatClampNeg) (fun v15 =>
      kv_gd (kv_in (v10 + (2 : Int32)) 800) (
      kv_let (m4 94 (v10 + (2 : Int32)).toNatClampNeg) (fun v17 =>
      kv_gd (kv_in v10 800) (
      kv_bind1 (fx_D_isYear (m4 94 v10.toNatClampNeg)) (fun b19 =>
      if b19 = true then
        kv_bind1 (fx_D_isLump v15 m4) (fun b20 =>
        if b20 = true then
          kv_bind1 (fx_D_isLump v17 m4) (fun b21 =>
          if b21 = true then
            if v15 = v17 then
              some (.inr (.inl (x2, m4)))
            else
              kv_gd (kv_in (v10 + (3 : Int32)) 800) (
              kv_bind1 (fx_D_isIn (m4 94 (v10 + (3 : Int32)).toNatClampNeg).toInt64 (-99999 : Int64) (99999 : Int64)) (fun b23 =>
              if b23 = true then
                kv_gd (kv_in (v10 + (4 : Int32)) 800) (
                kv_bind1 (fx_D_isIn (m4 94 (v10 + (4 : Int32)).toNatClampNeg).toInt64 (0 : Int64) (99 : Int64)) (fun b25 =>
                if b25 = true then
                  if (m4 89 2) = (20 : Int32) then
                    some (.inr (.inl (x2, m4)))
                  else
                    kv_bind1 (fx_D_tells (m4 94 v10.toNatClampNeg) v15 v17 (m4 94 (v10 + (3 : Int32)).toNatClampNeg) (m4 94 (v10 + (4 : Int32)).toNatClampNeg) m4) (fun m26 =>
                    fj_D_hear_204 x3 (x2 + (1 : Int32)) m26)
                else
                  some (.inr (.inl (x2, m4)))))
              else
                some (.inr (.inl (x2, m4)))))
          else
            some (.inr (.inl (x2, m4))))
        else
          some (.inr (.inl (x2, m4))))
      else
        some (.inr (.inl (x2, m4))))))))))))
noncomputable def fx_D_hear (p1 : Int32) (m : (Nat → Nat → Int32)) : Option (Int32 × (Nat → Nat → Int32)) :=
  kv_bind1 (fx_D_wrongRow p1 (-1 : Int32) m) (fun v1 =>
  if v1 = 0 then
    (kv_loop (kv_u3 (fb_D_hear_18 p1)) ((0 : Int32), (0 : Int32), m)).bind (Sum.elim (kv_u2 (fun x5 m6 =>
    some (x5, m6)))
     (kv_u2 (fun x7 m8 =>
    some (x7, m8))))
  else
    some (v1, m))
set_option maxRecDepth 20000 in
theorem cx_D_hear (d : Nat) (p1 : Int32) (c : (Nat → Nat → Int32)) (m : (Nat → Nat → Int32)) (f : (Nat → Int64)) (u : (Nat → Int64)) : ∀ a, fx_D_hear p1 m = some a → kv_C kM_D_hear (d + 3) [.ref 88, .int p1] (c, m, f, u) (some (.int a.1), (c, a.2, f, u)) := by
  refine kv_entryX (E := fun a : (Int32 × (Nat → Nat → Int32)) => (some (.int a.1), (c, a.2, f, u))) rfl (Nat.le_of_ble_eq_true rfl) (fun o => ?_)
  unfold fx_D_hear
  show kv_X _ _ _ _ _ 0 [(0, .ref 88), (1, .int p1)] [] (c, m, f, u)
  refine kv_aload_n (pc := 0) 0 rfl rfl dk_D_hear_0 ?_
  refine kv_iload_n (pc := 1) 1 rfl rfl dk_D_hear_1 ?_
  refine kv_iconst (pc := 2) (v := (-1 : Int32)) dk_D_hear_2 kki_m1 ?_
  refine kv_cV_mI (pc := 3) (as := [.int p1, .int (-1 : Int32)]) (st := []) ko_D_wrongRow kc_11 rfl rfl kr_88 kw_1402 (Nat.le_of_ble_eq_true rfl) rfl dk_D_hear_3 (cx_D_wrongRow d p1 (-1 : Int32) c m f u) (fun v1 => ?_)
  refine kv_istore_n (pc := 6) (lv' := [(2, .int v1), (0, .ref 88), (1, .int p1)]) rfl (Nat.le_of_ble_eq_true rfl) rfl dk_D_hear_6 ?_
  refine kv_iload_n (pc := 7) 0 rfl rfl dk_D_hear_7 ?_
  refine kv_if_eq (pc := 8) (tgt := 13) dk_D_hear_8 rfl ?_ ?_
  · refine kv_iconst (pc := 13) (v := (0 : Int32)) dk_D_hear_13 kki_0 ?_
    refine kv_istore_n (pc := 14) (lv' := [(3, .int (0 : Int32)), (2, .int v1), (0, .ref 88), (1, .int p1)]) rfl (Nat.le_of_ble_eq_true rfl) rfl dk_D_hear_14 ?_
    refine kv_iconst (pc := 15) (v := (0 : Int32)) dk_D_hear_15 kki_0 ?_
    refine kv_istore (pc := 16) (lv' := [(4, .int (0 : Int32)), (3, .int (0 : Int32)), (2, .int v1), (0, .ref 88), (1, .int p1)]) rfl (Nat.le_of_ble_eq_true rfl) dk_D_hear_16 ?_
    refine kv_sub (lv' := [(0, .ref 88), (1, .int p1), (3, .int (0 : Int32)), (4, .int (0 : Int32))]) [3, 4, 1, 0] rfl ?_
    refine kv_lp_3_2_2 (LV := fun x2 x3 m4 => [(0, .ref 88), (1, .int p1), (3, .int x2), (4, .int x3)]) (WW := fun x2 x3 m4 => (c, m4, f, u)) (LE1 := fun x5 m6 => [(3, .int x5)]) (WE1 := fun x5 m6 => (c, m6, f, u)) (pe1 := 166) (LE2 := fun x7 m8 => [(3, .int x7)]) (WE2 := fun x7 m8 => (c, m8, f, u)) (pe2 := 210) ?_ ?_ ?_
    · intro x5 m6
      show kv_X _ _ _ _ _ 166 [(3, .int x5)] [] (c, m6, f, u)
      refine kv_iload_n (pc := 166) 0 rfl rfl dk_D_hear_166 ?_
      exact kv_iret (pc := 167) (fun h => h) rfl dk_D_hear_167
    · intro x7 m8
      show kv_X _ _ _ _ _ 210 [(3, .int x7)] [] (c, m8, f, u)
      refine kv_iload_n (pc := 210) 0 rfl rfl dk_D_hear_210 ?_
      exact kv_iret (pc := 211) (fun h => h) rfl dk_D_hear_211
    · intro hx18_0 hx18_1 x2 x3 m4
      show kv_X _ _ _ _ (fb_D_hear_18 p1 x2 x3 m4) 18 [(0, .ref 88), (1, .int p1), (3, .int x2), (4, .int x3)] [] (c, m4, f, u)
      unfold fb_D_hear_18
      refine kv_iload (pc := 18) 3 rfl dk_D_hear_18 ?_
      refine kv_iconst (pc := 20) (v := (5 : Int32)) dk_D_hear_20 kki_5 ?_
      refine kv_iadd (pc := 21) dk_D_hear_21 ?_
      refine kv_aload_n (pc := 22) 0 rfl rfl dk_D_hear_22 ?_
      refine kv_getR (pc := 23) kf_D_22 kr_88 rfl kt_88_4 dk_D_hear_23 ?_
      refine kv_iload_n (pc := 26) 1 rfl rfl dk_D_hear_26 ?_
      refine kv_guard (fun g9 => ?_)
      refine kv_aldM (pc := 27) kr_93 kn_93 kl_93 g9 rfl dk_D_hear_27 ?_
      refine kv_icmp_gt (pc := 28) (tgt := 210) dk_D_hear_28 rfl ?_ ?_
      · exact kv_sub [2] rfl (kv_leaf (hx18_1 _ _))
      · refine kv_bipush (pc := 31) (v := (100 : Int32)) dk_D_hear_31 kkb_100 ?_
        refine kv_iload_n (pc := 33) 1 rfl rfl dk_D_hear_33 ?_
        refine kv_imul (pc := 34) dk_D_hear_34 ?_
        refine kv_iload (pc := 35) 3 rfl dk_D_hear_35 ?_
        refine kv_iadd (pc := 37) dk_D_hear_37 ?_
        refine kv_letI (fun v10 => ?_)
        refine kv_istore (pc := 38) (lv' := [(5, .int v10), (0, .ref 88), (1, .int p1), (3, .int x2), (4, .int x3)]) rfl (Nat.le_of_ble_eq_true rfl) dk_D_hear_38 ?_
        refine kv_aload_n (pc := 40) 1 rfl rfl dk_D_hear_40 ?_
        refine kv_iload_n (pc := 41) 2 rfl rfl dk_D_hear_41 ?_
        refine kv_iload (pc := 42) 0 rfl dk_D_hear_42 ?_
        refine kv_cV_mZ (pc := 44) (as := [.int p1, .int v10]) (st := []) ko_D_isLost kc_11 rfl rfl kr_88 kw_1410 (Nat.le_of_ble_eq_true rfl) rfl dk_D_hear_44 (cx_D_isLost (d + 2) p1 v10 c m4 f u) (fun b11 => ?_)
        refine kv_cut_2 (J := fj_D_hear_204 x3) (pcj := 204) (LJ := fun x12 m13 => [(0, .ref 88), (1, .int p1), (3, .int x12), (4, .int x3)]) (SJ := fun x12 m13 => []) (WJ := fun x12 m13 => (c, m13, f, u)) ?_ (fun hj204 => ?_)
        · intro x12 m13
          show kv_X _ _ _ _ (fj_D_hear_204 x3 x12 m13) 204 [(0, .ref 88), (1, .int p1), (3, .int x12), (4, .int x3)] [] (c, m13, f, u)
          unfold fj_D_hear_204
          refine kv_iinc (pc := 204) (kk := (5 : Int32)) (lv' := [(4, .int (x3 + (5 : Int32))), (0, .ref 88), (1, .int p1), (3, .int x12)]) 3 rfl kki_5 rfl (Nat.le_of_ble_eq_true rfl) dk_D_hear_204 ?_
          refine kv_goto (pc := 207) (tgt := 18) dk_D_hear_207 rfl ?_
          exact kv_sub [1, 2, 3, 0] rfl (kv_leaf (fun h => h))
        refine kv_zif_eq (pc := 47) (tgt := 53) dk_D_hear_47 rfl ?_ ?_
        · refine kv_aload_n (pc := 53) 1 rfl rfl dk_D_hear_53 ?_
          refine kv_getR (pc := 54) kf_D_25 kr_88 rfl kt_88_5 dk_D_hear_54 ?_
          refine kv_iload (pc := 57) 0 rfl dk_D_hear_57 ?_
          refine kv_iconst (pc := 59) (v := (1 : Int32)) dk_D_hear_59 kki_1 ?_
          refine kv_iadd (pc := 60) dk_D_hear_60 ?_
          refine kv_guard (fun g14 => ?_)
          refine kv_aldM (pc := 61) kr_94 kn_94 kl_94 g14 rfl dk_D_hear_61 ?_
          refine kv_letI (fun v15 => ?_)
          refine kv_istore (pc := 62) (lv' := [(6, .int v15), (5, .int v10), (0, .ref 88), (1, .int p1), (3, .int x2), (4, .int x3)]) rfl (Nat.le_of_ble_eq_true rfl) dk_D_hear_62 ?_
          refine kv_aload_n (pc := 64) 2 rfl rfl dk_D_hear_64 ?_
          refine kv_getR (pc := 65) kf_D_25 kr_88 rfl kt_88_5 dk_D_hear_65 ?_
          refine kv_iload (pc := 68) 1 rfl dk_D_hear_68 ?_
          refine kv_iconst (pc := 70) (v := (2 : Int32)) dk_D_hear_70 kki_2 ?_
          refine kv_iadd (pc := 71) dk_D_hear_71 ?_
          refine kv_guard (fun g16 => ?_)
          refine kv_aldM (pc := 72) kr_94 kn_94 kl_94 g16 rfl dk_D_hear_72 ?_
          refine kv_letI (fun v17 => ?_)
          refine kv_istore (pc := 73) (lv' := [(7, .int v17), (6, .int v15), (5, .int v10), (0, .ref 88), (1, .int p1), (3, .int x2), (4, .int x3)]) rfl (Nat.le_of_ble_eq_true rfl) dk_D_hear_73 ?_
          refine kv_aload_n (pc := 75) 3 rfl rfl dk_D_hear_75 ?_
          refine kv_getR (pc := 76) kf_D_25 kr_88 rfl kt_88_5 dk_D_hear_76 ?_
          refine kv_iload (pc := 79) 2 rfl dk_D_hear_79 ?_
          refine kv_guard (fun g18 => ?_)
          refine kv_aldM (pc := 81) kr_94 kn_94 kl_94 g18 rfl dk_D_hear_81 ?_
          refine kv_cS_mZ (pc := 82) (as := [.int (m4 94 v10.toNatClampNeg)]) (st := []) ko_D_isYear rfl kw_1375 (Nat.le_of_ble_eq_true rfl) rfl dk_D_hear_82 (cx_D_isYear (d + 1) (m4 94 v10.toNatClampNeg) c m4 f u) (fun b19 => ?_)
          refine kv_zif_eq (pc := 85) (tgt := 166) dk_D_hear_85 rfl ?_ ?_
          · exact kv_sub [5] rfl (kv_leaf (hx18_0 _ _))
          · refine kv_aload_n (pc := 88) 3 rfl rfl dk_D_hear_88 ?_
            refine kv_iload (pc := 89) 1 rfl dk_D_hear_89 ?_
            refine kv_cV_mZ (pc := 91) (as := [.int v15]) (st := []) ko_D_isLump kc_11 rfl rfl kr_88 kw_1352 (Nat.le_of_ble_eq_true rfl) rfl dk_D_hear_91 (cx_D_isLump (d + 1) v15 c m4 f u) (fun b20 => ?_)
            refine kv_zif_eq (pc := 94) (tgt := 166) dk_D_hear_94 rfl ?_ ?_
            · exact kv_sub [5] rfl (kv_leaf (hx18_0 _ _))
            · refine kv_aload_n (pc := 97) 3 rfl rfl dk_D_hear_97 ?_
              refine kv_iload (pc := 98) 0 rfl dk_D_hear_98 ?_
              refine kv_cV_mZ (pc := 100) (as := [.int v17]) (st := []) ko_D_isLump kc_11 rfl rfl kr_88 kw_1352 (Nat.le_of_ble_eq_true rfl) rfl dk_D_hear_100 (cx_D_isLump (d + 1) v17 c m4 f u) (fun b21 => ?_)
              refine kv_zif_eq (pc := 103) (tgt := 166) dk_D_hear_103 rfl ?_ ?_
              · exact kv_sub [5] rfl (kv_leaf (hx18_0 _ _))
              · refine kv_iload (pc := 106) 1 rfl dk_D_hear_106 ?_
                refine kv_iload (pc := 108) 0 rfl dk_D_hear_108 ?_
                refine kv_icmp_eq (pc := 110) (tgt := 166) dk_D_hear_110 rfl ?_ ?_
                · exact kv_sub [5] rfl (kv_leaf (hx18_0 _ _))
                · refine kv_aload_n (pc := 113) 3 rfl rfl dk_D_hear_113 ?_
                  refine kv_getR (pc := 114) kf_D_25 kr_88 rfl kt_88_5 dk_D_hear_114 ?_
                  refine kv_iload (pc := 117) 2 rfl dk_D_hear_117 ?_
                  refine kv_iconst (pc := 119) (v := (3 : Int32)) dk_D_hear_119 kki_3 ?_
                  refine kv_iadd (pc := 120) dk_D_hear_120 ?_
                  refine kv_guard (fun g22 => ?_)
                  refine kv_aldM (pc := 121) kr_94 kn_94 kl_94 g22 rfl dk_D_hear_121 ?_
                  refine kv_i2l (pc := 122) dk_D_hear_122 ?_
                  refine kv_ldc2 (pc := 123) (v := (-99999 : Int64)) kw_1415 dk_D_hear_123 ?_
                  refine kv_ldc2 (pc := 126) (v := (99999 : Int64)) kw_1416 dk_D_hear_126 ?_
                  refine kv_cS_mZ (pc := 129) (as := [.long (m4 94 (v10 + (3 : Int32)).toNatClampNeg).toInt64, .long (-99999 : Int64), .long (99999 : Int64)]) (st := []) ko_D_isIn rfl kw_1320 (Nat.le_of_ble_eq_true rfl) rfl dk_D_hear_129 (cx_D_isIn (d + 2) (m4 94 (v10 + (3 : Int32)).toNatClampNeg).toInt64 (-99999 : Int64) (99999 : Int64) c m4 f u) (fun b23 => ?_)
                  refine kv_zif_eq (pc := 132) (tgt := 166) dk_D_hear_132 rfl ?_ ?_
                  · exact kv_sub [5] rfl (kv_leaf (hx18_0 _ _))
                  · refine kv_aload_n (pc := 135) 3 rfl rfl dk_D_hear_135 ?_
                    refine kv_getR (pc := 136) kf_D_25 kr_88 rfl kt_88_5 dk_D_hear_136 ?_
                    refine kv_iload (pc := 139) 2 rfl dk_D_hear_139 ?_
                    refine kv_iconst (pc := 141) (v := (4 : Int32)) dk_D_hear_141 kki_4 ?_
                    refine kv_iadd (pc := 142) dk_D_hear_142 ?_
                    refine kv_guard (fun g24 => ?_)
                    refine kv_aldM (pc := 143) kr_94 kn_94 kl_94 g24 rfl dk_D_hear_143 ?_
                    refine kv_i2l (pc := 144) dk_D_hear_144 ?_
                    refine kv_lconst (pc := 145) (v := (0 : Int64)) dk_D_hear_145 kkl_0 ?_
                    refine kv_ldc2 (pc := 146) (v := (99 : Int64)) kw_1346 dk_D_hear_146 ?_
                    refine kv_cS_mZ (pc := 149) (as := [.long (m4 94 (v10 + (4 : Int32)).toNatClampNeg).toInt64, .long (0 : Int64), .long (99 : Int64)]) (st := []) ko_D_isIn rfl kw_1320 (Nat.le_of_ble_eq_true rfl) rfl dk_D_hear_149 (cx_D_isIn (d + 2) (m4 94 (v10 + (4 : Int32)).toNatClampNeg).toInt64 (0 : Int64) (99 : Int64) c m4 f u) (fun b25 => ?_)
                    refine kv_zif_eq (pc := 152) (tgt := 166) dk_D_hear_152 rfl ?_ ?_
                    · exact kv_sub [5] rfl (kv_leaf (hx18_0 _ _))
                    · refine kv_aload_n (pc := 155) 3 rfl rfl dk_D_hear_155 ?_
                      refine kv_getR (pc := 156) kf_D_9 kr_88 rfl kt_88_0 dk_D_hear_156 ?_
                      refine kv_iconst (pc := 159) (v := (2 : Int32)) dk_D_hear_159 kki_2 ?_
                      refine kv_aldM (pc := 160) kr_89 kn_89 kl_89 kkg_2_444 (j := 2) kkx_2 dk_D_hear_160 ?_
                      refine kv_bipush (pc := 161) (v := (20 : Int32)) dk_D_hear_161 kkb_20 ?_
                      refine kv_icmp_ne (pc := 163) (tgt := 168) dk_D_hear_163 rfl ?_ ?_
                      · refine kv_aload_n (pc := 168) 3 rfl rfl dk_D_hear_168 ?_
                        refine kv_aload_n (pc := 169) 3 rfl rfl dk_D_hear_169 ?_
                        refine kv_getR (pc := 170) kf_D_25 kr_88 rfl kt_88_5 dk_D_hear_170 ?_
                        refine kv_iload (pc := 173) 2 rfl dk_D_hear_173 ?_
                        refine kv_aldM (pc := 175) kr_94 kn_94 kl_94 g18 rfl dk_D_hear_175 ?_
                        refine kv_iload (pc := 176) 1 rfl dk_D_hear_176 ?_
                        refine kv_iload (pc := 178) 0 rfl dk_D_hear_178 ?_
                        refine kv_aload_n (pc := 180) 3 rfl rfl dk_D_hear_180 ?_
                        refine kv_getR (pc := 181) kf_D_25 kr_88 rfl kt_88_5 dk_D_hear_181 ?_
                        refine kv_iload (pc := 184) 2 rfl dk_D_hear_184 ?_
                        refine kv_iconst (pc := 186) (v := (3 : Int32)) dk_D_hear_186 kki_3 ?_
                        refine kv_iadd (pc := 187) dk_D_hear_187 ?_
                        refine kv_aldM (pc := 188) kr_94 kn_94 kl_94 g22 rfl dk_D_hear_188 ?_
                        refine kv_aload_n (pc := 189) 3 rfl rfl dk_D_hear_189 ?_
                        refine kv_getR (pc := 190) kf_D_25 kr_88 rfl kt_88_5 dk_D_hear_190 ?_
                        refine kv_iload (pc := 193) 2 rfl dk_D_hear_193 ?_
                        refine kv_iconst (pc := 195) (v := (4 : Int32)) dk_D_hear_195 kki_4 ?_
                        refine kv_iadd (pc := 196) dk_D_hear_196 ?_
                        refine kv_aldM (pc := 197) kr_94 kn_94 kl_94 g24 rfl dk_D_hear_197 ?_
                        refine kv_cV_mm (pc := 198) (as := [.int (m4 94 v10.toNatClampNeg), .int v15, .int v17, .int (m4 94 (v10 + (3 : Int32)).toNatClampNeg), .int (m4 94 (v10 + (4 : Int32)).toNatClampNeg)]) (st := []) ko_D_tells kc_11 rfl rfl kr_88 kw_1394 (Nat.le_of_ble_eq_true rfl) rfl dk_D_hear_198 (cx_D_tells (d + 2) (m4 94 v10.toNatClampNeg) v15 v17 (m4 94 (v10 + (3 : Int32)).toNatClampNeg) (m4 94 (v10 + (4 : Int32)).toNatClampNeg) c m4 f u) (fun m26 => ?_)
                        refine kv_iinc (pc := 201) (kk := (1 : Int32)) (lv' := [(3, .int (x2 + (1 : Int32))), (7, .int v17), (6, .int v15), (5, .int v10), (0, .ref 88), (1, .int p1), (4, .int x3)]) 5 rfl kki_1 rfl (Nat.le_of_ble_eq_true rfl) dk_D_hear_201 ?_
                        exact kv_sub [4, 5, 0, 6] rfl (hj204 (x2 + (1 : Int32)) m26)
                      · exact kv_sub [5] rfl (kv_leaf (hx18_0 _ _))
        · refine kv_goto (pc := 50) (tgt := 204) dk_D_hear_50 rfl ?_
          exact kv_sub [1, 2, 3, 4] rfl (hj204 x2 m4)
  · refine kv_iload_n (pc := 11) 0 rfl rfl dk_D_hear_11 ?_
    exact kv_iret (pc := 12) (fun h => h) rfl dk_D_hear_12
