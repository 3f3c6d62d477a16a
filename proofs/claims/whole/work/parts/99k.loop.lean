/-! ===== the law: out, element, toss, and the loop; printed by wip/gen/lawloop.py ===== -/
theorem kw_662 : (Jvm.Cond.methodLink "KeptLumpLaw" (65 : Nat) ({ cls := "KeptLump", name := "out", desc := "(IZ)I" } : Jvm.MethodName)) ∈ kv_gw := List.mem_filter.mpr ⟨kv_tb3 (List.mem_of_getElem? (i := 114) (by decide +kernel)), by decide +kernel⟩
theorem kw_1439 : (Jvm.Cond.methodLink "KeptLumpLaw" (69 : Nat) ({ cls := "KeptLumpModel", name := "out", desc := "(IZ)I" } : Jvm.MethodName)) ∈ kv_gw := List.mem_filter.mpr ⟨kv_tb6 (List.mem_of_getElem? (i := 171) (by decide +kernel)), by decide +kernel⟩
theorem kw_1697 : (Jvm.Cond.methodLink "KeptLumpLaw" (169 : Nat) ({ cls := "KeptLumpModel", name := "element", desc := "(II)J" } : Jvm.MethodName)) ∈ kv_gw := List.mem_filter.mpr ⟨kv_tb7 (List.mem_of_getElem? (i := 189) (by decide +kernel)), by decide +kernel⟩
theorem kw_1321 : (Jvm.Cond.methodLink "KeptLumpLaw" (170 : Nat) ({ cls := "KeptLumpModel", name := "thrown", desc := "()I" } : Jvm.MethodName)) ∈ kv_gw := List.mem_filter.mpr ⟨kv_tb6 (List.mem_of_getElem? (i := 53) (by decide +kernel)), by decide +kernel⟩
theorem kw_1713 : (Jvm.Cond.methodLink "KeptLumpLaw" (184 : Nat) ({ cls := "KeptLumpModel", name := "toss", desc := "(I)I" } : Jvm.MethodName)) ∈ kv_gw := List.mem_filter.mpr ⟨kv_tb7 (List.mem_of_getElem? (i := 205) (by decide +kernel)), by decide +kernel⟩
theorem kw_663 : (Jvm.Cond.instanceMethod ({ cls := "KeptLump", name := "out", desc := "(IZ)I" } : Jvm.MethodName)) ∈ kv_gw := List.mem_filter.mpr ⟨kv_tb3 (List.mem_of_getElem? (i := 115) (by decide +kernel)), by decide +kernel⟩
theorem kw_664 : (Jvm.Cond.selects "KeptLump" ({ cls := "KeptLump", name := "out", desc := "(IZ)I" } : Jvm.MethodName) ({ cls := "KeptLump", name := "out", desc := "(IZ)I" } : Jvm.MethodName)) ∈ kv_gw := List.mem_filter.mpr ⟨kv_tb3 (List.mem_of_getElem? (i := 116) (by decide +kernel)), by decide +kernel⟩
theorem kw_665 : (Jvm.Cond.code ({ cls := "KeptLump", name := "out", desc := "(IZ)I" } : Jvm.MethodName) prog_1_method_12_code (5 : Nat) (Option.some Jvm.ClassFile.FieldType.int)) ∈ kv_gw := List.mem_filter.mpr ⟨kv_tb3 (List.mem_of_getElem? (i := 117) (by decide +kernel)), by decide +kernel⟩
theorem ko_K_out : kv_okV kM_K_out 2 := ⟨kw_663, kw_664, kw_69, kw_665, ⟨by decide, by decide⟩, by decide +kernel, by decide⟩
theorem kw_1440 : (Jvm.Cond.instanceMethod ({ cls := "KeptLumpModel", name := "out", desc := "(IZ)I" } : Jvm.MethodName)) ∈ kv_gw := List.mem_filter.mpr ⟨kv_tb6 (List.mem_of_getElem? (i := 172) (by decide +kernel)), by decide +kernel⟩
theorem kw_1441 : (Jvm.Cond.selects "KeptLumpModel" ({ cls := "KeptLumpModel", name := "out", desc := "(IZ)I" } : Jvm.MethodName) ({ cls := "KeptLumpModel", name := "out", desc := "(IZ)I" } : Jvm.MethodName)) ∈ kv_gw := List.mem_filter.mpr ⟨kv_tb6 (List.mem_of_getElem? (i := 173) (by decide +kernel)), by decide +kernel⟩
theorem kw_1442 : (Jvm.Cond.code ({ cls := "KeptLumpModel", name := "out", desc := "(IZ)I" } : Jvm.MethodName) prog_13_method_27_code (4 : Nat) (Option.some Jvm.ClassFile.FieldType.int)) ∈ kv_gw := List.mem_filter.mpr ⟨kv_tb6 (List.mem_of_getElem? (i := 174) (by decide +kernel)), by decide +kernel⟩
theorem ko_D_out : kv_okV kM_D_out 2 := ⟨kw_1440, kw_1441, kw_81, kw_1442, ⟨by decide, by decide⟩, by decide +kernel, by decide⟩
theorem kw_1698 : (Jvm.Cond.instanceMethod ({ cls := "KeptLumpModel", name := "element", desc := "(II)J" } : Jvm.MethodName)) ∈ kv_gw := List.mem_filter.mpr ⟨kv_tb7 (List.mem_of_getElem? (i := 190) (by decide +kernel)), by decide +kernel⟩
theorem kw_1699 : (Jvm.Cond.selects "KeptLumpModel" ({ cls := "KeptLumpModel", name := "element", desc := "(II)J" } : Jvm.MethodName) ({ cls := "KeptLumpModel", name := "element", desc := "(II)J" } : Jvm.MethodName)) ∈ kv_gw := List.mem_filter.mpr ⟨kv_tb7 (List.mem_of_getElem? (i := 191) (by decide +kernel)), by decide +kernel⟩
theorem kw_1700 : (Jvm.Cond.code ({ cls := "KeptLumpModel", name := "element", desc := "(II)J" } : Jvm.MethodName) prog_13_method_90_code (3 : Nat) (Option.some Jvm.ClassFile.FieldType.long)) ∈ kv_gw := List.mem_filter.mpr ⟨kv_tb7 (List.mem_of_getElem? (i := 192) (by decide +kernel)), by decide +kernel⟩
theorem ko_D_element : kv_okV kM_D_element 2 := ⟨kw_1698, kw_1699, kw_81, kw_1700, ⟨by decide, by decide⟩, by decide +kernel, by decide⟩
theorem kw_1322 : (Jvm.Cond.instanceMethod ({ cls := "KeptLumpModel", name := "thrown", desc := "()I" } : Jvm.MethodName)) ∈ kv_gw := List.mem_filter.mpr ⟨kv_tb6 (List.mem_of_getElem? (i := 54) (by decide +kernel)), by decide +kernel⟩
theorem kw_1323 : (Jvm.Cond.selects "KeptLumpModel" ({ cls := "KeptLumpModel", name := "thrown", desc := "()I" } : Jvm.MethodName) ({ cls := "KeptLumpModel", name := "thrown", desc := "()I" } : Jvm.MethodName)) ∈ kv_gw := List.mem_filter.mpr ⟨kv_tb6 (List.mem_of_getElem? (i := 55) (by decide +kernel)), by decide +kernel⟩
theorem kw_1324 : (Jvm.Cond.code ({ cls := "KeptLumpModel", name := "thrown", desc := "()I" } : Jvm.MethodName) prog_13_method_2_code (1 : Nat) (Option.some Jvm.ClassFile.FieldType.int)) ∈ kv_gw := List.mem_filter.mpr ⟨kv_tb6 (List.mem_of_getElem? (i := 56) (by decide +kernel)), by decide +kernel⟩
theorem ko_D_thrown : kv_okV kM_D_thrown 0 := ⟨kw_1322, kw_1323, kw_81, kw_1324, ⟨by decide, by decide⟩, by decide +kernel, by decide⟩
theorem kw_1714 : (Jvm.Cond.instanceMethod ({ cls := "KeptLumpModel", name := "toss", desc := "(I)I" } : Jvm.MethodName)) ∈ kv_gw := List.mem_filter.mpr ⟨kv_tb7 (List.mem_of_getElem? (i := 206) (by decide +kernel)), by decide +kernel⟩
theorem kw_1715 : (Jvm.Cond.selects "KeptLumpModel" ({ cls := "KeptLumpModel", name := "toss", desc := "(I)I" } : Jvm.MethodName) ({ cls := "KeptLumpModel", name := "toss", desc := "(I)I" } : Jvm.MethodName)) ∈ kv_gw := List.mem_filter.mpr ⟨kv_tb7 (List.mem_of_getElem? (i := 207) (by decide +kernel)), by decide +kernel⟩
theorem kw_1716 : (Jvm.Cond.code ({ cls := "KeptLumpModel", name := "toss", desc := "(I)I" } : Jvm.MethodName) prog_13_method_94_code (3 : Nat) (Option.some Jvm.ClassFile.FieldType.int)) ∈ kv_gw := List.mem_filter.mpr ⟨kv_tb7 (List.mem_of_getElem? (i := 208) (by decide +kernel)), by decide +kernel⟩
theorem ko_D_toss : kv_okV kM_D_toss 1 := ⟨kw_1714, kw_1715, kw_81, kw_1716, ⟨by decide, by decide⟩, by decide +kernel, by decide⟩
section ELK
variable {L : Nat} {xs : Nat → Int32} {R : Room} {k n j pc : Nat} {lv : List (Nat × Value)} {st : List Value} {w : kv_W} {c m : Nat → Nat → Int32} {f u : Nat → Int64}
theorem el_argsG (a b : Nat) (ha : lv[a]? = some (0, .ref 97)) (hb4 : lv[b]? = some (4, .int (nI (6 * j)))) (hj : 6 * j + 6 ≤ L) (hL : L ≤ 3072) : ∀ (zs : List Nat) (pc : Nat) (st : List Value), el_argsB pc zs = true → kz_B kM_law R k n (el_E L xs) el_Q (pc + 6 * zs.length) lv ((el_vals xs j zs).reverse ++ st) w → kz_B kM_law R k n (el_E L xs) el_Q pc lv st w := by
  intro zs
  induction zs with
  | nil => intro pc st _ kk; exact kk
  | cons z zs ih =>
    intro pc st hb kk
    unfold el_argsB at hb
    simp only [Bool.and_eq_true, decide_eq_true_eq] at hb
    obtain ⟨⟨⟨⟨⟨⟨h1, h2⟩, h3⟩, h4⟩, h5⟩, hz⟩, hr⟩ := hb
    have e0 : (nI (6 * j + z)).toNatClampNeg = 6 * j + z := nI_clamp (by omega)
    refine kz_aload_n a ha rfl h1 (kz_iload b hb4 h2 (kz_iconst h3 (el_small z (by omega)) (kz_iadd h4 ?_)))
    rw [nI_add]
    refine el_ld (vp_in_nI (by omega) (by omega)) h5 ?_
    rw [e0]
    refine ih (pc + 6) (.int (xs (6 * j + z)) :: st) hr ?_
    have e1 : pc + 6 + 6 * zs.length = pc + 6 * (z :: zs).length := by rw [List.length_cons]; omega
    have e2 : (el_vals xs j zs).reverse ++ Value.int (xs (6 * j + z)) :: st = (el_vals xs j (z :: zs)).reverse ++ st := by
      show _ = (Value.int (xs (6 * j + z)) :: el_vals xs j zs).reverse ++ st
      rw [List.reverse_cons, List.append_assoc]
      rfl
    rw [e1, e2]
    exact kk
theorem el_bool {a : Int32} (h1 : decode code pc = .ok (.ifCond .eq 7, 3)) (h2 : decode code (pc + 3) = .ok (.iconst 1, 1)) (h3 : decode code (pc + 4) = .ok (.goto 4, 3)) (h4 : decode code (pc + 7) = .ok (.iconst 0, 1)) (kk : kz_B kM_law R k n (el_E L xs) el_Q (pc + 8) lv (.int (if a = 0 then 0 else 1) :: st) w) : kz_B kM_law R k n (el_E L xs) el_Q pc lv (.int a :: st) w := by
  refine kz_if_eq (tgt := pc + 7) h1 (by omega) (fun q => ?_) (fun q => ?_)
  · rw [if_pos q] at kk
    exact kz_iconst h4 rfl kk
  · rw [if_neg q] at kk
    exact kz_iconst h2 rfl (kz_goto (tgt := pc + 8) h3 (by omega) kk)
theorem el_c10 (hj : 6 * j + 6 ≤ L) (hL : L ≤ 3072) (h : Inv j c m) (next : el_next L xs j) : kz_B kM_law room_1 (97 + j) (6379 + 6 * j) (el_E L xs) el_Q 590 (el_lv j) [] (c, m, f, u) := by
  obtain ⟨r, c2, m2, h1, h2, h3⟩ := op_out h (xs (6 * j + 1)) (if xs (6 * j + 2) = 0 then 0 else 1) (by split <;> simp)
  refine kz_aload_n (pc := 590) (z := 1) 2 rfl rfl (by decide +kernel) (el_args hj hL [1, 2] 591 _ (by decide +kernel) ?_)
  refine el_bool (pc := 603) (a := xs (6 * j + 2)) (st := [.int (xs (6 * j + 1)), .ref 0]) (by decide +kernel) (by decide +kernel) (by decide +kernel) (by decide +kernel) ?_
  refine kz_callV (pc := 611) (as := [.int (xs (6 * j + 1)), .int (if xs (6 * j + 2) = 0 then 0 else 1)]) (st := []) ko_K_out kc_10 rfl rfl (by decide : kv_kd 0 = 10) kw_662 (Nat.le_of_ble_eq_true rfl) (by decide +kernel) (el_room (d := 1) (by omega) (by omega) (by decide) (by decide)) (cx_K_out 0 _ _ c (m, f, u) _ h1) ?_
  refine kz_aload_n (pc := 614) (z := 2) 3 rfl rfl (by decide +kernel) (el_args hj hL [1, 2] 615 _ (by decide +kernel) ?_)
  refine el_bool (pc := 627) (a := xs (6 * j + 2)) (st := [.int (xs (6 * j + 1)), .ref 84, .int r]) (by decide +kernel) (by decide +kernel) (by decide +kernel) (by decide +kernel) ?_
  refine kz_callV (pc := 635) (as := [.int (xs (6 * j + 1)), .int (if xs (6 * j + 2) = 0 then 0 else 1)]) (st := [.int r]) ko_D_out kc_11 rfl rfl (by decide : kv_kd 84 = 11) kw_1439 (Nat.le_of_ble_eq_true rfl) (by decide +kernel) (el_room (d := 2) (by omega) (by omega) (by decide) (by decide)) (cx_D_out 0 _ _ c2 m f u _ h2) ?_
  refine kz_icmp_eq (pc := 638) (off := 1046) (tgt := 1684) (by decide +kernel) (by decide) (fun _ => ?_) (fun q => absurd rfl q)
  exact kz_widen (by omega) (by omega) (next c2 m2 f u h3)
theorem el_c37 (hj : 6 * j + 6 ≤ L) (hL : L ≤ 3072) (h : Inv j c m) (next : el_next L xs j) : kz_B kM_law room_1 (97 + j) (6379 + 6 * j) (el_E L xs) el_Q 1659 (el_lv j) [] (c, m, f, u) := by
  obtain ⟨r, c2, h1, h2, h3⟩ := op_toss h (xs (6 * j + 1)) (m, f, u)
  refine kz_aload_n (pc := 1659) (z := 1) 2 rfl rfl (by decide +kernel) (el_args hj hL [1] 1660 _ (by decide +kernel) ?_)
  refine kz_callVW (nn := 1) (pc := 1666) (as := [.int (xs (6 * j + 1))]) (st := []) (hh := [(12, 22, 25, 394)]) (el_X L xs) kw_1138 kw_1139 kw_69 kw_1140 ⟨by decide, by decide⟩ (by decide +kernel) kc_10 rfl rfl (by decide : kv_kd 0 = 10) kw_1137 (Nat.le_of_ble_eq_true rfl) (by decide +kernel) (el_room (d := 9) (by omega) (by omega) (by decide) (by decide)) h1 ?_
  refine kz_aload_n (pc := 1669) (z := 2) 3 rfl rfl (by decide +kernel) (el_args hj hL [1] 1670 _ (by decide +kernel) ?_)
  refine kz_callV (pc := 1676) (as := [.int (xs (6 * j + 1))]) (st := [.int r]) ko_D_toss kc_11 rfl rfl (by decide : kv_kd 84 = 11) kw_1713 (Nat.le_of_ble_eq_true rfl) (by decide +kernel) (el_room (d := 3) (by omega) (by omega) (by decide) (by decide)) (cx_D_toss 0 _ c2 m f u _ h2) ?_
  refine kz_icmp_eq (pc := 1679) (off := 5) (tgt := 1684) (by decide +kernel) (by decide) (fun _ => ?_) (fun q => absurd rfl q)
  exact kz_widen (by omega) (by omega) (next c2 m f u h3)
theorem el_c34 (hj : 6 * j + 6 ≤ L) (hL : L ≤ 3072) (h : Inv j c m) (next : el_next L xs j) : kz_B kM_law room_1 (97 + j) (6379 + 6 * j) (el_E L xs) el_Q 1494 (el_lv j) [] (c, m, f, u) := by
  obtain ⟨r, u2, v, m2, h1, h2, h3, h4, h5⟩ := op_element h (xs (6 * j + 1)) (xs (6 * j + 2)) f u
  have ht : fx_D_thrown m2 = some (m2 84 9) := rfl
  refine kz_aload_n (pc := 1494) (z := 1) 2 rfl rfl (by decide +kernel) (el_args hj hL [1, 2] 1495 _ (by decide +kernel) ?_)
  refine kz_aload_n (pc := 1507) (z := 3) 4 rfl rfl (by decide +kernel) ?_
  refine kz_callSW (nn := 4) (pc := 1508) (as := [.ref 0, .int (xs (6 * j + 1)), .int (xs (6 * j + 2)), .ref 96]) (st := []) (hh := [(0, 9, 12, 13), (0, 9, 16, 15)]) (el_X L xs) kw_1213 kw_68 kw_1214 ⟨by decide, by decide⟩ (by decide +kernel) rfl kw_1212 (Nat.le_of_ble_eq_true rfl) (by decide +kernel) (el_room (d := 9) (by omega) (by omega) (by decide) (by decide)) h1 ?_
  refine kz_istore (pc := 1511) (i := 5) (lv' := (5, .int r) :: el_lv j) rfl (by decide) (by decide +kernel) ?_
  refine kz_aload_n (pc := 1513) (z := 2) 4 rfl rfl (by decide +kernel) (el_argsG 2 1 rfl rfl hj hL [1, 2] 1514 _ (by decide +kernel) ?_)
  refine kz_callV (pc := 1526) (as := [.int (xs (6 * j + 1)), .int (xs (6 * j + 2))]) (st := []) ko_D_element kc_11 rfl rfl (by decide : kv_kd 84 = 11) kw_1697 (Nat.le_of_ble_eq_true rfl) (by decide +kernel) (el_room (d := 2) (by omega) (by omega) (by decide) (by decide)) (cx_D_element 0 _ _ c m f u2 _ h2) ?_
  refine kz_lstore (pc := 1529) (i := 6) (lv' := (6, .long v) :: (5, .int r) :: el_lv j) rfl (by decide) (by decide +kernel) ?_
  refine kz_aload_n (pc := 1531) (z := 2) 5 rfl rfl (by decide +kernel) ?_
  refine kz_callV (pc := 1532) (as := []) (st := []) ko_D_thrown kc_11 rfl rfl (by decide : kv_kd 84 = 11) kw_1321 (Nat.le_of_ble_eq_true rfl) (by decide +kernel) (el_room (d := 0) (by omega) (by omega) (by decide) (by decide)) (cx_D_thrown 0 c m2 f u2 _ ht) ?_
  refine kz_iload (pc := 1535) 1 rfl (by decide +kernel) ?_
  have fin : kz_B kM_law room_1 (97 + j + 1) (6379 + 6 * j + 6) (el_E L xs) el_Q 1558 ((6, .long v) :: (5, .int r) :: el_lv j) [] (c, m2, f, u2) := by
    refine kz_goto (tgt := 1684) (off := 126) (by decide +kernel) (by decide) ?_
    refine kz_sub (lv' := el_lv j) [2, 3, 4, 5, 6] rfl ?_
    exact kz_widen (by omega) (by omega) (next c m2 f u2 h5)
  refine kz_icmp_eq (pc := 1537) (off := 5) (tgt := 1542) (by decide +kernel) (by decide) (fun _ => ?_) (fun q => absurd h3 q)
  refine kz_iload (pc := 1542) 1 rfl (by decide +kernel) ?_
  refine kz_if_ne (pc := 1544) (off := 14) (tgt := 1558) (by decide +kernel) (by decide) (fun _ => fin) (fun q => ?_)
  refine kz_aload_n (pc := 1547) (z := 3) 6 rfl rfl (by decide +kernel) ?_
  refine kz_iconst (pc := 1548) (z := 0) (v := 0) (by decide +kernel) rfl ?_
  refine kz_ldU (pc := 1549) (by decide +kernel) ?_
  refine kz_lload (pc := 1550) 0 rfl (by decide +kernel) ?_
  exact kz_lcmp_eq (pc := 1552) (off := 5) (tgt := 1558) (by decide +kernel) (by decide +kernel) (by decide) (fun _ => fin) (fun q2 => absurd (h4 q) q2)
theorem el_d40 : decode code 40 = .ok (.tableswitch 1644 0 37 #[168, 217, 266, 303, 340, 365, 402, 427, 488, 513, 550, 603, 616, 677, 750, 775, 788, 825, 886, 911, 924, 949, 986, 1047, 1084, 1121, 1170, 1195, 1256, 1269, 1282, 1307, 1356, 1405, 1454, 1521, 1594, 1619], 168) := by decide +kernel
theorem el_sw (hj : 6 * j + 6 ≤ L) (hL : L ≤ 3072) (h : Inv j c m) (next : el_next L xs j) {x : Int32} : ∀ v : Nat, v < 64 → x = nI v → kz_B kM_law room_1 (97 + j) (6379 + 6 * j) (el_E L xs) el_Q 40 (el_lv j) [.int x] (c, m, f, u)
  | 0, _, ev => by
    rw [ev]
    exact el_tabIn (off := 168) (tgt := 208) el_d40 (by decide +kernel) (by decide +kernel) (by decide +kernel) (by decide) (el_c0 hj hL h next)
  | 1, _, ev => by
    rw [ev]
    exact el_tabIn (off := 217) (tgt := 257) el_d40 (by decide +kernel) (by decide +kernel) (by decide +kernel) (by decide) (el_c1 hj hL h next)
  | 2, _, ev => by
    rw [ev]
    exact el_tabIn (off := 266) (tgt := 306) el_d40 (by decide +kernel) (by decide +kernel) (by decide +kernel) (by decide) (el_c2 hj hL h next)
  | 3, _, ev => by
    rw [ev]
    exact el_tabIn (off := 303) (tgt := 343) el_d40 (by decide +kernel) (by decide +kernel) (by decide +kernel) (by decide) (el_c3 hj hL h next)
  | 4, _, ev => by
    rw [ev]
    exact el_tabIn (off := 340) (tgt := 380) el_d40 (by decide +kernel) (by decide +kernel) (by decide +kernel) (by decide) (el_c4 hj hL h next)
  | 5, _, ev => by
    rw [ev]
    exact el_tabIn (off := 365) (tgt := 405) el_d40 (by decide +kernel) (by decide +kernel) (by decide +kernel) (by decide) (el_c5 hj hL h next)
  | 6, _, ev => by
    rw [ev]
    exact el_tabIn (off := 402) (tgt := 442) el_d40 (by decide +kernel) (by decide +kernel) (by decide +kernel) (by decide) (el_c6 hj hL h next)
  | 7, _, ev => by
    rw [ev]
    exact el_tabIn (off := 427) (tgt := 467) el_d40 (by decide +kernel) (by decide +kernel) (by decide +kernel) (by decide) (el_c7 hj hL h next)
  | 8, _, ev => by
    rw [ev]
    exact el_tabIn (off := 488) (tgt := 528) el_d40 (by decide +kernel) (by decide +kernel) (by decide +kernel) (by decide) (el_c8 hj hL h next)
  | 9, _, ev => by
    rw [ev]
    exact el_tabIn (off := 513) (tgt := 553) el_d40 (by decide +kernel) (by decide +kernel) (by decide +kernel) (by decide) (el_c9 hj hL h next)
  | 10, _, ev => by
    rw [ev]
    exact el_tabIn (off := 550) (tgt := 590) el_d40 (by decide +kernel) (by decide +kernel) (by decide +kernel) (by decide) (el_c10 hj hL h next)
  | 11, _, ev => by
    rw [ev]
    exact el_tabIn (off := 603) (tgt := 643) el_d40 (by decide +kernel) (by decide +kernel) (by decide +kernel) (by decide) (el_c11 hj hL h next)
  | 12, _, ev => by
    rw [ev]
    exact el_tabIn (off := 616) (tgt := 656) el_d40 (by decide +kernel) (by decide +kernel) (by decide +kernel) (by decide) (el_c12 hj hL h next)
  | 13, _, ev => by
    rw [ev]
    exact el_tabIn (off := 677) (tgt := 717) el_d40 (by decide +kernel) (by decide +kernel) (by decide +kernel) (by decide) (el_c13 hj hL h next)
  | 14, _, ev => by
    rw [ev]
    exact el_tabIn (off := 750) (tgt := 790) el_d40 (by decide +kernel) (by decide +kernel) (by decide +kernel) (by decide) (el_c14 hj hL h next)
  | 15, _, ev => by
    rw [ev]
    exact el_tabIn (off := 775) (tgt := 815) el_d40 (by decide +kernel) (by decide +kernel) (by decide +kernel) (by decide) (el_c15 hj hL h next)
  | 16, _, ev => by
    rw [ev]
    exact el_tabIn (off := 788) (tgt := 828) el_d40 (by decide +kernel) (by decide +kernel) (by decide +kernel) (by decide) (el_c16 hj hL h next)
  | 17, _, ev => by
    rw [ev]
    exact el_tabIn (off := 825) (tgt := 865) el_d40 (by decide +kernel) (by decide +kernel) (by decide +kernel) (by decide) (el_c17 hj hL h next)
  | 18, _, ev => by
    rw [ev]
    exact el_tabIn (off := 886) (tgt := 926) el_d40 (by decide +kernel) (by decide +kernel) (by decide +kernel) (by decide) (el_c18 hj hL h next)
  | 19, _, ev => by
    rw [ev]
    exact el_tabIn (off := 911) (tgt := 951) el_d40 (by decide +kernel) (by decide +kernel) (by decide +kernel) (by decide) (el_c19 hj hL h next)
  | 20, _, ev => by
    rw [ev]
    exact el_tabIn (off := 924) (tgt := 964) el_d40 (by decide +kernel) (by decide +kernel) (by decide +kernel) (by decide) (el_c20 hj hL h next)
  | 21, _, ev => by
    rw [ev]
    exact el_tabIn (off := 949) (tgt := 989) el_d40 (by decide +kernel) (by decide +kernel) (by decide +kernel) (by decide) (el_c21 hj hL h next)
  | 22, _, ev => by
    rw [ev]
    exact el_tabIn (off := 986) (tgt := 1026) el_d40 (by decide +kernel) (by decide +kernel) (by decide +kernel) (by decide) (el_c22 hj hL h next)
  | 23, _, ev => by
    rw [ev]
    exact el_tabIn (off := 1047) (tgt := 1087) el_d40 (by decide +kernel) (by decide +kernel) (by decide +kernel) (by decide) (el_c23 hj hL h next)
  | 24, _, ev => by
    rw [ev]
    exact el_tabIn (off := 1084) (tgt := 1124) el_d40 (by decide +kernel) (by decide +kernel) (by decide +kernel) (by decide) (el_c24 hj hL h next)
  | 25, _, ev => by
    rw [ev]
    exact el_tabIn (off := 1121) (tgt := 1161) el_d40 (by decide +kernel) (by decide +kernel) (by decide +kernel) (by decide) (el_c25 hj hL h next)
  | 26, _, ev => by
    rw [ev]
    exact el_tabIn (off := 1170) (tgt := 1210) el_d40 (by decide +kernel) (by decide +kernel) (by decide +kernel) (by decide) (el_c26 hj hL h next)
  | 27, _, ev => by
    rw [ev]
    exact el_tabIn (off := 1195) (tgt := 1235) el_d40 (by decide +kernel) (by decide +kernel) (by decide +kernel) (by decide) (el_c27 hj hL h next)
  | 28, _, ev => by
    rw [ev]
    exact el_tabIn (off := 1256) (tgt := 1296) el_d40 (by decide +kernel) (by decide +kernel) (by decide +kernel) (by decide) (el_c28 hj hL h next)
  | 29, _, ev => by
    rw [ev]
    exact el_tabIn (off := 1269) (tgt := 1309) el_d40 (by decide +kernel) (by decide +kernel) (by decide +kernel) (by decide) (el_c29 hj hL h next)
  | 30, _, ev => by
    rw [ev]
    exact el_tabIn (off := 1282) (tgt := 1322) el_d40 (by decide +kernel) (by decide +kernel) (by decide +kernel) (by decide) (el_c30 hj hL h next)
  | 31, _, ev => by
    rw [ev]
    exact el_tabIn (off := 1307) (tgt := 1347) el_d40 (by decide +kernel) (by decide +kernel) (by decide +kernel) (by decide) (el_c31 hj hL h next)
  | 32, _, ev => by
    rw [ev]
    exact el_tabIn (off := 1356) (tgt := 1396) el_d40 (by decide +kernel) (by decide +kernel) (by decide +kernel) (by decide) (el_c32 hj hL h next)
  | 33, _, ev => by
    rw [ev]
    exact el_tabIn (off := 1405) (tgt := 1445) el_d40 (by decide +kernel) (by decide +kernel) (by decide +kernel) (by decide) (el_c33 hj hL h next)
  | 34, _, ev => by
    rw [ev]
    exact el_tabIn (off := 1454) (tgt := 1494) el_d40 (by decide +kernel) (by decide +kernel) (by decide +kernel) (by decide) (el_c34 hj hL h next)
  | 35, _, ev => by
    rw [ev]
    exact el_tabIn (off := 1521) (tgt := 1561) el_d40 (by decide +kernel) (by decide +kernel) (by decide +kernel) (by decide) (el_c35 hj hL h next)
  | 36, _, ev => by
    rw [ev]
    exact el_tabIn (off := 1594) (tgt := 1634) el_d40 (by decide +kernel) (by decide +kernel) (by decide +kernel) (by decide) (el_c36 hj hL h next)
  | 37, _, ev => by
    rw [ev]
    exact el_tabIn (off := 1619) (tgt := 1659) el_d40 (by decide +kernel) (by decide +kernel) (by decide +kernel) (by decide) (el_c37 hj hL h next)
  | v + 38, hv, ev => by
    rw [ev]
    refine el_tabOut (tgt := 1684) el_d40 (Or.inr ?_) (by decide) (kz_widen (by omega) (by omega) (next c m f u (fr_same h)))
    rw [nI_toInt (by omega)]
    omega
theorem el_loop (hL : L ≤ 3072) : ∀ (N j : Nat) (c m : Nat → Nat → Int32) (f u : Nat → Int64), j ≤ 512 → L ≤ 6 * j + 6 * N → Inv j c m → kz_B kM_law room_1 (97 + j) (6379 + 6 * j) (el_E L xs) el_Q 23 (el_lv j) [] (c, m, f, u) := by
  intro N
  induction N with
  | zero =>
    intro j c m f u hj1 hN h
    have e6 : (nI L - 6).toInt = (L : Int) - 6 := by
      rw [kp_sub] <;> rw [nI_toInt (by omega), show (6 : Int32).toInt = 6 from rfl] <;> omega
    refine kz_iload (pc := 23) 0 rfl (by decide +kernel) (kz_aload_n (pc := 25) (z := 0) 1 rfl rfl (by decide +kernel) (el_len (by decide +kernel) (kz_bipush (pc := 27) (z := 6) (v := 6) (by decide +kernel) rfl (kz_isub (pc := 29) (by decide +kernel) ?_))))
    refine kz_icmp_gt (pc := 30) (off := 1660) (tgt := 1690) (by decide +kernel) (by decide) (fun _ => ?_) (fun q => absurd ?_ q)
    · exact kz_iconst (pc := 1690) (z := 1) (v := 1) (by decide +kernel) rfl (el_ret (by omega) (by omega) (by decide +kernel))
    · rw [Int32.lt_iff_toInt_lt, e6, nI_toInt (by omega)]
      omega
  | succ N ih =>
    intro j c m f u hj1 hN h
    have e6 : (nI L - 6).toInt = (L : Int) - 6 := by
      rw [kp_sub] <;> rw [nI_toInt (by omega), show (6 : Int32).toInt = 6 from rfl] <;> omega
    refine kz_iload (pc := 23) 0 rfl (by decide +kernel) (kz_aload_n (pc := 25) (z := 0) 1 rfl rfl (by decide +kernel) (el_len (by decide +kernel) (kz_bipush (pc := 27) (z := 6) (v := 6) (by decide +kernel) rfl (kz_isub (pc := 29) (by decide +kernel) ?_))))
    refine kz_icmp_gt (pc := 30) (off := 1660) (tgt := 1690) (by decide +kernel) (by decide) (fun _ => ?_) (fun q => ?_)
    · exact kz_iconst (pc := 1690) (z := 1) (v := 1) (by decide +kernel) rfl (el_ret (by omega) (by omega) (by decide +kernel))
    · rw [Int32.lt_iff_toInt_lt, e6, nI_toInt (by omega)] at q
      have hj : 6 * j + 6 ≤ L := by omega
      have e0 : (nI (6 * j)).toNatClampNeg = 6 * j := nI_clamp (by omega)
      refine kz_aload_n (pc := 33) (z := 0) 1 rfl rfl (by decide +kernel) (kz_iload (pc := 34) 0 rfl (by decide +kernel) (el_ld (vp_in_nI (by omega) (by omega)) (by decide +kernel) (kz_bipush (pc := 37) (z := 63) (v := 63) (by decide +kernel) rfl (kz_iand (pc := 39) (by decide +kernel) ?_))))
      obtain ⟨v, hv, ev⟩ := el_and63 (xs (nI (6 * j)).toNatClampNeg)
      refine el_sw hj hL h ?_ v hv ev
      intro c2 m2 f2 u2 h2
      refine kz_iinc (pc := 1684) (i := 4) (z := 6) (z2 := 6) (lv' := el_lv (j + 1)) 0 rfl rfl ?_ (by decide) (by decide +kernel) ?_
      · show (4, Value.int (nI (6 * j) + nI 6)) :: _ = _
        rw [nI_add]
        rfl
      · exact kz_goto (pc := 1687) (off := -1664) (tgt := 23) (by decide +kernel) (by decide) (ih (j + 1) c2 m2 f2 u2 (by omega) (by omega) h2)
end ELK
