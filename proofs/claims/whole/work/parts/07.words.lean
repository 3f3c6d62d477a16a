/-! ===== words and names that the methods use ===== -/
theorem kv_7a : ∀ r, r < kv_N → kv_kd r = 7 → r < kv_NC ∧ kv_kd (kv_tg r 0) = 12 ∧ kv_tg r 0 < kv_NC ∧ kv_ln (kv_tg r 0) = 100 := by decide +kernel
theorem kv_7nc {r : Nat} (h : kv_kd r = 7) : r < kv_NC := (kv_7a r (kv_kd_lt h (by decide)) h).1
theorem kv_7e {r : Nat} (h : kv_kd r = 7) : kv_kd (kv_tg r 0) = 12 := (kv_7a r (kv_kd_lt h (by decide)) h).2.1
theorem kv_7enc {r : Nat} (h : kv_kd r = 7) : kv_tg r 0 < kv_NC := (kv_7a r (kv_kd_lt h (by decide)) h).2.2.1
theorem kv_7eln {r : Nat} (h : kv_kd r = 7) : kv_ln (kv_tg r 0) = 100 := (kv_7a r (kv_kd_lt h (by decide)) h).2.2.2
theorem kv_in_lt {i : Int32} {n : Nat} (h : kv_in i n = true) : i.toNatClampNeg < n := by
  have := kv_in_vp h
  exact Nat.not_le.mp fun q => this (Or.inr q)
theorem kv_sha : ∀ k, k < 8 → kv_kd (kv_tg 51 k) = 7 := by decide +kernel
theorem kv_sh {i : Int32} (h : kv_in i 8 = true) : kv_kd (kv_tg 51 i.toNatClampNeg) = 7 := kv_sha _ (kv_in_lt h)
theorem kv_ne {a : Int32} (v : Int32) {k : Int} (hv : v.toInt = k) (h : a ≠ v) : a.toInt ≠ k := by
  intro q
  apply h
  rw [← Int32.toInt_inj, q, hv]
theorem kv_lkd {a : Int32} (h1 : a.toInt ≠ 40) (h2 : a.toInt ≠ 80) (h3 : a.toInt ≠ 109) (h4 : a.toInt ≠ 111) : Op.lookupswitch.offset [(40, 44), (80, 61), (109, 82), (111, 89)] 98 a.toInt = 98 := by
  rw [Op.lookupswitch.offset_cons, if_neg (fun q => h1 q.symm), Op.lookupswitch.offset_cons, if_neg (fun q => h2 q.symm), Op.lookupswitch.offset_cons, if_neg (fun q => h3 q.symm), Op.lookupswitch.offset_cons, if_neg (fun q => h4 q.symm)]
  rfl
theorem kv_lays {C : String} {T : u_T} {N : Nat} (h : ∀ k, k < N → u_lay C T k ∈ kv_gw) : ∀ w ∈ u_ws C T N, w ∈ kv_gw := by
  intro w hw
  obtain ⟨k, hk, rfl⟩ := List.mem_map.mp hw
  exact h k (List.mem_range.mp hk)

theorem kv_tb0 {w : Cond} (h : w ∈ k2_sels lw_privs) : w ∈ lw_tbl := List.mem_append_left _ h
theorem kv_tb1 {w : Cond} (h : w ∈ tables_1_1) : w ∈ lw_tbl := List.mem_append_right _ (show w ∈ tables_1 from List.mem_append_left _ h)
theorem kv_tb2 {w : Cond} (h : w ∈ tables_1_2) : w ∈ lw_tbl := List.mem_append_right _ (show w ∈ tables_1 from List.mem_append_right _ (List.mem_append_left _ h))
theorem kv_tb3 {w : Cond} (h : w ∈ tables_1_3) : w ∈ lw_tbl := List.mem_append_right _ (show w ∈ tables_1 from List.mem_append_right _ (List.mem_append_right _ (List.mem_append_left _ h)))
theorem kv_tb4 {w : Cond} (h : w ∈ tables_1_4) : w ∈ lw_tbl := List.mem_append_right _ (show w ∈ tables_1 from List.mem_append_right _ (List.mem_append_right _ (List.mem_append_right _ (List.mem_append_left _ h))))
theorem kv_tb5 {w : Cond} (h : w ∈ tables_1_5) : w ∈ lw_tbl := List.mem_append_right _ (show w ∈ tables_1 from List.mem_append_right _ (List.mem_append_right _ (List.mem_append_right _ (List.mem_append_right _ (List.mem_append_left _ h)))))
theorem kv_tb6 {w : Cond} (h : w ∈ tables_1_6) : w ∈ lw_tbl := List.mem_append_right _ (show w ∈ tables_1 from List.mem_append_right _ (List.mem_append_right _ (List.mem_append_right _ (List.mem_append_right _ (List.mem_append_right _ (List.mem_append_left _ h))))))
theorem kv_tb7 {w : Cond} (h : w ∈ tables_1_7) : w ∈ lw_tbl := List.mem_append_right _ (show w ∈ tables_1 from List.mem_append_right _ (List.mem_append_right _ (List.mem_append_right _ (List.mem_append_right _ (List.mem_append_right _ (List.mem_append_right _ (h)))))))
theorem kw_0 : (Jvm.Cond.selects "KeptLump" ({ cls := "KeptLump", name := "rowRefusal", desc := "(I)I" } : Jvm.MethodName) ({ cls := "KeptLump", name := "rowRefusal", desc := "(I)I" } : Jvm.MethodName)) ∈ kv_gw := List.mem_filter.mpr ⟨kv_tb0 (List.mem_of_getElem? (i := 0) (by decide +kernel)), by decide +kernel⟩
theorem kw_1 : (Jvm.Cond.selects "KeptLump" ({ cls := "KeptLump", name := "isTold", desc := "(LKeptLump$Shelf;I)Z" } : Jvm.MethodName) ({ cls := "KeptLump", name := "isTold", desc := "(LKeptLump$Shelf;I)Z" } : Jvm.MethodName)) ∈ kv_gw := List.mem_filter.mpr ⟨kv_tb0 (List.mem_of_getElem? (i := 1) (by decide +kernel)), by decide +kernel⟩
theorem kw_2 : (Jvm.Cond.selects "KeptLump" ({ cls := "KeptLump", name := "hearOne", desc := "([II)V" } : Jvm.MethodName) ({ cls := "KeptLump", name := "hearOne", desc := "([II)V" } : Jvm.MethodName)) ∈ kv_gw := List.mem_filter.mpr ⟨kv_tb0 (List.mem_of_getElem? (i := 2) (by decide +kernel)), by decide +kernel⟩
theorem kw_3 : (Jvm.Cond.selects "KeptLump" ({ cls := "KeptLump", name := "boundByYear", desc := "(II)V" } : Jvm.MethodName) ({ cls := "KeptLump", name := "boundByYear", desc := "(II)V" } : Jvm.MethodName)) ∈ kv_gw := List.mem_filter.mpr ⟨kv_tb0 (List.mem_of_getElem? (i := 3) (by decide +kernel)), by decide +kernel⟩
theorem kw_4 : (Jvm.Cond.selects "KeptLump" ({ cls := "KeptLump", name := "bounded", desc := "(III)I" } : Jvm.MethodName) ({ cls := "KeptLump", name := "bounded", desc := "(III)I" } : Jvm.MethodName)) ∈ kv_gw := List.mem_filter.mpr ⟨kv_tb0 (List.mem_of_getElem? (i := 4) (by decide +kernel)), by decide +kernel⟩
theorem kw_5 : (Jvm.Cond.selects "KeptLump" ({ cls := "KeptLump", name := "longNetHolds", desc := "()Z" } : Jvm.MethodName) ({ cls := "KeptLump", name := "longNetHolds", desc := "()Z" } : Jvm.MethodName)) ∈ kv_gw := List.mem_filter.mpr ⟨kv_tb0 (List.mem_of_getElem? (i := 5) (by decide +kernel)), by decide +kernel⟩
theorem kw_6 : (Jvm.Cond.selects "KeptLump" ({ cls := "KeptLump", name := "longNetHoldsWithout", desc := "(I)Z" } : Jvm.MethodName) ({ cls := "KeptLump", name := "longNetHoldsWithout", desc := "(I)Z" } : Jvm.MethodName)) ∈ kv_gw := List.mem_filter.mpr ⟨kv_tb0 (List.mem_of_getElem? (i := 6) (by decide +kernel)), by decide +kernel⟩
theorem kw_7 : (Jvm.Cond.selects "KeptLump" ({ cls := "KeptLump", name := "isOrderedPair", desc := "(I)Z" } : Jvm.MethodName) ({ cls := "KeptLump", name := "isOrderedPair", desc := "(I)Z" } : Jvm.MethodName)) ∈ kv_gw := List.mem_filter.mpr ⟨kv_tb0 (List.mem_of_getElem? (i := 7) (by decide +kernel)), by decide +kernel⟩
theorem kw_8 : (Jvm.Cond.selects "KeptLump" ({ cls := "KeptLump", name := "longNetHoldsSwapped", desc := "(III)Z" } : Jvm.MethodName) ({ cls := "KeptLump", name := "longNetHoldsSwapped", desc := "(III)Z" } : Jvm.MethodName)) ∈ kv_gw := List.mem_filter.mpr ⟨kv_tb0 (List.mem_of_getElem? (i := 8) (by decide +kernel)), by decide +kernel⟩
theorem kw_9 : (Jvm.Cond.selects "KeptLump" ({ cls := "KeptLump", name := "isStorySet", desc := "(I)Z" } : Jvm.MethodName) ({ cls := "KeptLump", name := "isStorySet", desc := "(I)Z" } : Jvm.MethodName)) ∈ kv_gw := List.mem_filter.mpr ⟨kv_tb0 (List.mem_of_getElem? (i := 9) (by decide +kernel)), by decide +kernel⟩
theorem kw_10 : (Jvm.Cond.selects "KeptLump" ({ cls := "KeptLump", name := "tellStory", desc := "(III)V" } : Jvm.MethodName) ({ cls := "KeptLump", name := "tellStory", desc := "(III)V" } : Jvm.MethodName)) ∈ kv_gw := List.mem_filter.mpr ⟨kv_tb0 (List.mem_of_getElem? (i := 10) (by decide +kernel)), by decide +kernel⟩
theorem kw_11 : (Jvm.Cond.selects "KeptLump" ({ cls := "KeptLump", name := "bytesRefusal", desc := "(I)I" } : Jvm.MethodName) ({ cls := "KeptLump", name := "bytesRefusal", desc := "(I)I" } : Jvm.MethodName)) ∈ kv_gw := List.mem_filter.mpr ⟨kv_tb0 (List.mem_of_getElem? (i := 11) (by decide +kernel)), by decide +kernel⟩
theorem kw_12 : (Jvm.Cond.selects "KeptLump$Reader" ({ cls := "KeptLump$Reader", name := "sum", desc := "(I)I" } : Jvm.MethodName) ({ cls := "KeptLump$Reader", name := "sum", desc := "(I)I" } : Jvm.MethodName)) ∈ kv_gw := List.mem_filter.mpr ⟨kv_tb0 (List.mem_of_getElem? (i := 12) (by decide +kernel)), by decide +kernel⟩
theorem kw_13 : (Jvm.Cond.selects "KeptLump$Reader" ({ cls := "KeptLump$Reader", name := "product", desc := "(I)I" } : Jvm.MethodName) ({ cls := "KeptLump$Reader", name := "product", desc := "(I)I" } : Jvm.MethodName)) ∈ kv_gw := List.mem_filter.mpr ⟨kv_tb0 (List.mem_of_getElem? (i := 13) (by decide +kernel)), by decide +kernel⟩
theorem kw_14 : (Jvm.Cond.selects "KeptLump$Reader" ({ cls := "KeptLump$Reader", name := "atom", desc := "(I)I" } : Jvm.MethodName) ({ cls := "KeptLump$Reader", name := "atom", desc := "(I)I" } : Jvm.MethodName)) ∈ kv_gw := List.mem_filter.mpr ⟨kv_tb0 (List.mem_of_getElem? (i := 14) (by decide +kernel)), by decide +kernel⟩
theorem kw_15 : (Jvm.Cond.selects "KeptLump" ({ cls := "KeptLump", name := "chainsRefusal", desc := "(II)I" } : Jvm.MethodName) ({ cls := "KeptLump", name := "chainsRefusal", desc := "(II)I" } : Jvm.MethodName)) ∈ kv_gw := List.mem_filter.mpr ⟨kv_tb0 (List.mem_of_getElem? (i := 15) (by decide +kernel)), by decide +kernel⟩
theorem kw_16 : (Jvm.Cond.selects "KeptLump" ({ cls := "KeptLump", name := "arePairs", desc := "(LKeptLump$Shelf;)Z" } : Jvm.MethodName) ({ cls := "KeptLump", name := "arePairs", desc := "(LKeptLump$Shelf;)Z" } : Jvm.MethodName)) ∈ kv_gw := List.mem_filter.mpr ⟨kv_tb0 (List.mem_of_getElem? (i := 16) (by decide +kernel)), by decide +kernel⟩
theorem kw_17 : (Jvm.Cond.selects "KeptLump" ({ cls := "KeptLump", name := "lumpRefusal", desc := "(I)I" } : Jvm.MethodName) ({ cls := "KeptLump", name := "lumpRefusal", desc := "(I)I" } : Jvm.MethodName)) ∈ kv_gw := List.mem_filter.mpr ⟨kv_tb0 (List.mem_of_getElem? (i := 17) (by decide +kernel)), by decide +kernel⟩
theorem kw_20 : (Jvm.Cond.selects "KeptLumpModel" ({ cls := "KeptLumpModel", name := "primeOf", desc := "()I" } : Jvm.MethodName) ({ cls := "KeptLumpModel", name := "primeOf", desc := "()I" } : Jvm.MethodName)) ∈ kv_gw := List.mem_filter.mpr ⟨kv_tb0 (List.mem_of_getElem? (i := 20) (by decide +kernel)), by decide +kernel⟩
theorem kw_21 : (Jvm.Cond.selects "KeptLumpModel" ({ cls := "KeptLumpModel", name := "get", desc := "(II)I" } : Jvm.MethodName) ({ cls := "KeptLumpModel", name := "get", desc := "(II)I" } : Jvm.MethodName)) ∈ kv_gw := List.mem_filter.mpr ⟨kv_tb0 (List.mem_of_getElem? (i := 21) (by decide +kernel)), by decide +kernel⟩
theorem kw_22 : (Jvm.Cond.selects "KeptLumpModel" ({ cls := "KeptLumpModel", name := "becomes", desc := "(II)I" } : Jvm.MethodName) ({ cls := "KeptLumpModel", name := "becomes", desc := "(II)I" } : Jvm.MethodName)) ∈ kv_gw := List.mem_filter.mpr ⟨kv_tb0 (List.mem_of_getElem? (i := 22) (by decide +kernel)), by decide +kernel⟩
theorem kw_23 : (Jvm.Cond.selects "KeptLumpModel" ({ cls := "KeptLumpModel", name := "isLump", desc := "(I)Z" } : Jvm.MethodName) ({ cls := "KeptLumpModel", name := "isLump", desc := "(I)Z" } : Jvm.MethodName)) ∈ kv_gw := List.mem_filter.mpr ⟨kv_tb0 (List.mem_of_getElem? (i := 23) (by decide +kernel)), by decide +kernel⟩
theorem kw_24 : (Jvm.Cond.selects "KeptLumpModel" ({ cls := "KeptLumpModel", name := "growth", desc := "(II)I" } : Jvm.MethodName) ({ cls := "KeptLumpModel", name := "growth", desc := "(II)I" } : Jvm.MethodName)) ∈ kv_gw := List.mem_filter.mpr ⟨kv_tb0 (List.mem_of_getElem? (i := 24) (by decide +kernel)), by decide +kernel⟩
theorem kw_25 : (Jvm.Cond.selects "KeptLumpModel" ({ cls := "KeptLumpModel", name := "touchesLeft", desc := "()I" } : Jvm.MethodName) ({ cls := "KeptLumpModel", name := "touchesLeft", desc := "()I" } : Jvm.MethodName)) ∈ kv_gw := List.mem_filter.mpr ⟨kv_tb0 (List.mem_of_getElem? (i := 25) (by decide +kernel)), by decide +kernel⟩
theorem kw_26 : (Jvm.Cond.selects "KeptLumpModel" ({ cls := "KeptLumpModel", name := "tells", desc := "(IIIII)V" } : Jvm.MethodName) ({ cls := "KeptLumpModel", name := "tells", desc := "(IIIII)V" } : Jvm.MethodName)) ∈ kv_gw := List.mem_filter.mpr ⟨kv_tb0 (List.mem_of_getElem? (i := 26) (by decide +kernel)), by decide +kernel⟩
theorem kw_27 : (Jvm.Cond.selects "KeptLumpModel" ({ cls := "KeptLumpModel", name := "wrongRow", desc := "(II)I" } : Jvm.MethodName) ({ cls := "KeptLumpModel", name := "wrongRow", desc := "(II)I" } : Jvm.MethodName)) ∈ kv_gw := List.mem_filter.mpr ⟨kv_tb0 (List.mem_of_getElem? (i := 27) (by decide +kernel)), by decide +kernel⟩
theorem kw_28 : (Jvm.Cond.selects "KeptLumpModel" ({ cls := "KeptLumpModel", name := "isLost", desc := "(II)Z" } : Jvm.MethodName) ({ cls := "KeptLumpModel", name := "isLost", desc := "(II)Z" } : Jvm.MethodName)) ∈ kv_gw := List.mem_filter.mpr ⟨kv_tb0 (List.mem_of_getElem? (i := 28) (by decide +kernel)), by decide +kernel⟩
theorem kw_29 : (Jvm.Cond.selects "KeptLumpModel" ({ cls := "KeptLumpModel", name := "isWeighing", desc := "(I)Z" } : Jvm.MethodName) ({ cls := "KeptLumpModel", name := "isWeighing", desc := "(I)Z" } : Jvm.MethodName)) ∈ kv_gw := List.mem_filter.mpr ⟨kv_tb0 (List.mem_of_getElem? (i := 29) (by decide +kernel)), by decide +kernel⟩
theorem kw_30 : (Jvm.Cond.selects "KeptLumpModel" ({ cls := "KeptLumpModel", name := "say", desc := "(II)I" } : Jvm.MethodName) ({ cls := "KeptLumpModel", name := "say", desc := "(II)I" } : Jvm.MethodName)) ∈ kv_gw := List.mem_filter.mpr ⟨kv_tb0 (List.mem_of_getElem? (i := 30) (by decide +kernel)), by decide +kernel⟩
theorem kw_31 : (Jvm.Cond.selects "KeptLumpModel" ({ cls := "KeptLumpModel", name := "fitsYear", desc := "(I)Z" } : Jvm.MethodName) ({ cls := "KeptLumpModel", name := "fitsYear", desc := "(I)Z" } : Jvm.MethodName)) ∈ kv_gw := List.mem_filter.mpr ⟨kv_tb0 (List.mem_of_getElem? (i := 31) (by decide +kernel)), by decide +kernel⟩
theorem kw_32 : (Jvm.Cond.selects "KeptLumpModel" ({ cls := "KeptLumpModel", name := "begins", desc := "(I)V" } : Jvm.MethodName) ({ cls := "KeptLumpModel", name := "begins", desc := "(I)V" } : Jvm.MethodName)) ∈ kv_gw := List.mem_filter.mpr ⟨kv_tb0 (List.mem_of_getElem? (i := 32) (by decide +kernel)), by decide +kernel⟩
theorem kw_33 : (Jvm.Cond.selects "KeptLumpModel" ({ cls := "KeptLumpModel", name := "bindsYear", desc := "(II)V" } : Jvm.MethodName) ({ cls := "KeptLumpModel", name := "bindsYear", desc := "(II)V" } : Jvm.MethodName)) ∈ kv_gw := List.mem_filter.mpr ⟨kv_tb0 (List.mem_of_getElem? (i := 33) (by decide +kernel)), by decide +kernel⟩
theorem kw_34 : (Jvm.Cond.selects "KeptLumpModel" ({ cls := "KeptLumpModel", name := "weighs", desc := "(III)V" } : Jvm.MethodName) ({ cls := "KeptLumpModel", name := "weighs", desc := "(III)V" } : Jvm.MethodName)) ∈ kv_gw := List.mem_filter.mpr ⟨kv_tb0 (List.mem_of_getElem? (i := 34) (by decide +kernel)), by decide +kernel⟩
theorem kw_35 : (Jvm.Cond.selects "KeptLumpModel" ({ cls := "KeptLumpModel", name := "binds", desc := "(IIJJ)V" } : Jvm.MethodName) ({ cls := "KeptLumpModel", name := "binds", desc := "(IIJJ)V" } : Jvm.MethodName)) ∈ kv_gw := List.mem_filter.mpr ⟨kv_tb0 (List.mem_of_getElem? (i := 35) (by decide +kernel)), by decide +kernel⟩
theorem kw_36 : (Jvm.Cond.selects "KeptLumpModel" ({ cls := "KeptLumpModel", name := "closes", desc := "()Z" } : Jvm.MethodName) ({ cls := "KeptLumpModel", name := "closes", desc := "()Z" } : Jvm.MethodName)) ∈ kv_gw := List.mem_filter.mpr ⟨kv_tb0 (List.mem_of_getElem? (i := 36) (by decide +kernel)), by decide +kernel⟩
theorem kw_37 : (Jvm.Cond.selects "KeptLumpModel" ({ cls := "KeptLumpModel", name := "answer", desc := "(III)I" } : Jvm.MethodName) ({ cls := "KeptLumpModel", name := "answer", desc := "(III)I" } : Jvm.MethodName)) ∈ kv_gw := List.mem_filter.mpr ⟨kv_tb0 (List.mem_of_getElem? (i := 37) (by decide +kernel)), by decide +kernel⟩
theorem kw_38 : (Jvm.Cond.selects "KeptLumpModel" ({ cls := "KeptLumpModel", name := "fitsLong", desc := "(IIII)Z" } : Jvm.MethodName) ({ cls := "KeptLumpModel", name := "fitsLong", desc := "(IIII)Z" } : Jvm.MethodName)) ∈ kv_gw := List.mem_filter.mpr ⟨kv_tb0 (List.mem_of_getElem? (i := 38) (by decide +kernel)), by decide +kernel⟩
theorem kw_39 : (Jvm.Cond.selects "KeptLumpModel" ({ cls := "KeptLumpModel", name := "nodeOf", desc := "(II)I" } : Jvm.MethodName) ({ cls := "KeptLumpModel", name := "nodeOf", desc := "(II)I" } : Jvm.MethodName)) ∈ kv_gw := List.mem_filter.mpr ⟨kv_tb0 (List.mem_of_getElem? (i := 39) (by decide +kernel)), by decide +kernel⟩
theorem kw_40 : (Jvm.Cond.selects "KeptLumpModel" ({ cls := "KeptLumpModel", name := "isAsked", desc := "(I)Z" } : Jvm.MethodName) ({ cls := "KeptLumpModel", name := "isAsked", desc := "(I)Z" } : Jvm.MethodName)) ∈ kv_gw := List.mem_filter.mpr ⟨kv_tb0 (List.mem_of_getElem? (i := 40) (by decide +kernel)), by decide +kernel⟩
theorem kw_41 : (Jvm.Cond.selects "KeptLumpModel" ({ cls := "KeptLumpModel", name := "labelOf", desc := "(II)I" } : Jvm.MethodName) ({ cls := "KeptLumpModel", name := "labelOf", desc := "(II)I" } : Jvm.MethodName)) ∈ kv_gw := List.mem_filter.mpr ⟨kv_tb0 (List.mem_of_getElem? (i := 41) (by decide +kernel)), by decide +kernel⟩
theorem kw_42 : (Jvm.Cond.selects "KeptLumpModel" ({ cls := "KeptLumpModel", name := "fitsLongNow", desc := "()Z" } : Jvm.MethodName) ({ cls := "KeptLumpModel", name := "fitsLongNow", desc := "()Z" } : Jvm.MethodName)) ∈ kv_gw := List.mem_filter.mpr ⟨kv_tb0 (List.mem_of_getElem? (i := 42) (by decide +kernel)), by decide +kernel⟩
theorem kw_43 : (Jvm.Cond.selects "KeptLumpModel" ({ cls := "KeptLumpModel", name := "isPair", desc := "(I)Z" } : Jvm.MethodName) ({ cls := "KeptLumpModel", name := "isPair", desc := "(I)Z" } : Jvm.MethodName)) ∈ kv_gw := List.mem_filter.mpr ⟨kv_tb0 (List.mem_of_getElem? (i := 43) (by decide +kernel)), by decide +kernel⟩
theorem kw_44 : (Jvm.Cond.selects "KeptLumpModel" ({ cls := "KeptLumpModel", name := "isLet", desc := "(IIIII)Z" } : Jvm.MethodName) ({ cls := "KeptLumpModel", name := "isLet", desc := "(IIIII)Z" } : Jvm.MethodName)) ∈ kv_gw := List.mem_filter.mpr ⟨kv_tb0 (List.mem_of_getElem? (i := 44) (by decide +kernel)), by decide +kernel⟩
theorem kw_45 : (Jvm.Cond.selects "KeptLumpModel" ({ cls := "KeptLumpModel", name := "reads", desc := "(I)I" } : Jvm.MethodName) ({ cls := "KeptLumpModel", name := "reads", desc := "(I)I" } : Jvm.MethodName)) ∈ kv_gw := List.mem_filter.mpr ⟨kv_tb0 (List.mem_of_getElem? (i := 45) (by decide +kernel)), by decide +kernel⟩
theorem kw_46 : (Jvm.Cond.selects "KeptLumpModel" ({ cls := "KeptLumpModel", name := "readsStatement", desc := "()Z" } : Jvm.MethodName) ({ cls := "KeptLumpModel", name := "readsStatement", desc := "()Z" } : Jvm.MethodName)) ∈ kv_gw := List.mem_filter.mpr ⟨kv_tb0 (List.mem_of_getElem? (i := 46) (by decide +kernel)), by decide +kernel⟩
theorem kw_47 : (Jvm.Cond.selects "KeptLumpModel" ({ cls := "KeptLumpModel", name := "readsNumber", desc := "()Z" } : Jvm.MethodName) ({ cls := "KeptLumpModel", name := "readsNumber", desc := "()Z" } : Jvm.MethodName)) ∈ kv_gw := List.mem_filter.mpr ⟨kv_tb0 (List.mem_of_getElem? (i := 47) (by decide +kernel)), by decide +kernel⟩
theorem kw_48 : (Jvm.Cond.selects "KeptLumpModel" ({ cls := "KeptLumpModel", name := "sign", desc := "()I" } : Jvm.MethodName) ({ cls := "KeptLumpModel", name := "sign", desc := "()I" } : Jvm.MethodName)) ∈ kv_gw := List.mem_filter.mpr ⟨kv_tb0 (List.mem_of_getElem? (i := 48) (by decide +kernel)), by decide +kernel⟩
theorem kw_49 : (Jvm.Cond.selects "KeptLumpModel" ({ cls := "KeptLumpModel", name := "takes", desc := "(I)Z" } : Jvm.MethodName) ({ cls := "KeptLumpModel", name := "takes", desc := "(I)Z" } : Jvm.MethodName)) ∈ kv_gw := List.mem_filter.mpr ⟨kv_tb0 (List.mem_of_getElem? (i := 49) (by decide +kernel)), by decide +kernel⟩
theorem kw_50 : (Jvm.Cond.selects "KeptLumpModel" ({ cls := "KeptLumpModel", name := "readsSum", desc := "()Z" } : Jvm.MethodName) ({ cls := "KeptLumpModel", name := "readsSum", desc := "()Z" } : Jvm.MethodName)) ∈ kv_gw := List.mem_filter.mpr ⟨kv_tb0 (List.mem_of_getElem? (i := 50) (by decide +kernel)), by decide +kernel⟩
theorem kw_51 : (Jvm.Cond.selects "KeptLumpModel" ({ cls := "KeptLumpModel", name := "readsProduct", desc := "()Z" } : Jvm.MethodName) ({ cls := "KeptLumpModel", name := "readsProduct", desc := "()Z" } : Jvm.MethodName)) ∈ kv_gw := List.mem_filter.mpr ⟨kv_tb0 (List.mem_of_getElem? (i := 51) (by decide +kernel)), by decide +kernel⟩
theorem kw_52 : (Jvm.Cond.selects "KeptLumpModel" ({ cls := "KeptLumpModel", name := "readsAtom", desc := "()Z" } : Jvm.MethodName) ({ cls := "KeptLumpModel", name := "readsAtom", desc := "()Z" } : Jvm.MethodName)) ∈ kv_gw := List.mem_filter.mpr ⟨kv_tb0 (List.mem_of_getElem? (i := 52) (by decide +kernel)), by decide +kernel⟩
theorem kw_53 : (Jvm.Cond.selects "KeptLumpModel" ({ cls := "KeptLumpModel", name := "oneNow", desc := "()I" } : Jvm.MethodName) ({ cls := "KeptLumpModel", name := "oneNow", desc := "()I" } : Jvm.MethodName)) ∈ kv_gw := List.mem_filter.mpr ⟨kv_tb0 (List.mem_of_getElem? (i := 53) (by decide +kernel)), by decide +kernel⟩
theorem kw_54 : (Jvm.Cond.selects "KeptLumpModel" ({ cls := "KeptLumpModel", name := "oneBy", desc := "([III)I" } : Jvm.MethodName) ({ cls := "KeptLumpModel", name := "oneBy", desc := "([III)I" } : Jvm.MethodName)) ∈ kv_gw := List.mem_filter.mpr ⟨kv_tb0 (List.mem_of_getElem? (i := 54) (by decide +kernel)), by decide +kernel⟩
theorem kw_55 : (Jvm.Cond.selects "KeptLumpModel" ({ cls := "KeptLumpModel", name := "sumOf", desc := "()I" } : Jvm.MethodName) ({ cls := "KeptLumpModel", name := "sumOf", desc := "()I" } : Jvm.MethodName)) ∈ kv_gw := List.mem_filter.mpr ⟨kv_tb0 (List.mem_of_getElem? (i := 55) (by decide +kernel)), by decide +kernel⟩
theorem kw_56 : (Jvm.Cond.selects "KeptLumpModel" ({ cls := "KeptLumpModel", name := "product", desc := "()I" } : Jvm.MethodName) ({ cls := "KeptLumpModel", name := "product", desc := "()I" } : Jvm.MethodName)) ∈ kv_gw := List.mem_filter.mpr ⟨kv_tb0 (List.mem_of_getElem? (i := 56) (by decide +kernel)), by decide +kernel⟩
theorem kw_57 : (Jvm.Cond.selects "KeptLumpModel" ({ cls := "KeptLumpModel", name := "atom", desc := "()I" } : Jvm.MethodName) ({ cls := "KeptLumpModel", name := "atom", desc := "()I" } : Jvm.MethodName)) ∈ kv_gw := List.mem_filter.mpr ⟨kv_tb0 (List.mem_of_getElem? (i := 57) (by decide +kernel)), by decide +kernel⟩
theorem kw_58 : (Jvm.Cond.selects "KeptLumpModel" ({ cls := "KeptLumpModel", name := "meanOf", desc := "(II)I" } : Jvm.MethodName) ({ cls := "KeptLumpModel", name := "meanOf", desc := "(II)I" } : Jvm.MethodName)) ∈ kv_gw := List.mem_filter.mpr ⟨kv_tb0 (List.mem_of_getElem? (i := 58) (by decide +kernel)), by decide +kernel⟩
theorem kw_59 : (Jvm.Cond.selects "KeptLumpModel" ({ cls := "KeptLumpModel", name := "links", desc := "(I)I" } : Jvm.MethodName) ({ cls := "KeptLumpModel", name := "links", desc := "(I)I" } : Jvm.MethodName)) ∈ kv_gw := List.mem_filter.mpr ⟨kv_tb0 (List.mem_of_getElem? (i := 59) (by decide +kernel)), by decide +kernel⟩
theorem kw_60 : (Jvm.Cond.selects "KeptLumpModel" ({ cls := "KeptLumpModel", name := "chainOf", desc := "(II)I" } : Jvm.MethodName) ({ cls := "KeptLumpModel", name := "chainOf", desc := "(II)I" } : Jvm.MethodName)) ∈ kv_gw := List.mem_filter.mpr ⟨kv_tb0 (List.mem_of_getElem? (i := 60) (by decide +kernel)), by decide +kernel⟩
theorem kw_61 : (Jvm.Cond.selects "KeptLumpModel" ({ cls := "KeptLumpModel", name := "wrongChains", desc := "(II)I" } : Jvm.MethodName) ({ cls := "KeptLumpModel", name := "wrongChains", desc := "(II)I" } : Jvm.MethodName)) ∈ kv_gw := List.mem_filter.mpr ⟨kv_tb0 (List.mem_of_getElem? (i := 61) (by decide +kernel)), by decide +kernel⟩
theorem kw_62 : (Jvm.Cond.selects "KeptLumpModel" ({ cls := "KeptLumpModel", name := "agrees", desc := "(III)Z" } : Jvm.MethodName) ({ cls := "KeptLumpModel", name := "agrees", desc := "(III)Z" } : Jvm.MethodName)) ∈ kv_gw := List.mem_filter.mpr ⟨kv_tb0 (List.mem_of_getElem? (i := 62) (by decide +kernel)), by decide +kernel⟩
theorem kw_63 : (Jvm.Cond.selects "KeptLumpModel" ({ cls := "KeptLumpModel", name := "pairAt", desc := "(II)I" } : Jvm.MethodName) ({ cls := "KeptLumpModel", name := "pairAt", desc := "(II)I" } : Jvm.MethodName)) ∈ kv_gw := List.mem_filter.mpr ⟨kv_tb0 (List.mem_of_getElem? (i := 63) (by decide +kernel)), by decide +kernel⟩
theorem kw_64 : (Jvm.Cond.selects "KeptLumpModel" ({ cls := "KeptLumpModel", name := "primesIn", desc := "(II)I" } : Jvm.MethodName) ({ cls := "KeptLumpModel", name := "primesIn", desc := "(II)I" } : Jvm.MethodName)) ∈ kv_gw := List.mem_filter.mpr ⟨kv_tb0 (List.mem_of_getElem? (i := 64) (by decide +kernel)), by decide +kernel⟩
theorem kw_65 : (Jvm.Cond.selects "KeptLumpModel" ({ cls := "KeptLumpModel", name := "spreadBy", desc := "(III)J" } : Jvm.MethodName) ({ cls := "KeptLumpModel", name := "spreadBy", desc := "(III)J" } : Jvm.MethodName)) ∈ kv_gw := List.mem_filter.mpr ⟨kv_tb0 (List.mem_of_getElem? (i := 65) (by decide +kernel)), by decide +kernel⟩
theorem kw_66 : (Jvm.Cond.selects "KeptLumpModel" ({ cls := "KeptLumpModel", name := "careOf", desc := "(I)I" } : Jvm.MethodName) ({ cls := "KeptLumpModel", name := "careOf", desc := "(I)I" } : Jvm.MethodName)) ∈ kv_gw := List.mem_filter.mpr ⟨kv_tb0 (List.mem_of_getElem? (i := 66) (by decide +kernel)), by decide +kernel⟩
theorem kw_67 : (Jvm.Cond.selects "KeptLumpModel" ({ cls := "KeptLumpModel", name := "wrongKept", desc := "(I)I" } : Jvm.MethodName) ({ cls := "KeptLumpModel", name := "wrongKept", desc := "(I)I" } : Jvm.MethodName)) ∈ kv_gw := List.mem_filter.mpr ⟨kv_tb0 (List.mem_of_getElem? (i := 67) (by decide +kernel)), by decide +kernel⟩
theorem kw_69 : (Jvm.Cond.initialized "KeptLump") ∈ kv_gw := List.mem_filter.mpr ⟨kv_tb1 (List.mem_of_getElem? (i := 1) (by decide +kernel)), by decide +kernel⟩
theorem kw_70 : (Jvm.Cond.initialized "KeptLump$State") ∈ kv_gw := List.mem_filter.mpr ⟨kv_tb1 (List.mem_of_getElem? (i := 2) (by decide +kernel)), by decide +kernel⟩
theorem kw_71 : (Jvm.Cond.initialized "KeptLump$Lumps") ∈ kv_gw := List.mem_filter.mpr ⟨kv_tb1 (List.mem_of_getElem? (i := 3) (by decide +kernel)), by decide +kernel⟩
theorem kw_72 : (Jvm.Cond.initialized "KeptLump$Weighings") ∈ kv_gw := List.mem_filter.mpr ⟨kv_tb1 (List.mem_of_getElem? (i := 4) (by decide +kernel)), by decide +kernel⟩
theorem kw_73 : (Jvm.Cond.initialized "KeptLump$Law") ∈ kv_gw := List.mem_filter.mpr ⟨kv_tb1 (List.mem_of_getElem? (i := 5) (by decide +kernel)), by decide +kernel⟩
theorem kw_74 : (Jvm.Cond.initialized "KeptLump$Chains") ∈ kv_gw := List.mem_filter.mpr ⟨kv_tb1 (List.mem_of_getElem? (i := 6) (by decide +kernel)), by decide +kernel⟩
theorem kw_75 : (Jvm.Cond.initialized "java/util/Arrays") ∈ kv_gw := List.mem_filter.mpr ⟨kv_tb1 (List.mem_of_getElem? (i := 7) (by decide +kernel)), by decide +kernel⟩
theorem kw_76 : (Jvm.Cond.initialized "KeptLump$Shelf") ∈ kv_gw := List.mem_filter.mpr ⟨kv_tb1 (List.mem_of_getElem? (i := 8) (by decide +kernel)), by decide +kernel⟩
theorem kw_77 : (Jvm.Cond.initialized "KeptLump$Net") ∈ kv_gw := List.mem_filter.mpr ⟨kv_tb1 (List.mem_of_getElem? (i := 9) (by decide +kernel)), by decide +kernel⟩
theorem kw_78 : (Jvm.Cond.initialized "KeptLump$LongNet") ∈ kv_gw := List.mem_filter.mpr ⟨kv_tb1 (List.mem_of_getElem? (i := 10) (by decide +kernel)), by decide +kernel⟩
theorem kw_79 : (Jvm.Cond.initialized "KeptLump$Reader") ∈ kv_gw := List.mem_filter.mpr ⟨kv_tb1 (List.mem_of_getElem? (i := 11) (by decide +kernel)), by decide +kernel⟩
theorem kw_80 : (Jvm.Cond.initialized "KeptLump$Planner") ∈ kv_gw := List.mem_filter.mpr ⟨kv_tb1 (List.mem_of_getElem? (i := 12) (by decide +kernel)), by decide +kernel⟩
theorem kw_81 : (Jvm.Cond.initialized "KeptLumpModel") ∈ kv_gw := List.mem_filter.mpr ⟨kv_tb1 (List.mem_of_getElem? (i := 13) (by decide +kernel)), by decide +kernel⟩
theorem kw_82 : (Jvm.Cond.initialized "java/lang/System") ∈ kv_gw := List.mem_filter.mpr ⟨kv_tb1 (List.mem_of_getElem? (i := 14) (by decide +kernel)), by decide +kernel⟩
theorem kw_83 : (Jvm.Cond.initialized "java/lang/Integer") ∈ kv_gw := List.mem_filter.mpr ⟨kv_tb1 (List.mem_of_getElem? (i := 15) (by decide +kernel)), by decide +kernel⟩
theorem kw_84 : (Jvm.Cond.initialized "java/lang/Math") ∈ kv_gw := List.mem_filter.mpr ⟨kv_tb1 (List.mem_of_getElem? (i := 16) (by decide +kernel)), by decide +kernel⟩
theorem kw_110 : (Jvm.Cond.fieldLink "KeptLump$Lumps" (9 : Nat) "KeptLump$Lumps" "kind" "[I") ∈ kv_gw := List.mem_filter.mpr ⟨kv_tb1 (List.mem_of_getElem? (i := 42) (by decide +kernel)), by decide +kernel⟩
theorem kw_111 : (Jvm.Cond.fieldLink "KeptLump$Planner" (66 : Nat) "KeptLump$Lumps" "kind" "[I") ∈ kv_gw := List.mem_filter.mpr ⟨kv_tb1 (List.mem_of_getElem? (i := 43) (by decide +kernel)), by decide +kernel⟩
theorem kw_112 : (Jvm.Cond.fieldLink "KeptLump" (105 : Nat) "KeptLump$Lumps" "kind" "[I") ∈ kv_gw := List.mem_filter.mpr ⟨kv_tb1 (List.mem_of_getElem? (i := 44) (by decide +kernel)), by decide +kernel⟩
theorem kw_113 : (Jvm.Cond.fieldLink "KeptLump$Shelf" (22 : Nat) "KeptLump$Lumps" "kind" "[I") ∈ kv_gw := List.mem_filter.mpr ⟨kv_tb1 (List.mem_of_getElem? (i := 45) (by decide +kernel)), by decide +kernel⟩
theorem kw_114 : (Jvm.Cond.fieldLink "KeptLump$LongNet" (110 : Nat) "KeptLump$Lumps" "kind" "[I") ∈ kv_gw := List.mem_filter.mpr ⟨kv_tb1 (List.mem_of_getElem? (i := 46) (by decide +kernel)), by decide +kernel⟩
theorem kw_115 : (Jvm.Cond.fieldLink "KeptLump$Lumps" (15 : Nat) "KeptLump$Lumps" "land" "[I") ∈ kv_gw := List.mem_filter.mpr ⟨kv_tb1 (List.mem_of_getElem? (i := 47) (by decide +kernel)), by decide +kernel⟩
theorem kw_116 : (Jvm.Cond.fieldLink "KeptLump" (108 : Nat) "KeptLump$Lumps" "land" "[I") ∈ kv_gw := List.mem_filter.mpr ⟨kv_tb1 (List.mem_of_getElem? (i := 48) (by decide +kernel)), by decide +kernel⟩
theorem kw_117 : (Jvm.Cond.fieldLink "KeptLump$Shelf" (29 : Nat) "KeptLump$Lumps" "land" "[I") ∈ kv_gw := List.mem_filter.mpr ⟨kv_tb1 (List.mem_of_getElem? (i := 49) (by decide +kernel)), by decide +kernel⟩
theorem kw_118 : (Jvm.Cond.fieldLink "KeptLump$Lumps" (18 : Nat) "KeptLump$Lumps" "rate" "[I") ∈ kv_gw := List.mem_filter.mpr ⟨kv_tb1 (List.mem_of_getElem? (i := 50) (by decide +kernel)), by decide +kernel⟩
theorem kw_119 : (Jvm.Cond.fieldLink "KeptLump" (111 : Nat) "KeptLump$Lumps" "rate" "[I") ∈ kv_gw := List.mem_filter.mpr ⟨kv_tb1 (List.mem_of_getElem? (i := 51) (by decide +kernel)), by decide +kernel⟩
theorem kw_120 : (Jvm.Cond.fieldLink "KeptLump$Shelf" (34 : Nat) "KeptLump$Lumps" "rate" "[I") ∈ kv_gw := List.mem_filter.mpr ⟨kv_tb1 (List.mem_of_getElem? (i := 52) (by decide +kernel)), by decide +kernel⟩
theorem kw_121 : (Jvm.Cond.fieldLink "KeptLump$Lumps" (21 : Nat) "KeptLump$Lumps" "weight" "[I") ∈ kv_gw := List.mem_filter.mpr ⟨kv_tb1 (List.mem_of_getElem? (i := 53) (by decide +kernel)), by decide +kernel⟩
theorem kw_122 : (Jvm.Cond.fieldLink "KeptLump$Planner" (63 : Nat) "KeptLump$Lumps" "weight" "[I") ∈ kv_gw := List.mem_filter.mpr ⟨kv_tb1 (List.mem_of_getElem? (i := 54) (by decide +kernel)), by decide +kernel⟩
theorem kw_123 : (Jvm.Cond.fieldLink "KeptLump" (114 : Nat) "KeptLump$Lumps" "weight" "[I") ∈ kv_gw := List.mem_filter.mpr ⟨kv_tb1 (List.mem_of_getElem? (i := 55) (by decide +kernel)), by decide +kernel⟩
theorem kw_124 : (Jvm.Cond.fieldLink "KeptLump$Lumps" (24 : Nat) "KeptLump$Lumps" "washedIn" "[I") ∈ kv_gw := List.mem_filter.mpr ⟨kv_tb1 (List.mem_of_getElem? (i := 56) (by decide +kernel)), by decide +kernel⟩
theorem kw_125 : (Jvm.Cond.fieldLink "KeptLump" (120 : Nat) "KeptLump$Lumps" "washedIn" "[I") ∈ kv_gw := List.mem_filter.mpr ⟨kv_tb1 (List.mem_of_getElem? (i := 57) (by decide +kernel)), by decide +kernel⟩
theorem kw_126 : (Jvm.Cond.fieldLink "KeptLump$Lumps" (27 : Nat) "KeptLump$Lumps" "washings" "[I") ∈ kv_gw := List.mem_filter.mpr ⟨kv_tb1 (List.mem_of_getElem? (i := 58) (by decide +kernel)), by decide +kernel⟩
theorem kw_127 : (Jvm.Cond.fieldLink "KeptLump" (117 : Nat) "KeptLump$Lumps" "washings" "[I") ∈ kv_gw := List.mem_filter.mpr ⟨kv_tb1 (List.mem_of_getElem? (i := 59) (by decide +kernel)), by decide +kernel⟩
theorem kw_128 : (Jvm.Cond.fieldLink "KeptLump$Lumps" (30 : Nat) "KeptLump$Lumps" "air" "[I") ∈ kv_gw := List.mem_filter.mpr ⟨kv_tb1 (List.mem_of_getElem? (i := 60) (by decide +kernel)), by decide +kernel⟩
theorem kw_129 : (Jvm.Cond.fieldLink "KeptLump" (76 : Nat) "KeptLump$Lumps" "air" "[I") ∈ kv_gw := List.mem_filter.mpr ⟨kv_tb1 (List.mem_of_getElem? (i := 61) (by decide +kernel)), by decide +kernel⟩
theorem kw_130 : (Jvm.Cond.fieldLink "KeptLump$Lumps" (33 : Nat) "KeptLump$Lumps" "many" "I") ∈ kv_gw := List.mem_filter.mpr ⟨kv_tb1 (List.mem_of_getElem? (i := 62) (by decide +kernel)), by decide +kernel⟩
theorem kw_131 : (Jvm.Cond.fieldLink "KeptLump$Planner" (46 : Nat) "KeptLump$Lumps" "many" "I") ∈ kv_gw := List.mem_filter.mpr ⟨kv_tb1 (List.mem_of_getElem? (i := 63) (by decide +kernel)), by decide +kernel⟩
theorem kw_132 : (Jvm.Cond.fieldLink "KeptLump" (62 : Nat) "KeptLump$Lumps" "many" "I") ∈ kv_gw := List.mem_filter.mpr ⟨kv_tb1 (List.mem_of_getElem? (i := 64) (by decide +kernel)), by decide +kernel⟩
theorem kw_133 : (Jvm.Cond.laysFinal "KeptLump$Lumps" "KeptLump$Lumps" "kind" "[I") ∈ kv_gw := List.mem_filter.mpr ⟨kv_tb1 (List.mem_of_getElem? (i := 65) (by decide +kernel)), by decide +kernel⟩
theorem kw_135 : (Jvm.Cond.laysFinal "KeptLump$Lumps" "KeptLump$Lumps" "land" "[I") ∈ kv_gw := List.mem_filter.mpr ⟨kv_tb1 (List.mem_of_getElem? (i := 67) (by decide +kernel)), by decide +kernel⟩
theorem kw_137 : (Jvm.Cond.laysFinal "KeptLump$Lumps" "KeptLump$Lumps" "rate" "[I") ∈ kv_gw := List.mem_filter.mpr ⟨kv_tb1 (List.mem_of_getElem? (i := 69) (by decide +kernel)), by decide +kernel⟩
theorem kw_139 : (Jvm.Cond.laysFinal "KeptLump$Lumps" "KeptLump$Lumps" "weight" "[I") ∈ kv_gw := List.mem_filter.mpr ⟨kv_tb1 (List.mem_of_getElem? (i := 71) (by decide +kernel)), by decide +kernel⟩
theorem kw_141 : (Jvm.Cond.laysFinal "KeptLump$Lumps" "KeptLump$Lumps" "washedIn" "[I") ∈ kv_gw := List.mem_filter.mpr ⟨kv_tb1 (List.mem_of_getElem? (i := 73) (by decide +kernel)), by decide +kernel⟩
theorem kw_143 : (Jvm.Cond.laysFinal "KeptLump$Lumps" "KeptLump$Lumps" "washings" "[I") ∈ kv_gw := List.mem_filter.mpr ⟨kv_tb1 (List.mem_of_getElem? (i := 75) (by decide +kernel)), by decide +kernel⟩
theorem kw_145 : (Jvm.Cond.laysFinal "KeptLump$Lumps" "KeptLump$Lumps" "air" "[I") ∈ kv_gw := List.mem_filter.mpr ⟨kv_tb1 (List.mem_of_getElem? (i := 77) (by decide +kernel)), by decide +kernel⟩
theorem kw_147 : (Jvm.Cond.lays "KeptLump$Lumps" "KeptLump$Lumps" "many" "I") ∈ kv_gw := List.mem_filter.mpr ⟨kv_tb1 (List.mem_of_getElem? (i := 79) (by decide +kernel)), by decide +kernel⟩
theorem kw_157 : (Jvm.Cond.fieldLink "KeptLump$Weighings" (9 : Nat) "KeptLump$Weighings" "year" "[I") ∈ kv_gw := List.mem_filter.mpr ⟨kv_tb1 (List.mem_of_getElem? (i := 89) (by decide +kernel)), by decide +kernel⟩
theorem kw_158 : (Jvm.Cond.fieldLink "KeptLump$LongNet" (60 : Nat) "KeptLump$Weighings" "year" "[I") ∈ kv_gw := List.mem_filter.mpr ⟨kv_tb1 (List.mem_of_getElem? (i := 90) (by decide +kernel)), by decide +kernel⟩
theorem kw_159 : (Jvm.Cond.fieldLink "KeptLump" (192 : Nat) "KeptLump$Weighings" "year" "[I") ∈ kv_gw := List.mem_filter.mpr ⟨kv_tb1 (List.mem_of_getElem? (i := 91) (by decide +kernel)), by decide +kernel⟩
theorem kw_160 : (Jvm.Cond.fieldLink "KeptLump$Weighings" (15 : Nat) "KeptLump$Weighings" "first" "[I") ∈ kv_gw := List.mem_filter.mpr ⟨kv_tb1 (List.mem_of_getElem? (i := 92) (by decide +kernel)), by decide +kernel⟩
theorem kw_161 : (Jvm.Cond.fieldLink "KeptLump$Planner" (96 : Nat) "KeptLump$Weighings" "first" "[I") ∈ kv_gw := List.mem_filter.mpr ⟨kv_tb1 (List.mem_of_getElem? (i := 93) (by decide +kernel)), by decide +kernel⟩
theorem kw_162 : (Jvm.Cond.fieldLink "KeptLump$LongNet" (63 : Nat) "KeptLump$Weighings" "first" "[I") ∈ kv_gw := List.mem_filter.mpr ⟨kv_tb1 (List.mem_of_getElem? (i := 94) (by decide +kernel)), by decide +kernel⟩
theorem kw_163 : (Jvm.Cond.fieldLink "KeptLump" (195 : Nat) "KeptLump$Weighings" "first" "[I") ∈ kv_gw := List.mem_filter.mpr ⟨kv_tb1 (List.mem_of_getElem? (i := 95) (by decide +kernel)), by decide +kernel⟩
theorem kw_164 : (Jvm.Cond.fieldLink "KeptLump$Weighings" (18 : Nat) "KeptLump$Weighings" "second" "[I") ∈ kv_gw := List.mem_filter.mpr ⟨kv_tb1 (List.mem_of_getElem? (i := 96) (by decide +kernel)), by decide +kernel⟩
theorem kw_165 : (Jvm.Cond.fieldLink "KeptLump$Planner" (97 : Nat) "KeptLump$Weighings" "second" "[I") ∈ kv_gw := List.mem_filter.mpr ⟨kv_tb1 (List.mem_of_getElem? (i := 97) (by decide +kernel)), by decide +kernel⟩
theorem kw_166 : (Jvm.Cond.fieldLink "KeptLump$LongNet" (74 : Nat) "KeptLump$Weighings" "second" "[I") ∈ kv_gw := List.mem_filter.mpr ⟨kv_tb1 (List.mem_of_getElem? (i := 98) (by decide +kernel)), by decide +kernel⟩
theorem kw_167 : (Jvm.Cond.fieldLink "KeptLump" (198 : Nat) "KeptLump$Weighings" "second" "[I") ∈ kv_gw := List.mem_filter.mpr ⟨kv_tb1 (List.mem_of_getElem? (i := 99) (by decide +kernel)), by decide +kernel⟩
theorem kw_168 : (Jvm.Cond.fieldLink "KeptLump$Weighings" (21 : Nat) "KeptLump$Weighings" "answer" "[I") ∈ kv_gw := List.mem_filter.mpr ⟨kv_tb1 (List.mem_of_getElem? (i := 100) (by decide +kernel)), by decide +kernel⟩
theorem kw_169 : (Jvm.Cond.fieldLink "KeptLump" (201 : Nat) "KeptLump$Weighings" "answer" "[I") ∈ kv_gw := List.mem_filter.mpr ⟨kv_tb1 (List.mem_of_getElem? (i := 101) (by decide +kernel)), by decide +kernel⟩
theorem kw_170 : (Jvm.Cond.fieldLink "KeptLump$Weighings" (24 : Nat) "KeptLump$Weighings" "doubt" "[I") ∈ kv_gw := List.mem_filter.mpr ⟨kv_tb1 (List.mem_of_getElem? (i := 102) (by decide +kernel)), by decide +kernel⟩
theorem kw_171 : (Jvm.Cond.fieldLink "KeptLump" (204 : Nat) "KeptLump$Weighings" "doubt" "[I") ∈ kv_gw := List.mem_filter.mpr ⟨kv_tb1 (List.mem_of_getElem? (i := 103) (by decide +kernel)), by decide +kernel⟩
theorem kw_172 : (Jvm.Cond.fieldLink "KeptLump$Weighings" (27 : Nat) "KeptLump$Weighings" "isOut" "[Z") ∈ kv_gw := List.mem_filter.mpr ⟨kv_tb1 (List.mem_of_getElem? (i := 104) (by decide +kernel)), by decide +kernel⟩
theorem kw_173 : (Jvm.Cond.fieldLink "KeptLump$LongNet" (89 : Nat) "KeptLump$Weighings" "isOut" "[Z") ∈ kv_gw := List.mem_filter.mpr ⟨kv_tb1 (List.mem_of_getElem? (i := 105) (by decide +kernel)), by decide +kernel⟩
theorem kw_174 : (Jvm.Cond.fieldLink "KeptLump" (207 : Nat) "KeptLump$Weighings" "isOut" "[Z") ∈ kv_gw := List.mem_filter.mpr ⟨kv_tb1 (List.mem_of_getElem? (i := 106) (by decide +kernel)), by decide +kernel⟩
theorem kw_175 : (Jvm.Cond.fieldLink "KeptLump$Weighings" (31 : Nat) "KeptLump$Weighings" "touchedIn" "[I") ∈ kv_gw := List.mem_filter.mpr ⟨kv_tb1 (List.mem_of_getElem? (i := 107) (by decide +kernel)), by decide +kernel⟩
theorem kw_176 : (Jvm.Cond.fieldLink "KeptLump$Weighings" (34 : Nat) "KeptLump$Weighings" "many" "I") ∈ kv_gw := List.mem_filter.mpr ⟨kv_tb1 (List.mem_of_getElem? (i := 108) (by decide +kernel)), by decide +kernel⟩
theorem kw_177 : (Jvm.Cond.fieldLink "KeptLump$Planner" (82 : Nat) "KeptLump$Weighings" "many" "I") ∈ kv_gw := List.mem_filter.mpr ⟨kv_tb1 (List.mem_of_getElem? (i := 109) (by decide +kernel)), by decide +kernel⟩
theorem kw_178 : (Jvm.Cond.fieldLink "KeptLump$LongNet" (53 : Nat) "KeptLump$Weighings" "many" "I") ∈ kv_gw := List.mem_filter.mpr ⟨kv_tb1 (List.mem_of_getElem? (i := 110) (by decide +kernel)), by decide +kernel⟩
theorem kw_179 : (Jvm.Cond.fieldLink "KeptLump" (156 : Nat) "KeptLump$Weighings" "many" "I") ∈ kv_gw := List.mem_filter.mpr ⟨kv_tb1 (List.mem_of_getElem? (i := 111) (by decide +kernel)), by decide +kernel⟩
theorem kw_180 : (Jvm.Cond.fieldLink "KeptLump$Weighings" (38 : Nat) "KeptLump$Weighings" "touched" "I") ∈ kv_gw := List.mem_filter.mpr ⟨kv_tb1 (List.mem_of_getElem? (i := 112) (by decide +kernel)), by decide +kernel⟩
theorem kw_181 : (Jvm.Cond.laysFinal "KeptLump$Weighings" "KeptLump$Weighings" "year" "[I") ∈ kv_gw := List.mem_filter.mpr ⟨kv_tb1 (List.mem_of_getElem? (i := 113) (by decide +kernel)), by decide +kernel⟩
theorem kw_183 : (Jvm.Cond.laysFinal "KeptLump$Weighings" "KeptLump$Weighings" "first" "[I") ∈ kv_gw := List.mem_filter.mpr ⟨kv_tb1 (List.mem_of_getElem? (i := 115) (by decide +kernel)), by decide +kernel⟩
theorem kw_185 : (Jvm.Cond.laysFinal "KeptLump$Weighings" "KeptLump$Weighings" "second" "[I") ∈ kv_gw := List.mem_filter.mpr ⟨kv_tb1 (List.mem_of_getElem? (i := 117) (by decide +kernel)), by decide +kernel⟩
theorem kw_187 : (Jvm.Cond.laysFinal "KeptLump$Weighings" "KeptLump$Weighings" "answer" "[I") ∈ kv_gw := List.mem_filter.mpr ⟨kv_tb1 (List.mem_of_getElem? (i := 119) (by decide +kernel)), by decide +kernel⟩
theorem kw_189 : (Jvm.Cond.laysFinal "KeptLump$Weighings" "KeptLump$Weighings" "doubt" "[I") ∈ kv_gw := List.mem_filter.mpr ⟨kv_tb1 (List.mem_of_getElem? (i := 121) (by decide +kernel)), by decide +kernel⟩
theorem kw_191 : (Jvm.Cond.laysFinal "KeptLump$Weighings" "KeptLump$Weighings" "isOut" "[Z") ∈ kv_gw := List.mem_filter.mpr ⟨kv_tb1 (List.mem_of_getElem? (i := 123) (by decide +kernel)), by decide +kernel⟩
theorem kw_193 : (Jvm.Cond.laysFinal "KeptLump$Weighings" "KeptLump$Weighings" "touchedIn" "[I") ∈ kv_gw := List.mem_filter.mpr ⟨kv_tb1 (List.mem_of_getElem? (i := 125) (by decide +kernel)), by decide +kernel⟩
theorem kw_195 : (Jvm.Cond.lays "KeptLump$Weighings" "KeptLump$Weighings" "many" "I") ∈ kv_gw := List.mem_filter.mpr ⟨kv_tb1 (List.mem_of_getElem? (i := 127) (by decide +kernel)), by decide +kernel⟩
theorem kw_197 : (Jvm.Cond.lays "KeptLump$Weighings" "KeptLump$Weighings" "touched" "I") ∈ kv_gw := List.mem_filter.mpr ⟨kv_tb1 (List.mem_of_getElem? (i := 129) (by decide +kernel)), by decide +kernel⟩
theorem kw_207 : (Jvm.Cond.fieldLink "KeptLump$Law" (9 : Nat) "KeptLump$Law" "text" "[I") ∈ kv_gw := List.mem_filter.mpr ⟨kv_tb1 (List.mem_of_getElem? (i := 139) (by decide +kernel)), by decide +kernel⟩
theorem kw_208 : (Jvm.Cond.fieldLink "KeptLump$State" (69 : Nat) "KeptLump$Law" "text" "[I") ∈ kv_gw := List.mem_filter.mpr ⟨kv_tb1 (List.mem_of_getElem? (i := 140) (by decide +kernel)), by decide +kernel⟩
theorem kw_209 : (Jvm.Cond.fieldLink "KeptLump" (288 : Nat) "KeptLump$Law" "text" "[I") ∈ kv_gw := List.mem_filter.mpr ⟨kv_tb1 (List.mem_of_getElem? (i := 141) (by decide +kernel)), by decide +kernel⟩
theorem kw_210 : (Jvm.Cond.fieldLink "KeptLump$Law" (15 : Nat) "KeptLump$Law" "size" "I") ∈ kv_gw := List.mem_filter.mpr ⟨kv_tb1 (List.mem_of_getElem? (i := 142) (by decide +kernel)), by decide +kernel⟩
theorem kw_211 : (Jvm.Cond.fieldLink "KeptLump$State" (72 : Nat) "KeptLump$Law" "size" "I") ∈ kv_gw := List.mem_filter.mpr ⟨kv_tb1 (List.mem_of_getElem? (i := 143) (by decide +kernel)), by decide +kernel⟩
theorem kw_212 : (Jvm.Cond.fieldLink "KeptLump" (291 : Nat) "KeptLump$Law" "size" "I") ∈ kv_gw := List.mem_filter.mpr ⟨kv_tb1 (List.mem_of_getElem? (i := 144) (by decide +kernel)), by decide +kernel⟩
theorem kw_213 : (Jvm.Cond.fieldLink "KeptLump$Law" (19 : Nat) "KeptLump$Law" "statements" "I") ∈ kv_gw := List.mem_filter.mpr ⟨kv_tb1 (List.mem_of_getElem? (i := 145) (by decide +kernel)), by decide +kernel⟩
theorem kw_214 : (Jvm.Cond.fieldLink "KeptLump$State" (75 : Nat) "KeptLump$Law" "statements" "I") ∈ kv_gw := List.mem_filter.mpr ⟨kv_tb1 (List.mem_of_getElem? (i := 146) (by decide +kernel)), by decide +kernel⟩
theorem kw_215 : (Jvm.Cond.fieldLink "KeptLump" (364 : Nat) "KeptLump$Law" "statements" "I") ∈ kv_gw := List.mem_filter.mpr ⟨kv_tb1 (List.mem_of_getElem? (i := 147) (by decide +kernel)), by decide +kernel⟩
theorem kw_216 : (Jvm.Cond.laysFinal "KeptLump$Law" "KeptLump$Law" "text" "[I") ∈ kv_gw := List.mem_filter.mpr ⟨kv_tb1 (List.mem_of_getElem? (i := 148) (by decide +kernel)), by decide +kernel⟩
theorem kw_218 : (Jvm.Cond.lays "KeptLump$Law" "KeptLump$Law" "size" "I") ∈ kv_gw := List.mem_filter.mpr ⟨kv_tb1 (List.mem_of_getElem? (i := 150) (by decide +kernel)), by decide +kernel⟩
theorem kw_220 : (Jvm.Cond.lays "KeptLump$Law" "KeptLump$Law" "statements" "I") ∈ kv_gw := List.mem_filter.mpr ⟨kv_tb1 (List.mem_of_getElem? (i := 152) (by decide +kernel)), by decide +kernel⟩
theorem kw_229 : (Jvm.Cond.fieldLink "KeptLump$Chains" (9 : Nat) "KeptLump$Chains" "part" "[I") ∈ kv_gw := List.mem_filter.mpr ⟨kv_tb1 (List.mem_of_getElem? (i := 161) (by decide +kernel)), by decide +kernel⟩
theorem kw_230 : (Jvm.Cond.fieldLink "KeptLump$Chains" (15 : Nat) "KeptLump$Chains" "doubt" "[I") ∈ kv_gw := List.mem_filter.mpr ⟨kv_tb1 (List.mem_of_getElem? (i := 162) (by decide +kernel)), by decide +kernel⟩
theorem kw_231 : (Jvm.Cond.fieldLink "KeptLump$Chains" (18 : Nat) "KeptLump$Chains" "many" "[I") ∈ kv_gw := List.mem_filter.mpr ⟨kv_tb1 (List.mem_of_getElem? (i := 163) (by decide +kernel)), by decide +kernel⟩
theorem kw_232 : (Jvm.Cond.fieldLink "KeptLump" (300 : Nat) "KeptLump$Chains" "many" "[I") ∈ kv_gw := List.mem_filter.mpr ⟨kv_tb1 (List.mem_of_getElem? (i := 164) (by decide +kernel)), by decide +kernel⟩
theorem kw_233 : (Jvm.Cond.fieldLink "KeptLump$Chains" (21 : Nat) "KeptLump$Chains" "year" "[I") ∈ kv_gw := List.mem_filter.mpr ⟨kv_tb1 (List.mem_of_getElem? (i := 165) (by decide +kernel)), by decide +kernel⟩
theorem kw_234 : (Jvm.Cond.fieldLink "KeptLump" (305 : Nat) "KeptLump$Chains" "year" "[I") ∈ kv_gw := List.mem_filter.mpr ⟨kv_tb1 (List.mem_of_getElem? (i := 166) (by decide +kernel)), by decide +kernel⟩
theorem kw_235 : (Jvm.Cond.laysFinal "KeptLump$Chains" "KeptLump$Chains" "part" "[I") ∈ kv_gw := List.mem_filter.mpr ⟨kv_tb1 (List.mem_of_getElem? (i := 167) (by decide +kernel)), by decide +kernel⟩
theorem kw_237 : (Jvm.Cond.laysFinal "KeptLump$Chains" "KeptLump$Chains" "doubt" "[I") ∈ kv_gw := List.mem_filter.mpr ⟨kv_tb1 (List.mem_of_getElem? (i := 169) (by decide +kernel)), by decide +kernel⟩
theorem kw_239 : (Jvm.Cond.laysFinal "KeptLump$Chains" "KeptLump$Chains" "many" "[I") ∈ kv_gw := List.mem_filter.mpr ⟨kv_tb1 (List.mem_of_getElem? (i := 171) (by decide +kernel)), by decide +kernel⟩
theorem kw_241 : (Jvm.Cond.laysFinal "KeptLump$Chains" "KeptLump$Chains" "year" "[I") ∈ kv_gw := List.mem_filter.mpr ⟨kv_tb1 (List.mem_of_getElem? (i := 173) (by decide +kernel)), by decide +kernel⟩
theorem kw_245 : (Jvm.Cond.static ({ cls := "java/util/Arrays", name := "fill", desc := "([II)V" } : Jvm.MethodName)) ∈ kv_gw := List.mem_filter.mpr ⟨kv_tb1 (List.mem_of_getElem? (i := 177) (by decide +kernel)), by decide +kernel⟩
theorem kw_246 : (Jvm.Cond.code ({ cls := "java/util/Arrays", name := "fill", desc := "([II)V" } : Jvm.MethodName) prog_23_method_103_code (4 : Nat) (Option.none : Option Jvm.ClassFile.FieldType)) ∈ kv_gw := List.mem_filter.mpr ⟨kv_tb1 (List.mem_of_getElem? (i := 178) (by decide +kernel)), by decide +kernel⟩
theorem kw_247 : (Jvm.Cond.fieldLink "KeptLump$State" (12 : Nat) "KeptLump$State" "lumps" "LKeptLump$Lumps;") ∈ kv_gw := List.mem_filter.mpr ⟨kv_tb1 (List.mem_of_getElem? (i := 179) (by decide +kernel)), by decide +kernel⟩
theorem kw_248 : (Jvm.Cond.fieldLink "KeptLump" (58 : Nat) "KeptLump$State" "lumps" "LKeptLump$Lumps;") ∈ kv_gw := List.mem_filter.mpr ⟨kv_tb1 (List.mem_of_getElem? (i := 180) (by decide +kernel)), by decide +kernel⟩
theorem kw_249 : (Jvm.Cond.fieldLink "KeptLump$Reader" (56 : Nat) "KeptLump$State" "lumps" "LKeptLump$Lumps;") ∈ kv_gw := List.mem_filter.mpr ⟨kv_tb1 (List.mem_of_getElem? (i := 181) (by decide +kernel)), by decide +kernel⟩
theorem kw_250 : (Jvm.Cond.fieldLink "KeptLump$LongNet" (106 : Nat) "KeptLump$State" "lumps" "LKeptLump$Lumps;") ∈ kv_gw := List.mem_filter.mpr ⟨kv_tb1 (List.mem_of_getElem? (i := 182) (by decide +kernel)), by decide +kernel⟩
theorem kw_251 : (Jvm.Cond.fieldLink "KeptLump$State" (21 : Nat) "KeptLump$State" "weighings" "LKeptLump$Weighings;") ∈ kv_gw := List.mem_filter.mpr ⟨kv_tb1 (List.mem_of_getElem? (i := 183) (by decide +kernel)), by decide +kernel⟩
theorem kw_252 : (Jvm.Cond.fieldLink "KeptLump$Planner" (76 : Nat) "KeptLump$State" "weighings" "LKeptLump$Weighings;") ∈ kv_gw := List.mem_filter.mpr ⟨kv_tb1 (List.mem_of_getElem? (i := 184) (by decide +kernel)), by decide +kernel⟩
theorem kw_253 : (Jvm.Cond.fieldLink "KeptLump$LongNet" (47 : Nat) "KeptLump$State" "weighings" "LKeptLump$Weighings;") ∈ kv_gw := List.mem_filter.mpr ⟨kv_tb1 (List.mem_of_getElem? (i := 185) (by decide +kernel)), by decide +kernel⟩
theorem kw_254 : (Jvm.Cond.fieldLink "KeptLump" (152 : Nat) "KeptLump$State" "weighings" "LKeptLump$Weighings;") ∈ kv_gw := List.mem_filter.mpr ⟨kv_tb1 (List.mem_of_getElem? (i := 186) (by decide +kernel)), by decide +kernel⟩
theorem kw_255 : (Jvm.Cond.fieldLink "KeptLump$State" (28 : Nat) "KeptLump$State" "law" "LKeptLump$Law;") ∈ kv_gw := List.mem_filter.mpr ⟨kv_tb1 (List.mem_of_getElem? (i := 187) (by decide +kernel)), by decide +kernel⟩
theorem kw_256 : (Jvm.Cond.fieldLink "KeptLump" (275 : Nat) "KeptLump$State" "law" "LKeptLump$Law;") ∈ kv_gw := List.mem_filter.mpr ⟨kv_tb1 (List.mem_of_getElem? (i := 188) (by decide +kernel)), by decide +kernel⟩
theorem kw_257 : (Jvm.Cond.fieldLink "KeptLump$State" (35 : Nat) "KeptLump$State" "chains" "LKeptLump$Chains;") ∈ kv_gw := List.mem_filter.mpr ⟨kv_tb1 (List.mem_of_getElem? (i := 189) (by decide +kernel)), by decide +kernel⟩
theorem kw_258 : (Jvm.Cond.fieldLink "KeptLump" (296 : Nat) "KeptLump$State" "chains" "LKeptLump$Chains;") ∈ kv_gw := List.mem_filter.mpr ⟨kv_tb1 (List.mem_of_getElem? (i := 190) (by decide +kernel)), by decide +kernel⟩
theorem kw_259 : (Jvm.Cond.fieldLink "KeptLump$State" (39 : Nat) "KeptLump$State" "takes" "[I") ∈ kv_gw := List.mem_filter.mpr ⟨kv_tb1 (List.mem_of_getElem? (i := 191) (by decide +kernel)), by decide +kernel⟩
theorem kw_260 : (Jvm.Cond.fieldLink "KeptLump" (85 : Nat) "KeptLump$State" "takes" "[I") ∈ kv_gw := List.mem_filter.mpr ⟨kv_tb1 (List.mem_of_getElem? (i := 192) (by decide +kernel)), by decide +kernel⟩
theorem kw_261 : (Jvm.Cond.fieldLink "KeptLump$Reader" (47 : Nat) "KeptLump$State" "now" "I") ∈ kv_gw := List.mem_filter.mpr ⟨kv_tb1 (List.mem_of_getElem? (i := 193) (by decide +kernel)), by decide +kernel⟩
theorem kw_262 : (Jvm.Cond.fieldLink "KeptLump$Planner" (85 : Nat) "KeptLump$State" "now" "I") ∈ kv_gw := List.mem_filter.mpr ⟨kv_tb1 (List.mem_of_getElem? (i := 194) (by decide +kernel)), by decide +kernel⟩
theorem kw_263 : (Jvm.Cond.fieldLink "KeptLump" (124 : Nat) "KeptLump$State" "now" "I") ∈ kv_gw := List.mem_filter.mpr ⟨kv_tb1 (List.mem_of_getElem? (i := 195) (by decide +kernel)), by decide +kernel⟩
theorem kw_264 : (Jvm.Cond.fieldLink "KeptLump$State" (91 : Nat) "KeptLump$State" "now" "I") ∈ kv_gw := List.mem_filter.mpr ⟨kv_tb1 (List.mem_of_getElem? (i := 196) (by decide +kernel)), by decide +kernel⟩
theorem kw_265 : (Jvm.Cond.fieldLink "KeptLump$State" (43 : Nat) "KeptLump$State" "z" "I") ∈ kv_gw := List.mem_filter.mpr ⟨kv_tb1 (List.mem_of_getElem? (i := 197) (by decide +kernel)), by decide +kernel⟩
theorem kw_266 : (Jvm.Cond.fieldLink "KeptLump" (142 : Nat) "KeptLump$State" "z" "I") ∈ kv_gw := List.mem_filter.mpr ⟨kv_tb1 (List.mem_of_getElem? (i := 198) (by decide +kernel)), by decide +kernel⟩
theorem kw_267 : (Jvm.Cond.fieldLink "KeptLump$State" (47 : Nat) "KeptLump$State" "low" "I") ∈ kv_gw := List.mem_filter.mpr ⟨kv_tb1 (List.mem_of_getElem? (i := 199) (by decide +kernel)), by decide +kernel⟩
theorem kw_268 : (Jvm.Cond.fieldLink "KeptLump" (95 : Nat) "KeptLump$State" "low" "I") ∈ kv_gw := List.mem_filter.mpr ⟨kv_tb1 (List.mem_of_getElem? (i := 200) (by decide +kernel)), by decide +kernel⟩
theorem kw_269 : (Jvm.Cond.fieldLink "KeptLump$LongNet" (115 : Nat) "KeptLump$State" "low" "I") ∈ kv_gw := List.mem_filter.mpr ⟨kv_tb1 (List.mem_of_getElem? (i := 201) (by decide +kernel)), by decide +kernel⟩
theorem kw_270 : (Jvm.Cond.fieldLink "KeptLump$State" (50 : Nat) "KeptLump$State" "high" "I") ∈ kv_gw := List.mem_filter.mpr ⟨kv_tb1 (List.mem_of_getElem? (i := 202) (by decide +kernel)), by decide +kernel⟩
theorem kw_271 : (Jvm.Cond.fieldLink "KeptLump" (88 : Nat) "KeptLump$State" "high" "I") ∈ kv_gw := List.mem_filter.mpr ⟨kv_tb1 (List.mem_of_getElem? (i := 203) (by decide +kernel)), by decide +kernel⟩
theorem kw_272 : (Jvm.Cond.fieldLink "KeptLump$LongNet" (118 : Nat) "KeptLump$State" "high" "I") ∈ kv_gw := List.mem_filter.mpr ⟨kv_tb1 (List.mem_of_getElem? (i := 204) (by decide +kernel)), by decide +kernel⟩
theorem kw_273 : (Jvm.Cond.laysFinal "KeptLump$State" "KeptLump$State" "lumps" "LKeptLump$Lumps;") ∈ kv_gw := List.mem_filter.mpr ⟨kv_tb1 (List.mem_of_getElem? (i := 205) (by decide +kernel)), by decide +kernel⟩
theorem kw_275 : (Jvm.Cond.laysFinal "KeptLump$State" "KeptLump$State" "weighings" "LKeptLump$Weighings;") ∈ kv_gw := List.mem_filter.mpr ⟨kv_tb1 (List.mem_of_getElem? (i := 207) (by decide +kernel)), by decide +kernel⟩
theorem kw_277 : (Jvm.Cond.laysFinal "KeptLump$State" "KeptLump$State" "law" "LKeptLump$Law;") ∈ kv_gw := List.mem_filter.mpr ⟨kv_tb1 (List.mem_of_getElem? (i := 209) (by decide +kernel)), by decide +kernel⟩
theorem kw_279 : (Jvm.Cond.laysFinal "KeptLump$State" "KeptLump$State" "chains" "LKeptLump$Chains;") ∈ kv_gw := List.mem_filter.mpr ⟨kv_tb1 (List.mem_of_getElem? (i := 211) (by decide +kernel)), by decide +kernel⟩
theorem kw_281 : (Jvm.Cond.laysFinal "KeptLump$State" "KeptLump$State" "takes" "[I") ∈ kv_gw := List.mem_filter.mpr ⟨kv_tb1 (List.mem_of_getElem? (i := 213) (by decide +kernel)), by decide +kernel⟩
theorem kw_283 : (Jvm.Cond.lays "KeptLump$State" "KeptLump$State" "now" "I") ∈ kv_gw := List.mem_filter.mpr ⟨kv_tb1 (List.mem_of_getElem? (i := 215) (by decide +kernel)), by decide +kernel⟩
theorem kw_285 : (Jvm.Cond.lays "KeptLump$State" "KeptLump$State" "z" "I") ∈ kv_gw := List.mem_filter.mpr ⟨kv_tb1 (List.mem_of_getElem? (i := 217) (by decide +kernel)), by decide +kernel⟩
theorem kw_287 : (Jvm.Cond.lays "KeptLump$State" "KeptLump$State" "low" "I") ∈ kv_gw := List.mem_filter.mpr ⟨kv_tb1 (List.mem_of_getElem? (i := 219) (by decide +kernel)), by decide +kernel⟩
theorem kw_289 : (Jvm.Cond.lays "KeptLump$State" "KeptLump$State" "high" "I") ∈ kv_gw := List.mem_filter.mpr ⟨kv_tb1 (List.mem_of_getElem? (i := 221) (by decide +kernel)), by decide +kernel⟩
theorem kw_299 : (Jvm.Cond.fieldLink "KeptLump$Shelf" (9 : Nat) "KeptLump$Shelf" "elements" "[I") ∈ kv_gw := List.mem_filter.mpr ⟨kv_tb1 (List.mem_of_getElem? (i := 231) (by decide +kernel)), by decide +kernel⟩
theorem kw_300 : (Jvm.Cond.fieldLink "KeptLump$Planner" (60 : Nat) "KeptLump$Shelf" "elements" "[I") ∈ kv_gw := List.mem_filter.mpr ⟨kv_tb1 (List.mem_of_getElem? (i := 232) (by decide +kernel)), by decide +kernel⟩
theorem kw_301 : (Jvm.Cond.fieldLink "KeptLump" (184 : Nat) "KeptLump$Shelf" "elements" "[I") ∈ kv_gw := List.mem_filter.mpr ⟨kv_tb1 (List.mem_of_getElem? (i := 233) (by decide +kernel)), by decide +kernel⟩
theorem kw_302 : (Jvm.Cond.fieldLink "KeptLump$Shelf" (15 : Nat) "KeptLump$Shelf" "holds" "I") ∈ kv_gw := List.mem_filter.mpr ⟨kv_tb1 (List.mem_of_getElem? (i := 234) (by decide +kernel)), by decide +kernel⟩
theorem kw_303 : (Jvm.Cond.fieldLink "KeptLump$Shelf" (39 : Nat) "KeptLump$Shelf" "sort" "I") ∈ kv_gw := List.mem_filter.mpr ⟨kv_tb1 (List.mem_of_getElem? (i := 235) (by decide +kernel)), by decide +kernel⟩
theorem kw_304 : (Jvm.Cond.fieldLink "KeptLump" (402 : Nat) "KeptLump$Shelf" "sort" "I") ∈ kv_gw := List.mem_filter.mpr ⟨kv_tb1 (List.mem_of_getElem? (i := 236) (by decide +kernel)), by decide +kernel⟩
theorem kw_305 : (Jvm.Cond.fieldLink "KeptLump$Planner" (31 : Nat) "KeptLump$Shelf" "size" "I") ∈ kv_gw := List.mem_filter.mpr ⟨kv_tb1 (List.mem_of_getElem? (i := 237) (by decide +kernel)), by decide +kernel⟩
theorem kw_306 : (Jvm.Cond.fieldLink "KeptLump$Shelf" (42 : Nat) "KeptLump$Shelf" "size" "I") ∈ kv_gw := List.mem_filter.mpr ⟨kv_tb1 (List.mem_of_getElem? (i := 238) (by decide +kernel)), by decide +kernel⟩
theorem kw_307 : (Jvm.Cond.fieldLink "KeptLump" (174 : Nat) "KeptLump$Shelf" "size" "I") ∈ kv_gw := List.mem_filter.mpr ⟨kv_tb1 (List.mem_of_getElem? (i := 239) (by decide +kernel)), by decide +kernel⟩
theorem kw_308 : (Jvm.Cond.fieldLink "KeptLump$Shelf" (19 : Nat) "KeptLump$Shelf" "number" "I") ∈ kv_gw := List.mem_filter.mpr ⟨kv_tb2 (List.mem_of_getElem? (i := 0) (by decide +kernel)), by decide +kernel⟩
theorem kw_310 : (Jvm.Cond.fieldLink "KeptLump$Shelf" (27 : Nat) "KeptLump$Shelf" "kind" "I") ∈ kv_gw := List.mem_filter.mpr ⟨kv_tb2 (List.mem_of_getElem? (i := 2) (by decide +kernel)), by decide +kernel⟩
theorem kw_312 : (Jvm.Cond.fieldLink "KeptLump$Shelf" (32 : Nat) "KeptLump$Shelf" "land" "I") ∈ kv_gw := List.mem_filter.mpr ⟨kv_tb2 (List.mem_of_getElem? (i := 4) (by decide +kernel)), by decide +kernel⟩
theorem kw_314 : (Jvm.Cond.fieldLink "KeptLump$Shelf" (37 : Nat) "KeptLump$Shelf" "rate" "I") ∈ kv_gw := List.mem_filter.mpr ⟨kv_tb2 (List.mem_of_getElem? (i := 6) (by decide +kernel)), by decide +kernel⟩
theorem kw_316 : (Jvm.Cond.laysFinal "KeptLump$Shelf" "KeptLump$Shelf" "elements" "[I") ∈ kv_gw := List.mem_filter.mpr ⟨kv_tb2 (List.mem_of_getElem? (i := 8) (by decide +kernel)), by decide +kernel⟩
theorem kw_318 : (Jvm.Cond.lays "KeptLump$Shelf" "KeptLump$Shelf" "holds" "I") ∈ kv_gw := List.mem_filter.mpr ⟨kv_tb2 (List.mem_of_getElem? (i := 10) (by decide +kernel)), by decide +kernel⟩
theorem kw_320 : (Jvm.Cond.lays "KeptLump$Shelf" "KeptLump$Shelf" "sort" "I") ∈ kv_gw := List.mem_filter.mpr ⟨kv_tb2 (List.mem_of_getElem? (i := 12) (by decide +kernel)), by decide +kernel⟩
theorem kw_322 : (Jvm.Cond.lays "KeptLump$Shelf" "KeptLump$Shelf" "size" "I") ∈ kv_gw := List.mem_filter.mpr ⟨kv_tb2 (List.mem_of_getElem? (i := 14) (by decide +kernel)), by decide +kernel⟩
theorem kw_324 : (Jvm.Cond.lays "KeptLump$Shelf" "KeptLump$Shelf" "number" "I") ∈ kv_gw := List.mem_filter.mpr ⟨kv_tb2 (List.mem_of_getElem? (i := 16) (by decide +kernel)), by decide +kernel⟩
theorem kw_326 : (Jvm.Cond.lays "KeptLump$Shelf" "KeptLump$Shelf" "kind" "I") ∈ kv_gw := List.mem_filter.mpr ⟨kv_tb2 (List.mem_of_getElem? (i := 18) (by decide +kernel)), by decide +kernel⟩
theorem kw_328 : (Jvm.Cond.lays "KeptLump$Shelf" "KeptLump$Shelf" "land" "I") ∈ kv_gw := List.mem_filter.mpr ⟨kv_tb2 (List.mem_of_getElem? (i := 20) (by decide +kernel)), by decide +kernel⟩
theorem kw_330 : (Jvm.Cond.lays "KeptLump$Shelf" "KeptLump$Shelf" "rate" "I") ∈ kv_gw := List.mem_filter.mpr ⟨kv_tb2 (List.mem_of_getElem? (i := 22) (by decide +kernel)), by decide +kernel⟩
theorem kw_339 : (Jvm.Cond.fieldLink "KeptLump$Net" (11 : Nat) "KeptLump$Net" "from" "[I") ∈ kv_gw := List.mem_filter.mpr ⟨kv_tb2 (List.mem_of_getElem? (i := 31) (by decide +kernel)), by decide +kernel⟩
theorem kw_340 : (Jvm.Cond.fieldLink "KeptLump$Net" (15 : Nat) "KeptLump$Net" "to" "[I") ∈ kv_gw := List.mem_filter.mpr ⟨kv_tb2 (List.mem_of_getElem? (i := 32) (by decide +kernel)), by decide +kernel⟩
theorem kw_341 : (Jvm.Cond.fieldLink "KeptLump$Net" (18 : Nat) "KeptLump$Net" "length" "[I") ∈ kv_gw := List.mem_filter.mpr ⟨kv_tb2 (List.mem_of_getElem? (i := 33) (by decide +kernel)), by decide +kernel⟩
theorem kw_342 : (Jvm.Cond.fieldLink "KeptLump$Net" (21 : Nat) "KeptLump$Net" "reach" "[I") ∈ kv_gw := List.mem_filter.mpr ⟨kv_tb2 (List.mem_of_getElem? (i := 34) (by decide +kernel)), by decide +kernel⟩
theorem kw_343 : (Jvm.Cond.fieldLink "KeptLump$Net" (24 : Nat) "KeptLump$Net" "knots" "I") ∈ kv_gw := List.mem_filter.mpr ⟨kv_tb2 (List.mem_of_getElem? (i := 35) (by decide +kernel)), by decide +kernel⟩
theorem kw_344 : (Jvm.Cond.fieldLink "KeptLump$Net" (28 : Nat) "KeptLump$Net" "edges" "I") ∈ kv_gw := List.mem_filter.mpr ⟨kv_tb2 (List.mem_of_getElem? (i := 36) (by decide +kernel)), by decide +kernel⟩
theorem kw_345 : (Jvm.Cond.fieldLink "KeptLump" (252 : Nat) "KeptLump$Net" "edges" "I") ∈ kv_gw := List.mem_filter.mpr ⟨kv_tb2 (List.mem_of_getElem? (i := 37) (by decide +kernel)), by decide +kernel⟩
theorem kw_346 : (Jvm.Cond.laysFinal "KeptLump$Net" "KeptLump$Net" "from" "[I") ∈ kv_gw := List.mem_filter.mpr ⟨kv_tb2 (List.mem_of_getElem? (i := 38) (by decide +kernel)), by decide +kernel⟩
theorem kw_348 : (Jvm.Cond.laysFinal "KeptLump$Net" "KeptLump$Net" "to" "[I") ∈ kv_gw := List.mem_filter.mpr ⟨kv_tb2 (List.mem_of_getElem? (i := 40) (by decide +kernel)), by decide +kernel⟩
theorem kw_350 : (Jvm.Cond.laysFinal "KeptLump$Net" "KeptLump$Net" "length" "[I") ∈ kv_gw := List.mem_filter.mpr ⟨kv_tb2 (List.mem_of_getElem? (i := 42) (by decide +kernel)), by decide +kernel⟩
theorem kw_352 : (Jvm.Cond.laysFinal "KeptLump$Net" "KeptLump$Net" "reach" "[I") ∈ kv_gw := List.mem_filter.mpr ⟨kv_tb2 (List.mem_of_getElem? (i := 44) (by decide +kernel)), by decide +kernel⟩
theorem kw_354 : (Jvm.Cond.lays "KeptLump$Net" "KeptLump$Net" "knots" "I") ∈ kv_gw := List.mem_filter.mpr ⟨kv_tb2 (List.mem_of_getElem? (i := 46) (by decide +kernel)), by decide +kernel⟩
theorem kw_356 : (Jvm.Cond.lays "KeptLump$Net" "KeptLump$Net" "edges" "I") ∈ kv_gw := List.mem_filter.mpr ⟨kv_tb2 (List.mem_of_getElem? (i := 48) (by decide +kernel)), by decide +kernel⟩
theorem kw_365 : (Jvm.Cond.fieldLink "KeptLump$LongNet" (11 : Nat) "KeptLump$LongNet" "keys" "[I") ∈ kv_gw := List.mem_filter.mpr ⟨kv_tb2 (List.mem_of_getElem? (i := 57) (by decide +kernel)), by decide +kernel⟩
theorem kw_366 : (Jvm.Cond.fieldLink "KeptLump$LongNet" (17 : Nat) "KeptLump$LongNet" "many" "I") ∈ kv_gw := List.mem_filter.mpr ⟨kv_tb2 (List.mem_of_getElem? (i := 58) (by decide +kernel)), by decide +kernel⟩
theorem kw_367 : (Jvm.Cond.fieldLink "KeptLump$LongNet" (21 : Nat) "KeptLump$LongNet" "leftOut" "I") ∈ kv_gw := List.mem_filter.mpr ⟨kv_tb2 (List.mem_of_getElem? (i := 59) (by decide +kernel)), by decide +kernel⟩
theorem kw_368 : (Jvm.Cond.fieldLink "KeptLump" (447 : Nat) "KeptLump$LongNet" "leftOut" "I") ∈ kv_gw := List.mem_filter.mpr ⟨kv_tb2 (List.mem_of_getElem? (i := 60) (by decide +kernel)), by decide +kernel⟩
theorem kw_369 : (Jvm.Cond.fieldLink "KeptLump$LongNet" (28 : Nat) "KeptLump$LongNet" "swapYear" "I") ∈ kv_gw := List.mem_filter.mpr ⟨kv_tb2 (List.mem_of_getElem? (i := 61) (by decide +kernel)), by decide +kernel⟩
theorem kw_370 : (Jvm.Cond.fieldLink "KeptLump$LongNet" (31 : Nat) "KeptLump$LongNet" "swapA" "I") ∈ kv_gw := List.mem_filter.mpr ⟨kv_tb2 (List.mem_of_getElem? (i := 62) (by decide +kernel)), by decide +kernel⟩
theorem kw_371 : (Jvm.Cond.fieldLink "KeptLump$LongNet" (34 : Nat) "KeptLump$LongNet" "swapB" "I") ∈ kv_gw := List.mem_filter.mpr ⟨kv_tb2 (List.mem_of_getElem? (i := 63) (by decide +kernel)), by decide +kernel⟩
theorem kw_372 : (Jvm.Cond.laysFinal "KeptLump$LongNet" "KeptLump$LongNet" "keys" "[I") ∈ kv_gw := List.mem_filter.mpr ⟨kv_tb2 (List.mem_of_getElem? (i := 64) (by decide +kernel)), by decide +kernel⟩
theorem kw_374 : (Jvm.Cond.lays "KeptLump$LongNet" "KeptLump$LongNet" "many" "I") ∈ kv_gw := List.mem_filter.mpr ⟨kv_tb2 (List.mem_of_getElem? (i := 66) (by decide +kernel)), by decide +kernel⟩
theorem kw_376 : (Jvm.Cond.lays "KeptLump$LongNet" "KeptLump$LongNet" "leftOut" "I") ∈ kv_gw := List.mem_filter.mpr ⟨kv_tb2 (List.mem_of_getElem? (i := 68) (by decide +kernel)), by decide +kernel⟩
theorem kw_378 : (Jvm.Cond.lays "KeptLump$LongNet" "KeptLump$LongNet" "swapYear" "I") ∈ kv_gw := List.mem_filter.mpr ⟨kv_tb2 (List.mem_of_getElem? (i := 70) (by decide +kernel)), by decide +kernel⟩
theorem kw_380 : (Jvm.Cond.lays "KeptLump$LongNet" "KeptLump$LongNet" "swapA" "I") ∈ kv_gw := List.mem_filter.mpr ⟨kv_tb2 (List.mem_of_getElem? (i := 72) (by decide +kernel)), by decide +kernel⟩
theorem kw_382 : (Jvm.Cond.lays "KeptLump$LongNet" "KeptLump$LongNet" "swapB" "I") ∈ kv_gw := List.mem_filter.mpr ⟨kv_tb2 (List.mem_of_getElem? (i := 74) (by decide +kernel)), by decide +kernel⟩
theorem kw_391 : (Jvm.Cond.fieldLink "KeptLump$Reader" (9 : Nat) "KeptLump$Reader" "text" "[I") ∈ kv_gw := List.mem_filter.mpr ⟨kv_tb2 (List.mem_of_getElem? (i := 83) (by decide +kernel)), by decide +kernel⟩
theorem kw_392 : (Jvm.Cond.fieldLink "KeptLump$Reader" (29 : Nat) "KeptLump$Reader" "size" "I") ∈ kv_gw := List.mem_filter.mpr ⟨kv_tb2 (List.mem_of_getElem? (i := 84) (by decide +kernel)), by decide +kernel⟩
theorem kw_393 : (Jvm.Cond.fieldLink "KeptLump$Reader" (26 : Nat) "KeptLump$Reader" "place" "I") ∈ kv_gw := List.mem_filter.mpr ⟨kv_tb2 (List.mem_of_getElem? (i := 85) (by decide +kernel)), by decide +kernel⟩
theorem kw_394 : (Jvm.Cond.fieldLink "KeptLump$Reader" (22 : Nat) "KeptLump$Reader" "fault" "I") ∈ kv_gw := List.mem_filter.mpr ⟨kv_tb2 (List.mem_of_getElem? (i := 86) (by decide +kernel)), by decide +kernel⟩
theorem kw_395 : (Jvm.Cond.fieldLink "KeptLump$Reader" (41 : Nat) "KeptLump$Reader" "yearFault" "I") ∈ kv_gw := List.mem_filter.mpr ⟨kv_tb2 (List.mem_of_getElem? (i := 87) (by decide +kernel)), by decide +kernel⟩
theorem kw_396 : (Jvm.Cond.fieldLink "KeptLump$Reader" (44 : Nat) "KeptLump$Reader" "statements" "I") ∈ kv_gw := List.mem_filter.mpr ⟨kv_tb2 (List.mem_of_getElem? (i := 88) (by decide +kernel)), by decide +kernel⟩
theorem kw_397 : (Jvm.Cond.fieldLink "KeptLump" (279 : Nat) "KeptLump$Reader" "statements" "I") ∈ kv_gw := List.mem_filter.mpr ⟨kv_tb2 (List.mem_of_getElem? (i := 89) (by decide +kernel)), by decide +kernel⟩
theorem kw_398 : (Jvm.Cond.fieldLink "KeptLump$Reader" (52 : Nat) "KeptLump$Reader" "now" "I") ∈ kv_gw := List.mem_filter.mpr ⟨kv_tb2 (List.mem_of_getElem? (i := 90) (by decide +kernel)), by decide +kernel⟩
theorem kw_399 : (Jvm.Cond.fieldLink "KeptLump$Reader" (53 : Nat) "KeptLump$Reader" "heldFrom" "I") ∈ kv_gw := List.mem_filter.mpr ⟨kv_tb2 (List.mem_of_getElem? (i := 91) (by decide +kernel)), by decide +kernel⟩
theorem kw_400 : (Jvm.Cond.fieldLink "KeptLump$Reader" (32 : Nat) "KeptLump$Reader" "held" "I") ∈ kv_gw := List.mem_filter.mpr ⟨kv_tb2 (List.mem_of_getElem? (i := 92) (by decide +kernel)), by decide +kernel⟩
theorem kw_401 : (Jvm.Cond.fieldLink "KeptLump$Reader" (66 : Nat) "KeptLump$Reader" "prime" "I") ∈ kv_gw := List.mem_filter.mpr ⟨kv_tb2 (List.mem_of_getElem? (i := 93) (by decide +kernel)), by decide +kernel⟩
theorem kw_402 : (Jvm.Cond.fieldLink "KeptLump$Reader" (69 : Nat) "KeptLump$Reader" "sisters" "I") ∈ kv_gw := List.mem_filter.mpr ⟨kv_tb2 (List.mem_of_getElem? (i := 94) (by decide +kernel)), by decide +kernel⟩
theorem kw_403 : (Jvm.Cond.fieldLink "KeptLump$Reader" (72 : Nat) "KeptLump$Reader" "others" "I") ∈ kv_gw := List.mem_filter.mpr ⟨kv_tb2 (List.mem_of_getElem? (i := 95) (by decide +kernel)), by decide +kernel⟩
theorem kw_404 : (Jvm.Cond.fieldLink "KeptLump$Reader" (75 : Nat) "KeptLump$Reader" "copies" "I") ∈ kv_gw := List.mem_filter.mpr ⟨kv_tb2 (List.mem_of_getElem? (i := 96) (by decide +kernel)), by decide +kernel⟩
theorem kw_405 : (Jvm.Cond.laysFinal "KeptLump$Reader" "KeptLump$Reader" "text" "[I") ∈ kv_gw := List.mem_filter.mpr ⟨kv_tb2 (List.mem_of_getElem? (i := 97) (by decide +kernel)), by decide +kernel⟩
theorem kw_407 : (Jvm.Cond.lays "KeptLump$Reader" "KeptLump$Reader" "size" "I") ∈ kv_gw := List.mem_filter.mpr ⟨kv_tb2 (List.mem_of_getElem? (i := 99) (by decide +kernel)), by decide +kernel⟩
theorem kw_409 : (Jvm.Cond.lays "KeptLump$Reader" "KeptLump$Reader" "place" "I") ∈ kv_gw := List.mem_filter.mpr ⟨kv_tb2 (List.mem_of_getElem? (i := 101) (by decide +kernel)), by decide +kernel⟩
theorem kw_411 : (Jvm.Cond.lays "KeptLump$Reader" "KeptLump$Reader" "fault" "I") ∈ kv_gw := List.mem_filter.mpr ⟨kv_tb2 (List.mem_of_getElem? (i := 103) (by decide +kernel)), by decide +kernel⟩
theorem kw_413 : (Jvm.Cond.lays "KeptLump$Reader" "KeptLump$Reader" "yearFault" "I") ∈ kv_gw := List.mem_filter.mpr ⟨kv_tb2 (List.mem_of_getElem? (i := 105) (by decide +kernel)), by decide +kernel⟩
theorem kw_415 : (Jvm.Cond.lays "KeptLump$Reader" "KeptLump$Reader" "statements" "I") ∈ kv_gw := List.mem_filter.mpr ⟨kv_tb2 (List.mem_of_getElem? (i := 107) (by decide +kernel)), by decide +kernel⟩
theorem kw_417 : (Jvm.Cond.lays "KeptLump$Reader" "KeptLump$Reader" "now" "I") ∈ kv_gw := List.mem_filter.mpr ⟨kv_tb2 (List.mem_of_getElem? (i := 109) (by decide +kernel)), by decide +kernel⟩
theorem kw_419 : (Jvm.Cond.lays "KeptLump$Reader" "KeptLump$Reader" "heldFrom" "I") ∈ kv_gw := List.mem_filter.mpr ⟨kv_tb2 (List.mem_of_getElem? (i := 111) (by decide +kernel)), by decide +kernel⟩
theorem kw_421 : (Jvm.Cond.lays "KeptLump$Reader" "KeptLump$Reader" "held" "I") ∈ kv_gw := List.mem_filter.mpr ⟨kv_tb2 (List.mem_of_getElem? (i := 113) (by decide +kernel)), by decide +kernel⟩
theorem kw_423 : (Jvm.Cond.lays "KeptLump$Reader" "KeptLump$Reader" "prime" "I") ∈ kv_gw := List.mem_filter.mpr ⟨kv_tb2 (List.mem_of_getElem? (i := 115) (by decide +kernel)), by decide +kernel⟩
theorem kw_425 : (Jvm.Cond.lays "KeptLump$Reader" "KeptLump$Reader" "sisters" "I") ∈ kv_gw := List.mem_filter.mpr ⟨kv_tb2 (List.mem_of_getElem? (i := 117) (by decide +kernel)), by decide +kernel⟩
theorem kw_427 : (Jvm.Cond.lays "KeptLump$Reader" "KeptLump$Reader" "others" "I") ∈ kv_gw := List.mem_filter.mpr ⟨kv_tb2 (List.mem_of_getElem? (i := 119) (by decide +kernel)), by decide +kernel⟩
theorem kw_429 : (Jvm.Cond.lays "KeptLump$Reader" "KeptLump$Reader" "copies" "I") ∈ kv_gw := List.mem_filter.mpr ⟨kv_tb2 (List.mem_of_getElem? (i := 121) (by decide +kernel)), by decide +kernel⟩
theorem kw_438 : (Jvm.Cond.fieldLink "KeptLump$Planner" (9 : Nat) "KeptLump$Planner" "known" "[I") ∈ kv_gw := List.mem_filter.mpr ⟨kv_tb2 (List.mem_of_getElem? (i := 130) (by decide +kernel)), by decide +kernel⟩
theorem kw_439 : (Jvm.Cond.fieldLink "KeptLump$Planner" (15 : Nat) "KeptLump$Planner" "tried" "[I") ∈ kv_gw := List.mem_filter.mpr ⟨kv_tb2 (List.mem_of_getElem? (i := 131) (by decide +kernel)), by decide +kernel⟩
theorem kw_440 : (Jvm.Cond.fieldLink "KeptLump$Planner" (18 : Nat) "KeptLump$Planner" "first" "[I") ∈ kv_gw := List.mem_filter.mpr ⟨kv_tb2 (List.mem_of_getElem? (i := 132) (by decide +kernel)), by decide +kernel⟩
theorem kw_441 : (Jvm.Cond.fieldLink "KeptLump$Planner" (21 : Nat) "KeptLump$Planner" "second" "[I") ∈ kv_gw := List.mem_filter.mpr ⟨kv_tb2 (List.mem_of_getElem? (i := 133) (by decide +kernel)), by decide +kernel⟩
theorem kw_442 : (Jvm.Cond.fieldLink "KeptLump$Planner" (24 : Nat) "KeptLump$Planner" "answer" "[I") ∈ kv_gw := List.mem_filter.mpr ⟨kv_tb2 (List.mem_of_getElem? (i := 134) (by decide +kernel)), by decide +kernel⟩
theorem kw_443 : (Jvm.Cond.fieldLink "KeptLump$Planner" (27 : Nat) "KeptLump$Planner" "isTouching" "[Z") ∈ kv_gw := List.mem_filter.mpr ⟨kv_tb2 (List.mem_of_getElem? (i := 135) (by decide +kernel)), by decide +kernel⟩
theorem kw_444 : (Jvm.Cond.fieldLink "KeptLump$Planner" (43 : Nat) "KeptLump$Planner" "pairs" "I") ∈ kv_gw := List.mem_filter.mpr ⟨kv_tb2 (List.mem_of_getElem? (i := 136) (by decide +kernel)), by decide +kernel⟩
theorem kw_445 : (Jvm.Cond.fieldLink "KeptLump$Planner" (51 : Nat) "KeptLump$Planner" "lumps" "I") ∈ kv_gw := List.mem_filter.mpr ⟨kv_tb2 (List.mem_of_getElem? (i := 137) (by decide +kernel)), by decide +kernel⟩
theorem kw_446 : (Jvm.Cond.fieldLink "KeptLump$Planner" (54 : Nat) "KeptLump$Planner" "doubt" "I") ∈ kv_gw := List.mem_filter.mpr ⟨kv_tb2 (List.mem_of_getElem? (i := 138) (by decide +kernel)), by decide +kernel⟩
theorem kw_447 : (Jvm.Cond.fieldLink "KeptLump$Planner" (57 : Nat) "KeptLump$Planner" "mostTouching" "I") ∈ kv_gw := List.mem_filter.mpr ⟨kv_tb2 (List.mem_of_getElem? (i := 139) (by decide +kernel)), by decide +kernel⟩
theorem kw_448 : (Jvm.Cond.fieldLink "KeptLump$Planner" (113 : Nat) "KeptLump$Planner" "bestSum" "I") ∈ kv_gw := List.mem_filter.mpr ⟨kv_tb2 (List.mem_of_getElem? (i := 140) (by decide +kernel)), by decide +kernel⟩
theorem kw_449 : (Jvm.Cond.fieldLink "KeptLump" (350 : Nat) "KeptLump$Planner" "bestSum" "I") ∈ kv_gw := List.mem_filter.mpr ⟨kv_tb2 (List.mem_of_getElem? (i := 141) (by decide +kernel)), by decide +kernel⟩
theorem kw_450 : (Jvm.Cond.fieldLink "KeptLump$Planner" (116 : Nat) "KeptLump$Planner" "bestMany" "I") ∈ kv_gw := List.mem_filter.mpr ⟨kv_tb2 (List.mem_of_getElem? (i := 142) (by decide +kernel)), by decide +kernel⟩
theorem kw_451 : (Jvm.Cond.fieldLink "KeptLump$Planner" (119 : Nat) "KeptLump$Planner" "bestBits" "I") ∈ kv_gw := List.mem_filter.mpr ⟨kv_tb2 (List.mem_of_getElem? (i := 143) (by decide +kernel)), by decide +kernel⟩
theorem kw_452 : (Jvm.Cond.fieldLink "KeptLump" (347 : Nat) "KeptLump$Planner" "bestBits" "I") ∈ kv_gw := List.mem_filter.mpr ⟨kv_tb2 (List.mem_of_getElem? (i := 144) (by decide +kernel)), by decide +kernel⟩
theorem kw_453 : (Jvm.Cond.laysFinal "KeptLump$Planner" "KeptLump$Planner" "known" "[I") ∈ kv_gw := List.mem_filter.mpr ⟨kv_tb2 (List.mem_of_getElem? (i := 145) (by decide +kernel)), by decide +kernel⟩
theorem kw_455 : (Jvm.Cond.laysFinal "KeptLump$Planner" "KeptLump$Planner" "tried" "[I") ∈ kv_gw := List.mem_filter.mpr ⟨kv_tb2 (List.mem_of_getElem? (i := 147) (by decide +kernel)), by decide +kernel⟩
theorem kw_457 : (Jvm.Cond.laysFinal "KeptLump$Planner" "KeptLump$Planner" "first" "[I") ∈ kv_gw := List.mem_filter.mpr ⟨kv_tb2 (List.mem_of_getElem? (i := 149) (by decide +kernel)), by decide +kernel⟩
theorem kw_459 : (Jvm.Cond.laysFinal "KeptLump$Planner" "KeptLump$Planner" "second" "[I") ∈ kv_gw := List.mem_filter.mpr ⟨kv_tb2 (List.mem_of_getElem? (i := 151) (by decide +kernel)), by decide +kernel⟩
theorem kw_461 : (Jvm.Cond.laysFinal "KeptLump$Planner" "KeptLump$Planner" "answer" "[I") ∈ kv_gw := List.mem_filter.mpr ⟨kv_tb2 (List.mem_of_getElem? (i := 153) (by decide +kernel)), by decide +kernel⟩
theorem kw_463 : (Jvm.Cond.laysFinal "KeptLump$Planner" "KeptLump$Planner" "isTouching" "[Z") ∈ kv_gw := List.mem_filter.mpr ⟨kv_tb2 (List.mem_of_getElem? (i := 155) (by decide +kernel)), by decide +kernel⟩
theorem kw_465 : (Jvm.Cond.lays "KeptLump$Planner" "KeptLump$Planner" "pairs" "I") ∈ kv_gw := List.mem_filter.mpr ⟨kv_tb2 (List.mem_of_getElem? (i := 157) (by decide +kernel)), by decide +kernel⟩
theorem kw_467 : (Jvm.Cond.lays "KeptLump$Planner" "KeptLump$Planner" "lumps" "I") ∈ kv_gw := List.mem_filter.mpr ⟨kv_tb2 (List.mem_of_getElem? (i := 159) (by decide +kernel)), by decide +kernel⟩
theorem kw_469 : (Jvm.Cond.lays "KeptLump$Planner" "KeptLump$Planner" "doubt" "I") ∈ kv_gw := List.mem_filter.mpr ⟨kv_tb2 (List.mem_of_getElem? (i := 161) (by decide +kernel)), by decide +kernel⟩
theorem kw_471 : (Jvm.Cond.lays "KeptLump$Planner" "KeptLump$Planner" "mostTouching" "I") ∈ kv_gw := List.mem_filter.mpr ⟨kv_tb2 (List.mem_of_getElem? (i := 163) (by decide +kernel)), by decide +kernel⟩
theorem kw_473 : (Jvm.Cond.lays "KeptLump$Planner" "KeptLump$Planner" "bestSum" "I") ∈ kv_gw := List.mem_filter.mpr ⟨kv_tb2 (List.mem_of_getElem? (i := 165) (by decide +kernel)), by decide +kernel⟩
theorem kw_475 : (Jvm.Cond.lays "KeptLump$Planner" "KeptLump$Planner" "bestMany" "I") ∈ kv_gw := List.mem_filter.mpr ⟨kv_tb2 (List.mem_of_getElem? (i := 167) (by decide +kernel)), by decide +kernel⟩
theorem kw_477 : (Jvm.Cond.lays "KeptLump$Planner" "KeptLump$Planner" "bestBits" "I") ∈ kv_gw := List.mem_filter.mpr ⟨kv_tb2 (List.mem_of_getElem? (i := 169) (by decide +kernel)), by decide +kernel⟩
theorem kw_480 : (Jvm.Cond.fieldLink "KeptLump" (10 : Nat) "KeptLump" "state" "LKeptLump$State;") ∈ kv_gw := List.mem_filter.mpr ⟨kv_tb2 (List.mem_of_getElem? (i := 172) (by decide +kernel)), by decide +kernel⟩
theorem kw_481 : (Jvm.Cond.fieldLink "KeptLump" (16 : Nat) "KeptLump" "pictured" "LKeptLump$State;") ∈ kv_gw := List.mem_filter.mpr ⟨kv_tb2 (List.mem_of_getElem? (i := 173) (by decide +kernel)), by decide +kernel⟩
theorem kw_482 : (Jvm.Cond.fieldLink "KeptLump" (357 : Nat) "KeptLump" "isPictured" "Z") ∈ kv_gw := List.mem_filter.mpr ⟨kv_tb2 (List.mem_of_getElem? (i := 174) (by decide +kernel)), by decide +kernel⟩
theorem kw_483 : (Jvm.Cond.fieldLink "KeptLump" (21 : Nat) "KeptLump" "shelves" "[LKeptLump$Shelf;") ∈ kv_gw := List.mem_filter.mpr ⟨kv_tb2 (List.mem_of_getElem? (i := 175) (by decide +kernel)), by decide +kernel⟩
theorem kw_484 : (Jvm.Cond.fieldLink "KeptLump" (29 : Nat) "KeptLump" "net" "LKeptLump$Net;") ∈ kv_gw := List.mem_filter.mpr ⟨kv_tb2 (List.mem_of_getElem? (i := 176) (by decide +kernel)), by decide +kernel⟩
theorem kw_485 : (Jvm.Cond.fieldLink "KeptLump" (36 : Nat) "KeptLump" "longNet" "LKeptLump$LongNet;") ∈ kv_gw := List.mem_filter.mpr ⟨kv_tb2 (List.mem_of_getElem? (i := 177) (by decide +kernel)), by decide +kernel⟩
theorem kw_486 : (Jvm.Cond.fieldLink "KeptLump" (43 : Nat) "KeptLump" "reader" "LKeptLump$Reader;") ∈ kv_gw := List.mem_filter.mpr ⟨kv_tb2 (List.mem_of_getElem? (i := 178) (by decide +kernel)), by decide +kernel⟩
theorem kw_487 : (Jvm.Cond.fieldLink "KeptLump" (50 : Nat) "KeptLump" "planner" "LKeptLump$Planner;") ∈ kv_gw := List.mem_filter.mpr ⟨kv_tb2 (List.mem_of_getElem? (i := 179) (by decide +kernel)), by decide +kernel⟩
theorem kw_489 : (Jvm.Cond.laysFinal "KeptLump" "KeptLump" "state" "LKeptLump$State;") ∈ kv_gw := List.mem_filter.mpr ⟨kv_tb2 (List.mem_of_getElem? (i := 181) (by decide +kernel)), by decide +kernel⟩
theorem kw_491 : (Jvm.Cond.laysFinal "KeptLump" "KeptLump" "pictured" "LKeptLump$State;") ∈ kv_gw := List.mem_filter.mpr ⟨kv_tb2 (List.mem_of_getElem? (i := 183) (by decide +kernel)), by decide +kernel⟩
theorem kw_493 : (Jvm.Cond.lays "KeptLump" "KeptLump" "isPictured" "Z") ∈ kv_gw := List.mem_filter.mpr ⟨kv_tb2 (List.mem_of_getElem? (i := 185) (by decide +kernel)), by decide +kernel⟩
theorem kw_495 : (Jvm.Cond.laysFinal "KeptLump" "KeptLump" "shelves" "[LKeptLump$Shelf;") ∈ kv_gw := List.mem_filter.mpr ⟨kv_tb2 (List.mem_of_getElem? (i := 187) (by decide +kernel)), by decide +kernel⟩
theorem kw_497 : (Jvm.Cond.laysFinal "KeptLump" "KeptLump" "net" "LKeptLump$Net;") ∈ kv_gw := List.mem_filter.mpr ⟨kv_tb2 (List.mem_of_getElem? (i := 189) (by decide +kernel)), by decide +kernel⟩
theorem kw_499 : (Jvm.Cond.laysFinal "KeptLump" "KeptLump" "longNet" "LKeptLump$LongNet;") ∈ kv_gw := List.mem_filter.mpr ⟨kv_tb2 (List.mem_of_getElem? (i := 191) (by decide +kernel)), by decide +kernel⟩
theorem kw_501 : (Jvm.Cond.laysFinal "KeptLump" "KeptLump" "reader" "LKeptLump$Reader;") ∈ kv_gw := List.mem_filter.mpr ⟨kv_tb2 (List.mem_of_getElem? (i := 193) (by decide +kernel)), by decide +kernel⟩
theorem kw_503 : (Jvm.Cond.laysFinal "KeptLump" "KeptLump" "planner" "LKeptLump$Planner;") ∈ kv_gw := List.mem_filter.mpr ⟨kv_tb2 (List.mem_of_getElem? (i := 195) (by decide +kernel)), by decide +kernel⟩
theorem kw_505 : (Jvm.Cond.lays "KeptLump" "KeptLump" "failure" "I") ∈ kv_gw := List.mem_filter.mpr ⟨kv_tb2 (List.mem_of_getElem? (i := 197) (by decide +kernel)), by decide +kernel⟩
theorem kw_512 : (Jvm.Cond.methodLink "KeptLump" (54 : Nat) ({ cls := "KeptLump", name := "isWithin", desc := "(III)Z" } : Jvm.MethodName)) ∈ kv_gw := List.mem_filter.mpr ⟨kv_tb2 (List.mem_of_getElem? (i := 204) (by decide +kernel)), by decide +kernel⟩
theorem kw_513 : (Jvm.Cond.static ({ cls := "KeptLump", name := "isWithin", desc := "(III)Z" } : Jvm.MethodName)) ∈ kv_gw := List.mem_filter.mpr ⟨kv_tb2 (List.mem_of_getElem? (i := 205) (by decide +kernel)), by decide +kernel⟩
theorem kw_514 : (Jvm.Cond.code ({ cls := "KeptLump", name := "isWithin", desc := "(III)Z" } : Jvm.MethodName) prog_1_method_40_code (3 : Nat) (Option.some Jvm.ClassFile.FieldType.boolean)) ∈ kv_gw := List.mem_filter.mpr ⟨kv_tb2 (List.mem_of_getElem? (i := 206) (by decide +kernel)), by decide +kernel⟩
theorem kw_515 : (Jvm.Cond.methodLink "KeptLump" (68 : Nat) ({ cls := "KeptLump$Lumps", name := "primeAt", desc := "()I" } : Jvm.MethodName)) ∈ kv_gw := List.mem_filter.mpr ⟨kv_tb2 (List.mem_of_getElem? (i := 207) (by decide +kernel)), by decide +kernel⟩
theorem kw_516 : (Jvm.Cond.instanceMethod ({ cls := "KeptLump$Lumps", name := "primeAt", desc := "()I" } : Jvm.MethodName)) ∈ kv_gw := List.mem_filter.mpr ⟨kv_tb2 (List.mem_of_getElem? (i := 208) (by decide +kernel)), by decide +kernel⟩
theorem kw_517 : (Jvm.Cond.selects "KeptLump$Lumps" ({ cls := "KeptLump$Lumps", name := "primeAt", desc := "()I" } : Jvm.MethodName) ({ cls := "KeptLump$Lumps", name := "primeAt", desc := "()I" } : Jvm.MethodName)) ∈ kv_gw := List.mem_filter.mpr ⟨kv_tb2 (List.mem_of_getElem? (i := 209) (by decide +kernel)), by decide +kernel⟩
theorem kw_518 : (Jvm.Cond.code ({ cls := "KeptLump$Lumps", name := "primeAt", desc := "()I" } : Jvm.MethodName) prog_5_method_5_code (2 : Nat) (Option.some Jvm.ClassFile.FieldType.int)) ∈ kv_gw := List.mem_filter.mpr ⟨kv_tb2 (List.mem_of_getElem? (i := 210) (by decide +kernel)), by decide +kernel⟩
theorem kw_519 : (Jvm.Cond.methodLink "KeptLump" (72 : Nat) ({ cls := "KeptLump$Lumps", name := "add", desc := "(IIII)I" } : Jvm.MethodName)) ∈ kv_gw := List.mem_filter.mpr ⟨kv_tb2 (List.mem_of_getElem? (i := 211) (by decide +kernel)), by decide +kernel⟩
theorem kw_520 : (Jvm.Cond.instanceMethod ({ cls := "KeptLump$Lumps", name := "add", desc := "(IIII)I" } : Jvm.MethodName)) ∈ kv_gw := List.mem_filter.mpr ⟨kv_tb2 (List.mem_of_getElem? (i := 212) (by decide +kernel)), by decide +kernel⟩
theorem kw_521 : (Jvm.Cond.selects "KeptLump$Lumps" ({ cls := "KeptLump$Lumps", name := "add", desc := "(IIII)I" } : Jvm.MethodName) ({ cls := "KeptLump$Lumps", name := "add", desc := "(IIII)I" } : Jvm.MethodName)) ∈ kv_gw := List.mem_filter.mpr ⟨kv_tb2 (List.mem_of_getElem? (i := 213) (by decide +kernel)), by decide +kernel⟩
theorem kw_522 : (Jvm.Cond.code ({ cls := "KeptLump$Lumps", name := "add", desc := "(IIII)I" } : Jvm.MethodName) prog_5_method_4_code (6 : Nat) (Option.some Jvm.ClassFile.FieldType.int)) ∈ kv_gw := List.mem_filter.mpr ⟨kv_tb2 (List.mem_of_getElem? (i := 214) (by decide +kernel)), by decide +kernel⟩
theorem kw_527 : (Jvm.Cond.methodLink "KeptLump" (80 : Nat) ({ cls := "KeptLump", name := "exchange", desc := "([III)I" } : Jvm.MethodName)) ∈ kv_gw := List.mem_filter.mpr ⟨kv_tb2 (List.mem_of_getElem? (i := 219) (by decide +kernel)), by decide +kernel⟩
theorem kw_528 : (Jvm.Cond.static ({ cls := "KeptLump", name := "exchange", desc := "([III)I" } : Jvm.MethodName)) ∈ kv_gw := List.mem_filter.mpr ⟨kv_tb2 (List.mem_of_getElem? (i := 220) (by decide +kernel)), by decide +kernel⟩
theorem kw_529 : (Jvm.Cond.code ({ cls := "KeptLump", name := "exchange", desc := "([III)I" } : Jvm.MethodName) prog_1_method_45_code (4 : Nat) (Option.some Jvm.ClassFile.FieldType.int)) ∈ kv_gw := List.mem_filter.mpr ⟨kv_tb2 (List.mem_of_getElem? (i := 221) (by decide +kernel)), by decide +kernel⟩
theorem kw_530 : (Jvm.Cond.constant "KeptLump" (84 : Nat) (-1000000001 : Int32)) ∈ kv_gw := List.mem_filter.mpr ⟨kv_tb2 (List.mem_of_getElem? (i := 222) (by decide +kernel)), by decide +kernel⟩
theorem kw_531 : (Jvm.Cond.methodLink "KeptLump" (91 : Nat) ({ cls := "KeptLump$State", name := "exchangeLow", desc := "(I)I" } : Jvm.MethodName)) ∈ kv_gw := List.mem_filter.mpr ⟨kv_tb2 (List.mem_of_getElem? (i := 223) (by decide +kernel)), by decide +kernel⟩
theorem kw_532 : (Jvm.Cond.instanceMethod ({ cls := "KeptLump$State", name := "exchangeLow", desc := "(I)I" } : Jvm.MethodName)) ∈ kv_gw := List.mem_filter.mpr ⟨kv_tb2 (List.mem_of_getElem? (i := 224) (by decide +kernel)), by decide +kernel⟩
theorem kw_533 : (Jvm.Cond.selects "KeptLump$State" ({ cls := "KeptLump$State", name := "exchangeLow", desc := "(I)I" } : Jvm.MethodName) ({ cls := "KeptLump$State", name := "exchangeLow", desc := "(I)I" } : Jvm.MethodName)) ∈ kv_gw := List.mem_filter.mpr ⟨kv_tb2 (List.mem_of_getElem? (i := 225) (by decide +kernel)), by decide +kernel⟩
theorem kw_534 : (Jvm.Cond.code ({ cls := "KeptLump$State", name := "exchangeLow", desc := "(I)I" } : Jvm.MethodName) prog_10_method_2_code (3 : Nat) (Option.some Jvm.ClassFile.FieldType.int)) ∈ kv_gw := List.mem_filter.mpr ⟨kv_tb2 (List.mem_of_getElem? (i := 226) (by decide +kernel)), by decide +kernel⟩
theorem kw_535 : (Jvm.Cond.methodLink "KeptLump" (98 : Nat) ({ cls := "KeptLump$State", name := "exchangeHigh", desc := "(I)I" } : Jvm.MethodName)) ∈ kv_gw := List.mem_filter.mpr ⟨kv_tb2 (List.mem_of_getElem? (i := 227) (by decide +kernel)), by decide +kernel⟩
theorem kw_536 : (Jvm.Cond.instanceMethod ({ cls := "KeptLump$State", name := "exchangeHigh", desc := "(I)I" } : Jvm.MethodName)) ∈ kv_gw := List.mem_filter.mpr ⟨kv_tb2 (List.mem_of_getElem? (i := 228) (by decide +kernel)), by decide +kernel⟩
theorem kw_537 : (Jvm.Cond.selects "KeptLump$State" ({ cls := "KeptLump$State", name := "exchangeHigh", desc := "(I)I" } : Jvm.MethodName) ({ cls := "KeptLump$State", name := "exchangeHigh", desc := "(I)I" } : Jvm.MethodName)) ∈ kv_gw := List.mem_filter.mpr ⟨kv_tb2 (List.mem_of_getElem? (i := 229) (by decide +kernel)), by decide +kernel⟩
theorem kw_538 : (Jvm.Cond.code ({ cls := "KeptLump$State", name := "exchangeHigh", desc := "(I)I" } : Jvm.MethodName) prog_10_method_3_code (3 : Nat) (Option.some Jvm.ClassFile.FieldType.int)) ∈ kv_gw := List.mem_filter.mpr ⟨kv_tb2 (List.mem_of_getElem? (i := 230) (by decide +kernel)), by decide +kernel⟩
theorem kw_543 : (Jvm.Cond.methodLink "KeptLump" (101 : Nat) ({ cls := "KeptLump$Lumps", name := "has", desc := "(I)Z" } : Jvm.MethodName)) ∈ kv_gw := List.mem_filter.mpr ⟨kv_tb2 (List.mem_of_getElem? (i := 235) (by decide +kernel)), by decide +kernel⟩
theorem kw_544 : (Jvm.Cond.instanceMethod ({ cls := "KeptLump$Lumps", name := "has", desc := "(I)Z" } : Jvm.MethodName)) ∈ kv_gw := List.mem_filter.mpr ⟨kv_tb2 (List.mem_of_getElem? (i := 236) (by decide +kernel)), by decide +kernel⟩
theorem kw_545 : (Jvm.Cond.selects "KeptLump$Lumps" ({ cls := "KeptLump$Lumps", name := "has", desc := "(I)Z" } : Jvm.MethodName) ({ cls := "KeptLump$Lumps", name := "has", desc := "(I)Z" } : Jvm.MethodName)) ∈ kv_gw := List.mem_filter.mpr ⟨kv_tb2 (List.mem_of_getElem? (i := 237) (by decide +kernel)), by decide +kernel⟩
theorem kw_546 : (Jvm.Cond.code ({ cls := "KeptLump$Lumps", name := "has", desc := "(I)Z" } : Jvm.MethodName) prog_5_method_2_code (2 : Nat) (Option.some Jvm.ClassFile.FieldType.boolean)) ∈ kv_gw := List.mem_filter.mpr ⟨kv_tb2 (List.mem_of_getElem? (i := 238) (by decide +kernel)), by decide +kernel⟩
theorem kw_547 : (Jvm.Cond.constant "KeptLump" (123 : Nat) (-1000000004 : Int32)) ∈ kv_gw := List.mem_filter.mpr ⟨kv_tb2 (List.mem_of_getElem? (i := 239) (by decide +kernel)), by decide +kernel⟩
theorem kw_552 : (Jvm.Cond.methodLink "KeptLump" (127 : Nat) ({ cls := "KeptLump$Lumps", name := "washOff", desc := "(III)I" } : Jvm.MethodName)) ∈ kv_gw := List.mem_filter.mpr ⟨kv_tb3 (List.mem_of_getElem? (i := 4) (by decide +kernel)), by decide +kernel⟩
theorem kw_553 : (Jvm.Cond.instanceMethod ({ cls := "KeptLump$Lumps", name := "washOff", desc := "(III)I" } : Jvm.MethodName)) ∈ kv_gw := List.mem_filter.mpr ⟨kv_tb3 (List.mem_of_getElem? (i := 5) (by decide +kernel)), by decide +kernel⟩
theorem kw_554 : (Jvm.Cond.selects "KeptLump$Lumps" ({ cls := "KeptLump$Lumps", name := "washOff", desc := "(III)I" } : Jvm.MethodName) ({ cls := "KeptLump$Lumps", name := "washOff", desc := "(III)I" } : Jvm.MethodName)) ∈ kv_gw := List.mem_filter.mpr ⟨kv_tb3 (List.mem_of_getElem? (i := 6) (by decide +kernel)), by decide +kernel⟩
theorem kw_555 : (Jvm.Cond.code ({ cls := "KeptLump$Lumps", name := "washOff", desc := "(III)I" } : Jvm.MethodName) prog_5_method_6_code (4 : Nat) (Option.some Jvm.ClassFile.FieldType.int)) ∈ kv_gw := List.mem_filter.mpr ⟨kv_tb3 (List.mem_of_getElem? (i := 7) (by decide +kernel)), by decide +kernel⟩
theorem kw_560 : (Jvm.Cond.methodLink "KeptLump" (131 : Nat) ({ cls := "KeptLump$Lumps", name := "growAll", desc := "(I)V" } : Jvm.MethodName)) ∈ kv_gw := List.mem_filter.mpr ⟨kv_tb3 (List.mem_of_getElem? (i := 12) (by decide +kernel)), by decide +kernel⟩
theorem kw_561 : (Jvm.Cond.instanceMethod ({ cls := "KeptLump$Lumps", name := "growAll", desc := "(I)V" } : Jvm.MethodName)) ∈ kv_gw := List.mem_filter.mpr ⟨kv_tb3 (List.mem_of_getElem? (i := 13) (by decide +kernel)), by decide +kernel⟩
theorem kw_562 : (Jvm.Cond.selects "KeptLump$Lumps" ({ cls := "KeptLump$Lumps", name := "growAll", desc := "(I)V" } : Jvm.MethodName) ({ cls := "KeptLump$Lumps", name := "growAll", desc := "(I)V" } : Jvm.MethodName)) ∈ kv_gw := List.mem_filter.mpr ⟨kv_tb3 (List.mem_of_getElem? (i := 14) (by decide +kernel)), by decide +kernel⟩
theorem kw_563 : (Jvm.Cond.code ({ cls := "KeptLump$Lumps", name := "growAll", desc := "(I)V" } : Jvm.MethodName) prog_5_method_7_code (3 : Nat) (Option.none : Option Jvm.ClassFile.FieldType)) ∈ kv_gw := List.mem_filter.mpr ⟨kv_tb3 (List.mem_of_getElem? (i := 15) (by decide +kernel)), by decide +kernel⟩
theorem kw_564 : (Jvm.Cond.methodLink "KeptLump$Lumps" (41 : Nat) ({ cls := "KeptLump$Lumps", name := "growth", desc := "(II)I" } : Jvm.MethodName)) ∈ kv_gw := List.mem_filter.mpr ⟨kv_tb3 (List.mem_of_getElem? (i := 16) (by decide +kernel)), by decide +kernel⟩
theorem kw_565 : (Jvm.Cond.instanceMethod ({ cls := "KeptLump$Lumps", name := "growth", desc := "(II)I" } : Jvm.MethodName)) ∈ kv_gw := List.mem_filter.mpr ⟨kv_tb3 (List.mem_of_getElem? (i := 17) (by decide +kernel)), by decide +kernel⟩
theorem kw_566 : (Jvm.Cond.selects "KeptLump$Lumps" ({ cls := "KeptLump$Lumps", name := "growth", desc := "(II)I" } : Jvm.MethodName) ({ cls := "KeptLump$Lumps", name := "growth", desc := "(II)I" } : Jvm.MethodName)) ∈ kv_gw := List.mem_filter.mpr ⟨kv_tb3 (List.mem_of_getElem? (i := 18) (by decide +kernel)), by decide +kernel⟩
theorem kw_567 : (Jvm.Cond.code ({ cls := "KeptLump$Lumps", name := "growth", desc := "(II)I" } : Jvm.MethodName) prog_5_method_8_code (3 : Nat) (Option.some Jvm.ClassFile.FieldType.int)) ∈ kv_gw := List.mem_filter.mpr ⟨kv_tb3 (List.mem_of_getElem? (i := 19) (by decide +kernel)), by decide +kernel⟩
theorem kw_568 : (Jvm.Cond.methodLink "KeptLump$Lumps" (45 : Nat) ({ cls := "KeptLump$Lumps", name := "isFreshlyWashed", desc := "(II)Z" } : Jvm.MethodName)) ∈ kv_gw := List.mem_filter.mpr ⟨kv_tb3 (List.mem_of_getElem? (i := 20) (by decide +kernel)), by decide +kernel⟩
theorem kw_569 : (Jvm.Cond.instanceMethod ({ cls := "KeptLump$Lumps", name := "isFreshlyWashed", desc := "(II)Z" } : Jvm.MethodName)) ∈ kv_gw := List.mem_filter.mpr ⟨kv_tb3 (List.mem_of_getElem? (i := 21) (by decide +kernel)), by decide +kernel⟩
theorem kw_570 : (Jvm.Cond.selects "KeptLump$Lumps" ({ cls := "KeptLump$Lumps", name := "isFreshlyWashed", desc := "(II)Z" } : Jvm.MethodName) ({ cls := "KeptLump$Lumps", name := "isFreshlyWashed", desc := "(II)Z" } : Jvm.MethodName)) ∈ kv_gw := List.mem_filter.mpr ⟨kv_tb3 (List.mem_of_getElem? (i := 22) (by decide +kernel)), by decide +kernel⟩
theorem kw_571 : (Jvm.Cond.code ({ cls := "KeptLump$Lumps", name := "isFreshlyWashed", desc := "(II)Z" } : Jvm.MethodName) prog_5_method_9_code (3 : Nat) (Option.some Jvm.ClassFile.FieldType.boolean)) ∈ kv_gw := List.mem_filter.mpr ⟨kv_tb3 (List.mem_of_getElem? (i := 23) (by decide +kernel)), by decide +kernel⟩
theorem kw_572 : (Jvm.Cond.methodLinkNest "KeptLump$Lumps" (49 : Nat) ({ cls := "KeptLump", name := "isWithin", desc := "(III)Z" } : Jvm.MethodName) "KeptLump") ∈ lw_tbl := kv_tb3 (List.mem_of_getElem? (i := 24) (by decide +kernel))
theorem kw_577 : (Jvm.Cond.methodLink "KeptLump" (135 : Nat) ({ cls := "KeptLump", name := "isYear", desc := "(I)Z" } : Jvm.MethodName)) ∈ kv_gw := List.mem_filter.mpr ⟨kv_tb3 (List.mem_of_getElem? (i := 29) (by decide +kernel)), by decide +kernel⟩
theorem kw_578 : (Jvm.Cond.static ({ cls := "KeptLump", name := "isYear", desc := "(I)Z" } : Jvm.MethodName)) ∈ kv_gw := List.mem_filter.mpr ⟨kv_tb3 (List.mem_of_getElem? (i := 30) (by decide +kernel)), by decide +kernel⟩
theorem kw_579 : (Jvm.Cond.code ({ cls := "KeptLump", name := "isYear", desc := "(I)Z" } : Jvm.MethodName) prog_1_method_41_code (1 : Nat) (Option.some Jvm.ClassFile.FieldType.boolean)) ∈ kv_gw := List.mem_filter.mpr ⟨kv_tb3 (List.mem_of_getElem? (i := 31) (by decide +kernel)), by decide +kernel⟩
theorem kw_580 : (Jvm.Cond.methodLink "KeptLump" (138 : Nat) ({ cls := "KeptLump$Lumps", name := "growth", desc := "(II)I" } : Jvm.MethodName)) ∈ kv_gw := List.mem_filter.mpr ⟨kv_tb3 (List.mem_of_getElem? (i := 32) (by decide +kernel)), by decide +kernel⟩
theorem kw_589 : (Jvm.Cond.methodLink "KeptLump" (145 : Nat) ({ cls := "KeptLump$Lumps", name := "hasPair", desc := "(II)Z" } : Jvm.MethodName)) ∈ kv_gw := List.mem_filter.mpr ⟨kv_tb3 (List.mem_of_getElem? (i := 41) (by decide +kernel)), by decide +kernel⟩
theorem kw_590 : (Jvm.Cond.instanceMethod ({ cls := "KeptLump$Lumps", name := "hasPair", desc := "(II)Z" } : Jvm.MethodName)) ∈ kv_gw := List.mem_filter.mpr ⟨kv_tb3 (List.mem_of_getElem? (i := 42) (by decide +kernel)), by decide +kernel⟩
theorem kw_591 : (Jvm.Cond.selects "KeptLump$Lumps" ({ cls := "KeptLump$Lumps", name := "hasPair", desc := "(II)Z" } : Jvm.MethodName) ({ cls := "KeptLump$Lumps", name := "hasPair", desc := "(II)Z" } : Jvm.MethodName)) ∈ kv_gw := List.mem_filter.mpr ⟨kv_tb3 (List.mem_of_getElem? (i := 43) (by decide +kernel)), by decide +kernel⟩
theorem kw_592 : (Jvm.Cond.code ({ cls := "KeptLump$Lumps", name := "hasPair", desc := "(II)Z" } : Jvm.MethodName) prog_5_method_3_code (3 : Nat) (Option.some Jvm.ClassFile.FieldType.boolean)) ∈ kv_gw := List.mem_filter.mpr ⟨kv_tb3 (List.mem_of_getElem? (i := 44) (by decide +kernel)), by decide +kernel⟩
theorem kw_593 : (Jvm.Cond.methodLink "KeptLump$Lumps" (37 : Nat) ({ cls := "KeptLump$Lumps", name := "has", desc := "(I)Z" } : Jvm.MethodName)) ∈ kv_gw := List.mem_filter.mpr ⟨kv_tb3 (List.mem_of_getElem? (i := 45) (by decide +kernel)), by decide +kernel⟩
theorem kw_594 : (Jvm.Cond.methodLink "KeptLump" (149 : Nat) ({ cls := "KeptLump", name := "isDoubt", desc := "(I)Z" } : Jvm.MethodName)) ∈ kv_gw := List.mem_filter.mpr ⟨kv_tb3 (List.mem_of_getElem? (i := 46) (by decide +kernel)), by decide +kernel⟩
theorem kw_595 : (Jvm.Cond.static ({ cls := "KeptLump", name := "isDoubt", desc := "(I)Z" } : Jvm.MethodName)) ∈ kv_gw := List.mem_filter.mpr ⟨kv_tb3 (List.mem_of_getElem? (i := 47) (by decide +kernel)), by decide +kernel⟩
theorem kw_596 : (Jvm.Cond.code ({ cls := "KeptLump", name := "isDoubt", desc := "(I)Z" } : Jvm.MethodName) prog_1_method_42_code (1 : Nat) (Option.some Jvm.ClassFile.FieldType.boolean)) ∈ kv_gw := List.mem_filter.mpr ⟨kv_tb3 (List.mem_of_getElem? (i := 48) (by decide +kernel)), by decide +kernel⟩
theorem kw_597 : (Jvm.Cond.methodLink "KeptLump" (159 : Nat) ({ cls := "KeptLump$Weighings", name := "touchesLeft", desc := "(I)I" } : Jvm.MethodName)) ∈ kv_gw := List.mem_filter.mpr ⟨kv_tb3 (List.mem_of_getElem? (i := 49) (by decide +kernel)), by decide +kernel⟩
theorem kw_598 : (Jvm.Cond.instanceMethod ({ cls := "KeptLump$Weighings", name := "touchesLeft", desc := "(I)I" } : Jvm.MethodName)) ∈ kv_gw := List.mem_filter.mpr ⟨kv_tb3 (List.mem_of_getElem? (i := 50) (by decide +kernel)), by decide +kernel⟩
theorem kw_599 : (Jvm.Cond.selects "KeptLump$Weighings" ({ cls := "KeptLump$Weighings", name := "touchesLeft", desc := "(I)I" } : Jvm.MethodName) ({ cls := "KeptLump$Weighings", name := "touchesLeft", desc := "(I)I" } : Jvm.MethodName)) ∈ kv_gw := List.mem_filter.mpr ⟨kv_tb3 (List.mem_of_getElem? (i := 51) (by decide +kernel)), by decide +kernel⟩
theorem kw_600 : (Jvm.Cond.code ({ cls := "KeptLump$Weighings", name := "touchesLeft", desc := "(I)I" } : Jvm.MethodName) prog_11_method_8_code (4 : Nat) (Option.some Jvm.ClassFile.FieldType.int)) ∈ kv_gw := List.mem_filter.mpr ⟨kv_tb3 (List.mem_of_getElem? (i := 52) (by decide +kernel)), by decide +kernel⟩
theorem kw_601 : (Jvm.Cond.methodLink "KeptLump" (162 : Nat) ({ cls := "KeptLump$State", name := "draw", desc := "(I)I" } : Jvm.MethodName)) ∈ kv_gw := List.mem_filter.mpr ⟨kv_tb3 (List.mem_of_getElem? (i := 53) (by decide +kernel)), by decide +kernel⟩
theorem kw_602 : (Jvm.Cond.instanceMethod ({ cls := "KeptLump$State", name := "draw", desc := "(I)I" } : Jvm.MethodName)) ∈ kv_gw := List.mem_filter.mpr ⟨kv_tb3 (List.mem_of_getElem? (i := 54) (by decide +kernel)), by decide +kernel⟩
theorem kw_603 : (Jvm.Cond.selects "KeptLump$State" ({ cls := "KeptLump$State", name := "draw", desc := "(I)I" } : Jvm.MethodName) ({ cls := "KeptLump$State", name := "draw", desc := "(I)I" } : Jvm.MethodName)) ∈ kv_gw := List.mem_filter.mpr ⟨kv_tb3 (List.mem_of_getElem? (i := 55) (by decide +kernel)), by decide +kernel⟩
theorem kw_604 : (Jvm.Cond.code ({ cls := "KeptLump$State", name := "draw", desc := "(I)I" } : Jvm.MethodName) prog_10_method_4_code (2 : Nat) (Option.some Jvm.ClassFile.FieldType.int)) ∈ kv_gw := List.mem_filter.mpr ⟨kv_tb3 (List.mem_of_getElem? (i := 56) (by decide +kernel)), by decide +kernel⟩
theorem kw_605 : (Jvm.Cond.constant "KeptLump$State" (59 : Nat) (1103515245 : Int32)) ∈ kv_gw := List.mem_filter.mpr ⟨kv_tb3 (List.mem_of_getElem? (i := 57) (by decide +kernel)), by decide +kernel⟩
theorem kw_606 : (Jvm.Cond.constant "KeptLump$State" (60 : Nat) (2147483647 : Int32)) ∈ kv_gw := List.mem_filter.mpr ⟨kv_tb3 (List.mem_of_getElem? (i := 58) (by decide +kernel)), by decide +kernel⟩
theorem kw_607 : (Jvm.Cond.constant "KeptLump$State" (61 : Nat) (65536 : Int32)) ∈ kv_gw := List.mem_filter.mpr ⟨kv_tb3 (List.mem_of_getElem? (i := 59) (by decide +kernel)), by decide +kernel⟩
theorem kw_608 : (Jvm.Cond.methodLink "KeptLump" (165 : Nat) ({ cls := "KeptLump$Weighings", name := "add", desc := "(IIIII)I" } : Jvm.MethodName)) ∈ kv_gw := List.mem_filter.mpr ⟨kv_tb3 (List.mem_of_getElem? (i := 60) (by decide +kernel)), by decide +kernel⟩
theorem kw_609 : (Jvm.Cond.instanceMethod ({ cls := "KeptLump$Weighings", name := "add", desc := "(IIIII)I" } : Jvm.MethodName)) ∈ kv_gw := List.mem_filter.mpr ⟨kv_tb3 (List.mem_of_getElem? (i := 61) (by decide +kernel)), by decide +kernel⟩
theorem kw_610 : (Jvm.Cond.selects "KeptLump$Weighings" ({ cls := "KeptLump$Weighings", name := "add", desc := "(IIIII)I" } : Jvm.MethodName) ({ cls := "KeptLump$Weighings", name := "add", desc := "(IIIII)I" } : Jvm.MethodName)) ∈ kv_gw := List.mem_filter.mpr ⟨kv_tb3 (List.mem_of_getElem? (i := 62) (by decide +kernel)), by decide +kernel⟩
theorem kw_611 : (Jvm.Cond.code ({ cls := "KeptLump$Weighings", name := "add", desc := "(IIIII)I" } : Jvm.MethodName) prog_11_method_3_code (7 : Nat) (Option.some Jvm.ClassFile.FieldType.int)) ∈ kv_gw := List.mem_filter.mpr ⟨kv_tb3 (List.mem_of_getElem? (i := 63) (by decide +kernel)), by decide +kernel⟩
theorem kw_612 : (Jvm.Cond.methodLink "KeptLump" (168 : Nat) ({ cls := "KeptLump$Weighings", name := "touch", desc := "(I)V" } : Jvm.MethodName)) ∈ kv_gw := List.mem_filter.mpr ⟨kv_tb3 (List.mem_of_getElem? (i := 64) (by decide +kernel)), by decide +kernel⟩
theorem kw_613 : (Jvm.Cond.instanceMethod ({ cls := "KeptLump$Weighings", name := "touch", desc := "(I)V" } : Jvm.MethodName)) ∈ kv_gw := List.mem_filter.mpr ⟨kv_tb3 (List.mem_of_getElem? (i := 65) (by decide +kernel)), by decide +kernel⟩
theorem kw_614 : (Jvm.Cond.selects "KeptLump$Weighings" ({ cls := "KeptLump$Weighings", name := "touch", desc := "(I)V" } : Jvm.MethodName) ({ cls := "KeptLump$Weighings", name := "touch", desc := "(I)V" } : Jvm.MethodName)) ∈ kv_gw := List.mem_filter.mpr ⟨kv_tb3 (List.mem_of_getElem? (i := 66) (by decide +kernel)), by decide +kernel⟩
theorem kw_615 : (Jvm.Cond.code ({ cls := "KeptLump$Weighings", name := "touch", desc := "(I)V" } : Jvm.MethodName) prog_11_method_7_code (2 : Nat) (Option.none : Option Jvm.ClassFile.FieldType)) ∈ kv_gw := List.mem_filter.mpr ⟨kv_tb3 (List.mem_of_getElem? (i := 67) (by decide +kernel)), by decide +kernel⟩
theorem kw_620 : (Jvm.Cond.methodLink "KeptLump" (171 : Nat) ({ cls := "KeptLump", name := "rowRefusal", desc := "(I)I" } : Jvm.MethodName)) ∈ kv_gw := List.mem_filter.mpr ⟨kv_tb3 (List.mem_of_getElem? (i := 72) (by decide +kernel)), by decide +kernel⟩
theorem kw_622 : (Jvm.Cond.instanceMethod ({ cls := "KeptLump", name := "rowRefusal", desc := "(I)I" } : Jvm.MethodName)) ∈ kv_gw := List.mem_filter.mpr ⟨kv_tb3 (List.mem_of_getElem? (i := 74) (by decide +kernel)), by decide +kernel⟩
theorem kw_623 : (Jvm.Cond.code ({ cls := "KeptLump", name := "rowRefusal", desc := "(I)I" } : Jvm.MethodName) prog_1_method_47_code (2 : Nat) (Option.some Jvm.ClassFile.FieldType.int)) ∈ kv_gw := List.mem_filter.mpr ⟨kv_tb3 (List.mem_of_getElem? (i := 75) (by decide +kernel)), by decide +kernel⟩
theorem kw_624 : (Jvm.Cond.methodLink "KeptLump" (368 : Nat) ({ cls := "KeptLump", name := "isShelf", desc := "(I)Z" } : Jvm.MethodName)) ∈ kv_gw := List.mem_filter.mpr ⟨kv_tb3 (List.mem_of_getElem? (i := 76) (by decide +kernel)), by decide +kernel⟩
theorem kw_625 : (Jvm.Cond.static ({ cls := "KeptLump", name := "isShelf", desc := "(I)Z" } : Jvm.MethodName)) ∈ kv_gw := List.mem_filter.mpr ⟨kv_tb3 (List.mem_of_getElem? (i := 77) (by decide +kernel)), by decide +kernel⟩
theorem kw_626 : (Jvm.Cond.code ({ cls := "KeptLump", name := "isShelf", desc := "(I)Z" } : Jvm.MethodName) prog_1_method_44_code (1 : Nat) (Option.some Jvm.ClassFile.FieldType.boolean)) ∈ kv_gw := List.mem_filter.mpr ⟨kv_tb3 (List.mem_of_getElem? (i := 78) (by decide +kernel)), by decide +kernel⟩
theorem kw_627 : (Jvm.Cond.methodLink "KeptLump" (399 : Nat) ({ cls := "KeptLump$Shelf", name := "isEmpty", desc := "()Z" } : Jvm.MethodName)) ∈ kv_gw := List.mem_filter.mpr ⟨kv_tb3 (List.mem_of_getElem? (i := 79) (by decide +kernel)), by decide +kernel⟩
theorem kw_628 : (Jvm.Cond.instanceMethod ({ cls := "KeptLump$Shelf", name := "isEmpty", desc := "()Z" } : Jvm.MethodName)) ∈ kv_gw := List.mem_filter.mpr ⟨kv_tb3 (List.mem_of_getElem? (i := 80) (by decide +kernel)), by decide +kernel⟩
theorem kw_629 : (Jvm.Cond.selects "KeptLump$Shelf" ({ cls := "KeptLump$Shelf", name := "isEmpty", desc := "()Z" } : Jvm.MethodName) ({ cls := "KeptLump$Shelf", name := "isEmpty", desc := "()Z" } : Jvm.MethodName)) ∈ kv_gw := List.mem_filter.mpr ⟨kv_tb3 (List.mem_of_getElem? (i := 81) (by decide +kernel)), by decide +kernel⟩
theorem kw_630 : (Jvm.Cond.code ({ cls := "KeptLump$Shelf", name := "isEmpty", desc := "()Z" } : Jvm.MethodName) prog_9_method_2_code (1 : Nat) (Option.some Jvm.ClassFile.FieldType.boolean)) ∈ kv_gw := List.mem_filter.mpr ⟨kv_tb3 (List.mem_of_getElem? (i := 82) (by decide +kernel)), by decide +kernel⟩
theorem kw_631 : (Jvm.Cond.methodLink "KeptLump" (391 : Nat) ({ cls := "KeptLump$Shelf", name := "isRow", desc := "()Z" } : Jvm.MethodName)) ∈ kv_gw := List.mem_filter.mpr ⟨kv_tb3 (List.mem_of_getElem? (i := 83) (by decide +kernel)), by decide +kernel⟩
theorem kw_632 : (Jvm.Cond.instanceMethod ({ cls := "KeptLump$Shelf", name := "isRow", desc := "()Z" } : Jvm.MethodName)) ∈ kv_gw := List.mem_filter.mpr ⟨kv_tb3 (List.mem_of_getElem? (i := 84) (by decide +kernel)), by decide +kernel⟩
theorem kw_633 : (Jvm.Cond.selects "KeptLump$Shelf" ({ cls := "KeptLump$Shelf", name := "isRow", desc := "()Z" } : Jvm.MethodName) ({ cls := "KeptLump$Shelf", name := "isRow", desc := "()Z" } : Jvm.MethodName)) ∈ kv_gw := List.mem_filter.mpr ⟨kv_tb3 (List.mem_of_getElem? (i := 85) (by decide +kernel)), by decide +kernel⟩
theorem kw_634 : (Jvm.Cond.code ({ cls := "KeptLump$Shelf", name := "isRow", desc := "()Z" } : Jvm.MethodName) prog_9_method_3_code (1 : Nat) (Option.some Jvm.ClassFile.FieldType.boolean)) ∈ kv_gw := List.mem_filter.mpr ⟨kv_tb3 (List.mem_of_getElem? (i := 86) (by decide +kernel)), by decide +kernel⟩
theorem kw_635 : (Jvm.Cond.methodLink "KeptLump" (177 : Nat) ({ cls := "KeptLump$Shelf", name := "isLost", desc := "(I)Z" } : Jvm.MethodName)) ∈ kv_gw := List.mem_filter.mpr ⟨kv_tb3 (List.mem_of_getElem? (i := 87) (by decide +kernel)), by decide +kernel⟩
theorem kw_636 : (Jvm.Cond.instanceMethod ({ cls := "KeptLump$Shelf", name := "isLost", desc := "(I)Z" } : Jvm.MethodName)) ∈ kv_gw := List.mem_filter.mpr ⟨kv_tb3 (List.mem_of_getElem? (i := 88) (by decide +kernel)), by decide +kernel⟩
theorem kw_637 : (Jvm.Cond.selects "KeptLump$Shelf" ({ cls := "KeptLump$Shelf", name := "isLost", desc := "(I)Z" } : Jvm.MethodName) ({ cls := "KeptLump$Shelf", name := "isLost", desc := "(I)Z" } : Jvm.MethodName)) ∈ kv_gw := List.mem_filter.mpr ⟨kv_tb3 (List.mem_of_getElem? (i := 89) (by decide +kernel)), by decide +kernel⟩
theorem kw_638 : (Jvm.Cond.code ({ cls := "KeptLump$Shelf", name := "isLost", desc := "(I)Z" } : Jvm.MethodName) prog_9_method_9_code (3 : Nat) (Option.some Jvm.ClassFile.FieldType.boolean)) ∈ kv_gw := List.mem_filter.mpr ⟨kv_tb3 (List.mem_of_getElem? (i := 90) (by decide +kernel)), by decide +kernel⟩
theorem kw_639 : (Jvm.Cond.methodLink "KeptLump$Shelf" (52 : Nat) ({ cls := "KeptLump$Shelf", name := "leastNumber", desc := "()I" } : Jvm.MethodName)) ∈ kv_gw := List.mem_filter.mpr ⟨kv_tb3 (List.mem_of_getElem? (i := 91) (by decide +kernel)), by decide +kernel⟩
theorem kw_640 : (Jvm.Cond.instanceMethod ({ cls := "KeptLump$Shelf", name := "leastNumber", desc := "()I" } : Jvm.MethodName)) ∈ kv_gw := List.mem_filter.mpr ⟨kv_tb3 (List.mem_of_getElem? (i := 92) (by decide +kernel)), by decide +kernel⟩
theorem kw_641 : (Jvm.Cond.selects "KeptLump$Shelf" ({ cls := "KeptLump$Shelf", name := "leastNumber", desc := "()I" } : Jvm.MethodName) ({ cls := "KeptLump$Shelf", name := "leastNumber", desc := "()I" } : Jvm.MethodName)) ∈ kv_gw := List.mem_filter.mpr ⟨kv_tb3 (List.mem_of_getElem? (i := 93) (by decide +kernel)), by decide +kernel⟩
theorem kw_642 : (Jvm.Cond.code ({ cls := "KeptLump$Shelf", name := "leastNumber", desc := "()I" } : Jvm.MethodName) prog_9_method_8_code (1 : Nat) (Option.some Jvm.ClassFile.FieldType.int)) ∈ kv_gw := List.mem_filter.mpr ⟨kv_tb3 (List.mem_of_getElem? (i := 94) (by decide +kernel)), by decide +kernel⟩
theorem kw_643 : (Jvm.Cond.constant "KeptLump$Shelf" (51 : Nat) (-2147483648 : Int32)) ∈ kv_gw := List.mem_filter.mpr ⟨kv_tb3 (List.mem_of_getElem? (i := 95) (by decide +kernel)), by decide +kernel⟩
theorem kw_644 : (Jvm.Cond.methodLink "KeptLump" (180 : Nat) ({ cls := "KeptLump", name := "isTold", desc := "(LKeptLump$Shelf;I)Z" } : Jvm.MethodName)) ∈ kv_gw := List.mem_filter.mpr ⟨kv_tb3 (List.mem_of_getElem? (i := 96) (by decide +kernel)), by decide +kernel⟩
theorem kw_646 : (Jvm.Cond.instanceMethod ({ cls := "KeptLump", name := "isTold", desc := "(LKeptLump$Shelf;I)Z" } : Jvm.MethodName)) ∈ kv_gw := List.mem_filter.mpr ⟨kv_tb3 (List.mem_of_getElem? (i := 98) (by decide +kernel)), by decide +kernel⟩
theorem kw_647 : (Jvm.Cond.code ({ cls := "KeptLump", name := "isTold", desc := "(LKeptLump$Shelf;I)Z" } : Jvm.MethodName) prog_1_method_51_code (4 : Nat) (Option.some Jvm.ClassFile.FieldType.boolean)) ∈ kv_gw := List.mem_filter.mpr ⟨kv_tb3 (List.mem_of_getElem? (i := 99) (by decide +kernel)), by decide +kernel⟩
theorem kw_648 : (Jvm.Cond.constant "KeptLump" (427 : Nat) (-99999 : Int32)) ∈ kv_gw := List.mem_filter.mpr ⟨kv_tb3 (List.mem_of_getElem? (i := 100) (by decide +kernel)), by decide +kernel⟩
theorem kw_649 : (Jvm.Cond.constant "KeptLump" (428 : Nat) (99999 : Int32)) ∈ kv_gw := List.mem_filter.mpr ⟨kv_tb3 (List.mem_of_getElem? (i := 101) (by decide +kernel)), by decide +kernel⟩
theorem kw_650 : (Jvm.Cond.methodLink "KeptLump" (187 : Nat) ({ cls := "KeptLump", name := "hearOne", desc := "([II)V" } : Jvm.MethodName)) ∈ kv_gw := List.mem_filter.mpr ⟨kv_tb3 (List.mem_of_getElem? (i := 102) (by decide +kernel)), by decide +kernel⟩
theorem kw_652 : (Jvm.Cond.instanceMethod ({ cls := "KeptLump", name := "hearOne", desc := "([II)V" } : Jvm.MethodName)) ∈ kv_gw := List.mem_filter.mpr ⟨kv_tb3 (List.mem_of_getElem? (i := 104) (by decide +kernel)), by decide +kernel⟩
theorem kw_653 : (Jvm.Cond.code ({ cls := "KeptLump", name := "hearOne", desc := "([II)V" } : Jvm.MethodName) prog_1_method_52_code (3 : Nat) (Option.none : Option Jvm.ClassFile.FieldType)) ∈ kv_gw := List.mem_filter.mpr ⟨kv_tb3 (List.mem_of_getElem? (i := 105) (by decide +kernel)), by decide +kernel⟩
theorem kw_658 : (Jvm.Cond.methodLink "KeptLump" (191 : Nat) ({ cls := "KeptLump$Weighings", name := "has", desc := "(I)Z" } : Jvm.MethodName)) ∈ kv_gw := List.mem_filter.mpr ⟨kv_tb3 (List.mem_of_getElem? (i := 110) (by decide +kernel)), by decide +kernel⟩
theorem kw_659 : (Jvm.Cond.instanceMethod ({ cls := "KeptLump$Weighings", name := "has", desc := "(I)Z" } : Jvm.MethodName)) ∈ kv_gw := List.mem_filter.mpr ⟨kv_tb3 (List.mem_of_getElem? (i := 111) (by decide +kernel)), by decide +kernel⟩
theorem kw_660 : (Jvm.Cond.selects "KeptLump$Weighings" ({ cls := "KeptLump$Weighings", name := "has", desc := "(I)Z" } : Jvm.MethodName) ({ cls := "KeptLump$Weighings", name := "has", desc := "(I)Z" } : Jvm.MethodName)) ∈ kv_gw := List.mem_filter.mpr ⟨kv_tb3 (List.mem_of_getElem? (i := 112) (by decide +kernel)), by decide +kernel⟩
theorem kw_661 : (Jvm.Cond.code ({ cls := "KeptLump$Weighings", name := "has", desc := "(I)Z" } : Jvm.MethodName) prog_11_method_2_code (2 : Nat) (Option.some Jvm.ClassFile.FieldType.boolean)) ∈ kv_gw := List.mem_filter.mpr ⟨kv_tb3 (List.mem_of_getElem? (i := 113) (by decide +kernel)), by decide +kernel⟩
theorem kw_674 : (Jvm.Cond.methodLink "KeptLump" (211 : Nat) ({ cls := "KeptLump$Net", name := "start", desc := "(I)V" } : Jvm.MethodName)) ∈ kv_gw := List.mem_filter.mpr ⟨kv_tb3 (List.mem_of_getElem? (i := 126) (by decide +kernel)), by decide +kernel⟩
theorem kw_675 : (Jvm.Cond.instanceMethod ({ cls := "KeptLump$Net", name := "start", desc := "(I)V" } : Jvm.MethodName)) ∈ kv_gw := List.mem_filter.mpr ⟨kv_tb3 (List.mem_of_getElem? (i := 127) (by decide +kernel)), by decide +kernel⟩
theorem kw_676 : (Jvm.Cond.selects "KeptLump$Net" ({ cls := "KeptLump$Net", name := "start", desc := "(I)V" } : Jvm.MethodName) ({ cls := "KeptLump$Net", name := "start", desc := "(I)V" } : Jvm.MethodName)) ∈ kv_gw := List.mem_filter.mpr ⟨kv_tb3 (List.mem_of_getElem? (i := 128) (by decide +kernel)), by decide +kernel⟩
theorem kw_677 : (Jvm.Cond.code ({ cls := "KeptLump$Net", name := "start", desc := "(I)V" } : Jvm.MethodName) prog_6_method_2_code (2 : Nat) (Option.none : Option Jvm.ClassFile.FieldType)) ∈ kv_gw := List.mem_filter.mpr ⟨kv_tb3 (List.mem_of_getElem? (i := 129) (by decide +kernel)), by decide +kernel⟩
theorem kw_678 : (Jvm.Cond.methodLink "KeptLump" (214 : Nat) ({ cls := "KeptLump", name := "boundByYear", desc := "(II)V" } : Jvm.MethodName)) ∈ kv_gw := List.mem_filter.mpr ⟨kv_tb3 (List.mem_of_getElem? (i := 130) (by decide +kernel)), by decide +kernel⟩
theorem kw_680 : (Jvm.Cond.instanceMethod ({ cls := "KeptLump", name := "boundByYear", desc := "(II)V" } : Jvm.MethodName)) ∈ kv_gw := List.mem_filter.mpr ⟨kv_tb3 (List.mem_of_getElem? (i := 132) (by decide +kernel)), by decide +kernel⟩
theorem kw_681 : (Jvm.Cond.code ({ cls := "KeptLump", name := "boundByYear", desc := "(II)V" } : Jvm.MethodName) prog_1_method_53_code (7 : Nat) (Option.none : Option Jvm.ClassFile.FieldType)) ∈ kv_gw := List.mem_filter.mpr ⟨kv_tb3 (List.mem_of_getElem? (i := 133) (by decide +kernel)), by decide +kernel⟩
theorem kw_682 : (Jvm.Cond.methodLink "KeptLump" (429 : Nat) ({ cls := "KeptLump$Weighings", name := "counts", desc := "(II)Z" } : Jvm.MethodName)) ∈ kv_gw := List.mem_filter.mpr ⟨kv_tb3 (List.mem_of_getElem? (i := 134) (by decide +kernel)), by decide +kernel⟩
theorem kw_683 : (Jvm.Cond.instanceMethod ({ cls := "KeptLump$Weighings", name := "counts", desc := "(II)Z" } : Jvm.MethodName)) ∈ kv_gw := List.mem_filter.mpr ⟨kv_tb3 (List.mem_of_getElem? (i := 135) (by decide +kernel)), by decide +kernel⟩
theorem kw_684 : (Jvm.Cond.selects "KeptLump$Weighings" ({ cls := "KeptLump$Weighings", name := "counts", desc := "(II)Z" } : Jvm.MethodName) ({ cls := "KeptLump$Weighings", name := "counts", desc := "(II)Z" } : Jvm.MethodName)) ∈ kv_gw := List.mem_filter.mpr ⟨kv_tb3 (List.mem_of_getElem? (i := 136) (by decide +kernel)), by decide +kernel⟩
theorem kw_685 : (Jvm.Cond.code ({ cls := "KeptLump$Weighings", name := "counts", desc := "(II)Z" } : Jvm.MethodName) prog_11_method_4_code (3 : Nat) (Option.some Jvm.ClassFile.FieldType.boolean)) ∈ kv_gw := List.mem_filter.mpr ⟨kv_tb3 (List.mem_of_getElem? (i := 137) (by decide +kernel)), by decide +kernel⟩
theorem kw_686 : (Jvm.Cond.methodLink "KeptLump" (432 : Nat) ({ cls := "KeptLump$Weighings", name := "least", desc := "(I)I" } : Jvm.MethodName)) ∈ kv_gw := List.mem_filter.mpr ⟨kv_tb3 (List.mem_of_getElem? (i := 138) (by decide +kernel)), by decide +kernel⟩
theorem kw_687 : (Jvm.Cond.instanceMethod ({ cls := "KeptLump$Weighings", name := "least", desc := "(I)I" } : Jvm.MethodName)) ∈ kv_gw := List.mem_filter.mpr ⟨kv_tb3 (List.mem_of_getElem? (i := 139) (by decide +kernel)), by decide +kernel⟩
theorem kw_688 : (Jvm.Cond.selects "KeptLump$Weighings" ({ cls := "KeptLump$Weighings", name := "least", desc := "(I)I" } : Jvm.MethodName) ({ cls := "KeptLump$Weighings", name := "least", desc := "(I)I" } : Jvm.MethodName)) ∈ kv_gw := List.mem_filter.mpr ⟨kv_tb3 (List.mem_of_getElem? (i := 140) (by decide +kernel)), by decide +kernel⟩
theorem kw_689 : (Jvm.Cond.code ({ cls := "KeptLump$Weighings", name := "least", desc := "(I)I" } : Jvm.MethodName) prog_11_method_5_code (2 : Nat) (Option.some Jvm.ClassFile.FieldType.int)) ∈ kv_gw := List.mem_filter.mpr ⟨kv_tb3 (List.mem_of_getElem? (i := 141) (by decide +kernel)), by decide +kernel⟩
theorem kw_690 : (Jvm.Cond.methodLink "KeptLump" (435 : Nat) ({ cls := "KeptLump$Weighings", name := "greatest", desc := "(I)I" } : Jvm.MethodName)) ∈ kv_gw := List.mem_filter.mpr ⟨kv_tb3 (List.mem_of_getElem? (i := 142) (by decide +kernel)), by decide +kernel⟩
theorem kw_691 : (Jvm.Cond.instanceMethod ({ cls := "KeptLump$Weighings", name := "greatest", desc := "(I)I" } : Jvm.MethodName)) ∈ kv_gw := List.mem_filter.mpr ⟨kv_tb3 (List.mem_of_getElem? (i := 143) (by decide +kernel)), by decide +kernel⟩
theorem kw_692 : (Jvm.Cond.selects "KeptLump$Weighings" ({ cls := "KeptLump$Weighings", name := "greatest", desc := "(I)I" } : Jvm.MethodName) ({ cls := "KeptLump$Weighings", name := "greatest", desc := "(I)I" } : Jvm.MethodName)) ∈ kv_gw := List.mem_filter.mpr ⟨kv_tb3 (List.mem_of_getElem? (i := 144) (by decide +kernel)), by decide +kernel⟩
theorem kw_693 : (Jvm.Cond.code ({ cls := "KeptLump$Weighings", name := "greatest", desc := "(I)I" } : Jvm.MethodName) prog_11_method_6_code (2 : Nat) (Option.some Jvm.ClassFile.FieldType.int)) ∈ kv_gw := List.mem_filter.mpr ⟨kv_tb3 (List.mem_of_getElem? (i := 145) (by decide +kernel)), by decide +kernel⟩
theorem kw_694 : (Jvm.Cond.methodLink "KeptLump" (438 : Nat) ({ cls := "KeptLump$Net", name := "bound", desc := "(IIII)V" } : Jvm.MethodName)) ∈ kv_gw := List.mem_filter.mpr ⟨kv_tb3 (List.mem_of_getElem? (i := 146) (by decide +kernel)), by decide +kernel⟩
theorem kw_695 : (Jvm.Cond.instanceMethod ({ cls := "KeptLump$Net", name := "bound", desc := "(IIII)V" } : Jvm.MethodName)) ∈ kv_gw := List.mem_filter.mpr ⟨kv_tb3 (List.mem_of_getElem? (i := 147) (by decide +kernel)), by decide +kernel⟩
theorem kw_696 : (Jvm.Cond.selects "KeptLump$Net" ({ cls := "KeptLump$Net", name := "bound", desc := "(IIII)V" } : Jvm.MethodName) ({ cls := "KeptLump$Net", name := "bound", desc := "(IIII)V" } : Jvm.MethodName)) ∈ kv_gw := List.mem_filter.mpr ⟨kv_tb3 (List.mem_of_getElem? (i := 148) (by decide +kernel)), by decide +kernel⟩
theorem kw_697 : (Jvm.Cond.code ({ cls := "KeptLump$Net", name := "bound", desc := "(IIII)V" } : Jvm.MethodName) prog_6_method_4_code (5 : Nat) (Option.none : Option Jvm.ClassFile.FieldType)) ∈ kv_gw := List.mem_filter.mpr ⟨kv_tb3 (List.mem_of_getElem? (i := 149) (by decide +kernel)), by decide +kernel⟩
theorem kw_698 : (Jvm.Cond.methodLink "KeptLump$Net" (31 : Nat) ({ cls := "KeptLump$Net", name := "addEdge", desc := "(III)V" } : Jvm.MethodName)) ∈ kv_gw := List.mem_filter.mpr ⟨kv_tb3 (List.mem_of_getElem? (i := 150) (by decide +kernel)), by decide +kernel⟩
theorem kw_699 : (Jvm.Cond.instanceMethod ({ cls := "KeptLump$Net", name := "addEdge", desc := "(III)V" } : Jvm.MethodName)) ∈ kv_gw := List.mem_filter.mpr ⟨kv_tb3 (List.mem_of_getElem? (i := 151) (by decide +kernel)), by decide +kernel⟩
theorem kw_700 : (Jvm.Cond.selects "KeptLump$Net" ({ cls := "KeptLump$Net", name := "addEdge", desc := "(III)V" } : Jvm.MethodName) ({ cls := "KeptLump$Net", name := "addEdge", desc := "(III)V" } : Jvm.MethodName)) ∈ kv_gw := List.mem_filter.mpr ⟨kv_tb3 (List.mem_of_getElem? (i := 152) (by decide +kernel)), by decide +kernel⟩
theorem kw_701 : (Jvm.Cond.code ({ cls := "KeptLump$Net", name := "addEdge", desc := "(III)V" } : Jvm.MethodName) prog_6_method_6_code (4 : Nat) (Option.none : Option Jvm.ClassFile.FieldType)) ∈ kv_gw := List.mem_filter.mpr ⟨kv_tb3 (List.mem_of_getElem? (i := 153) (by decide +kernel)), by decide +kernel⟩
theorem kw_702 : (Jvm.Cond.methodLink "KeptLump$Net" (35 : Nat) ({ cls := "KeptLump$Net", name := "isKnot", desc := "(I)Z" } : Jvm.MethodName)) ∈ kv_gw := List.mem_filter.mpr ⟨kv_tb3 (List.mem_of_getElem? (i := 154) (by decide +kernel)), by decide +kernel⟩
theorem kw_703 : (Jvm.Cond.instanceMethod ({ cls := "KeptLump$Net", name := "isKnot", desc := "(I)Z" } : Jvm.MethodName)) ∈ kv_gw := List.mem_filter.mpr ⟨kv_tb3 (List.mem_of_getElem? (i := 155) (by decide +kernel)), by decide +kernel⟩
theorem kw_704 : (Jvm.Cond.selects "KeptLump$Net" ({ cls := "KeptLump$Net", name := "isKnot", desc := "(I)Z" } : Jvm.MethodName) ({ cls := "KeptLump$Net", name := "isKnot", desc := "(I)Z" } : Jvm.MethodName)) ∈ kv_gw := List.mem_filter.mpr ⟨kv_tb3 (List.mem_of_getElem? (i := 156) (by decide +kernel)), by decide +kernel⟩
theorem kw_705 : (Jvm.Cond.code ({ cls := "KeptLump$Net", name := "isKnot", desc := "(I)Z" } : Jvm.MethodName) prog_6_method_5_code (2 : Nat) (Option.some Jvm.ClassFile.FieldType.boolean)) ∈ kv_gw := List.mem_filter.mpr ⟨kv_tb3 (List.mem_of_getElem? (i := 157) (by decide +kernel)), by decide +kernel⟩
theorem kw_706 : (Jvm.Cond.methodLink "KeptLump" (218 : Nat) ({ cls := "KeptLump", name := "bounded", desc := "(III)I" } : Jvm.MethodName)) ∈ kv_gw := List.mem_filter.mpr ⟨kv_tb3 (List.mem_of_getElem? (i := 158) (by decide +kernel)), by decide +kernel⟩
theorem kw_708 : (Jvm.Cond.instanceMethod ({ cls := "KeptLump", name := "bounded", desc := "(III)I" } : Jvm.MethodName)) ∈ kv_gw := List.mem_filter.mpr ⟨kv_tb3 (List.mem_of_getElem? (i := 160) (by decide +kernel)), by decide +kernel⟩
theorem kw_709 : (Jvm.Cond.code ({ cls := "KeptLump", name := "bounded", desc := "(III)I" } : Jvm.MethodName) prog_1_method_54_code (5 : Nat) (Option.some Jvm.ClassFile.FieldType.int)) ∈ kv_gw := List.mem_filter.mpr ⟨kv_tb3 (List.mem_of_getElem? (i := 161) (by decide +kernel)), by decide +kernel⟩
theorem kw_710 : (Jvm.Cond.methodLink "KeptLump" (237 : Nat) ({ cls := "KeptLump$Net", name := "holds", desc := "()Z" } : Jvm.MethodName)) ∈ kv_gw := List.mem_filter.mpr ⟨kv_tb3 (List.mem_of_getElem? (i := 162) (by decide +kernel)), by decide +kernel⟩
theorem kw_711 : (Jvm.Cond.instanceMethod ({ cls := "KeptLump$Net", name := "holds", desc := "()Z" } : Jvm.MethodName)) ∈ kv_gw := List.mem_filter.mpr ⟨kv_tb3 (List.mem_of_getElem? (i := 163) (by decide +kernel)), by decide +kernel⟩
theorem kw_712 : (Jvm.Cond.selects "KeptLump$Net" ({ cls := "KeptLump$Net", name := "holds", desc := "()Z" } : Jvm.MethodName) ({ cls := "KeptLump$Net", name := "holds", desc := "()Z" } : Jvm.MethodName)) ∈ kv_gw := List.mem_filter.mpr ⟨kv_tb3 (List.mem_of_getElem? (i := 164) (by decide +kernel)), by decide +kernel⟩
theorem kw_713 : (Jvm.Cond.code ({ cls := "KeptLump$Net", name := "holds", desc := "()Z" } : Jvm.MethodName) prog_6_method_7_code (1 : Nat) (Option.some Jvm.ClassFile.FieldType.boolean)) ∈ kv_gw := List.mem_filter.mpr ⟨kv_tb3 (List.mem_of_getElem? (i := 165) (by decide +kernel)), by decide +kernel⟩
theorem kw_714 : (Jvm.Cond.methodLink "KeptLump$Net" (39 : Nat) ({ cls := "java/util/Arrays", name := "fill", desc := "([II)V" } : Jvm.MethodName)) ∈ kv_gw := List.mem_filter.mpr ⟨kv_tb3 (List.mem_of_getElem? (i := 166) (by decide +kernel)), by decide +kernel⟩
theorem kw_715 : (Jvm.Cond.methodLink "KeptLump$Net" (45 : Nat) ({ cls := "KeptLump$Net", name := "settles", desc := "()Z" } : Jvm.MethodName)) ∈ kv_gw := List.mem_filter.mpr ⟨kv_tb3 (List.mem_of_getElem? (i := 167) (by decide +kernel)), by decide +kernel⟩
theorem kw_716 : (Jvm.Cond.instanceMethod ({ cls := "KeptLump$Net", name := "settles", desc := "()Z" } : Jvm.MethodName)) ∈ kv_gw := List.mem_filter.mpr ⟨kv_tb3 (List.mem_of_getElem? (i := 168) (by decide +kernel)), by decide +kernel⟩
theorem kw_717 : (Jvm.Cond.selects "KeptLump$Net" ({ cls := "KeptLump$Net", name := "settles", desc := "()Z" } : Jvm.MethodName) ({ cls := "KeptLump$Net", name := "settles", desc := "()Z" } : Jvm.MethodName)) ∈ kv_gw := List.mem_filter.mpr ⟨kv_tb3 (List.mem_of_getElem? (i := 169) (by decide +kernel)), by decide +kernel⟩
theorem kw_718 : (Jvm.Cond.code ({ cls := "KeptLump$Net", name := "settles", desc := "()Z" } : Jvm.MethodName) prog_6_method_9_code (2 : Nat) (Option.some Jvm.ClassFile.FieldType.boolean)) ∈ kv_gw := List.mem_filter.mpr ⟨kv_tb3 (List.mem_of_getElem? (i := 170) (by decide +kernel)), by decide +kernel⟩
theorem kw_719 : (Jvm.Cond.methodLink "KeptLump$Net" (50 : Nat) ({ cls := "KeptLump$Net", name := "shortens", desc := "()Z" } : Jvm.MethodName)) ∈ kv_gw := List.mem_filter.mpr ⟨kv_tb3 (List.mem_of_getElem? (i := 171) (by decide +kernel)), by decide +kernel⟩
theorem kw_720 : (Jvm.Cond.instanceMethod ({ cls := "KeptLump$Net", name := "shortens", desc := "()Z" } : Jvm.MethodName)) ∈ kv_gw := List.mem_filter.mpr ⟨kv_tb3 (List.mem_of_getElem? (i := 172) (by decide +kernel)), by decide +kernel⟩
theorem kw_721 : (Jvm.Cond.selects "KeptLump$Net" ({ cls := "KeptLump$Net", name := "shortens", desc := "()Z" } : Jvm.MethodName) ({ cls := "KeptLump$Net", name := "shortens", desc := "()Z" } : Jvm.MethodName)) ∈ kv_gw := List.mem_filter.mpr ⟨kv_tb3 (List.mem_of_getElem? (i := 173) (by decide +kernel)), by decide +kernel⟩
theorem kw_722 : (Jvm.Cond.code ({ cls := "KeptLump$Net", name := "shortens", desc := "()Z" } : Jvm.MethodName) prog_6_method_10_code (4 : Nat) (Option.some Jvm.ClassFile.FieldType.boolean)) ∈ kv_gw := List.mem_filter.mpr ⟨kv_tb3 (List.mem_of_getElem? (i := 174) (by decide +kernel)), by decide +kernel⟩
theorem kw_723 : (Jvm.Cond.constant "KeptLump$Net" (49 : Nat) (2147483647 : Int32)) ∈ kv_gw := List.mem_filter.mpr ⟨kv_tb3 (List.mem_of_getElem? (i := 175) (by decide +kernel)), by decide +kernel⟩
theorem kw_724 : (Jvm.Cond.constant "KeptLump" (442 : Nat) (-1000000005 : Int32)) ∈ kv_gw := List.mem_filter.mpr ⟨kv_tb3 (List.mem_of_getElem? (i := 176) (by decide +kernel)), by decide +kernel⟩
theorem kw_725 : (Jvm.Cond.methodLink "KeptLump" (443 : Nat) ({ cls := "KeptLump$Net", name := "greatestOf", desc := "(II)I" } : Jvm.MethodName)) ∈ kv_gw := List.mem_filter.mpr ⟨kv_tb3 (List.mem_of_getElem? (i := 177) (by decide +kernel)), by decide +kernel⟩
theorem kw_726 : (Jvm.Cond.instanceMethod ({ cls := "KeptLump$Net", name := "greatestOf", desc := "(II)I" } : Jvm.MethodName)) ∈ kv_gw := List.mem_filter.mpr ⟨kv_tb3 (List.mem_of_getElem? (i := 178) (by decide +kernel)), by decide +kernel⟩
theorem kw_727 : (Jvm.Cond.selects "KeptLump$Net" ({ cls := "KeptLump$Net", name := "greatestOf", desc := "(II)I" } : Jvm.MethodName) ({ cls := "KeptLump$Net", name := "greatestOf", desc := "(II)I" } : Jvm.MethodName)) ∈ kv_gw := List.mem_filter.mpr ⟨kv_tb3 (List.mem_of_getElem? (i := 179) (by decide +kernel)), by decide +kernel⟩
theorem kw_728 : (Jvm.Cond.code ({ cls := "KeptLump$Net", name := "greatestOf", desc := "(II)I" } : Jvm.MethodName) prog_6_method_8_code (3 : Nat) (Option.some Jvm.ClassFile.FieldType.int)) ∈ kv_gw := List.mem_filter.mpr ⟨kv_tb3 (List.mem_of_getElem? (i := 180) (by decide +kernel)), by decide +kernel⟩
theorem kw_729 : (Jvm.Cond.constant "KeptLump" (446 : Nat) (2147483647 : Int32)) ∈ kv_gw := List.mem_filter.mpr ⟨kv_tb3 (List.mem_of_getElem? (i := 181) (by decide +kernel)), by decide +kernel⟩
theorem kw_734 : (Jvm.Cond.methodLink "KeptLump" (221 : Nat) ({ cls := "KeptLump$LongNet", name := "start", desc := "()V" } : Jvm.MethodName)) ∈ kv_gw := List.mem_filter.mpr ⟨kv_tb3 (List.mem_of_getElem? (i := 186) (by decide +kernel)), by decide +kernel⟩
theorem kw_735 : (Jvm.Cond.instanceMethod ({ cls := "KeptLump$LongNet", name := "start", desc := "()V" } : Jvm.MethodName)) ∈ kv_gw := List.mem_filter.mpr ⟨kv_tb3 (List.mem_of_getElem? (i := 187) (by decide +kernel)), by decide +kernel⟩
theorem kw_736 : (Jvm.Cond.selects "KeptLump$LongNet" ({ cls := "KeptLump$LongNet", name := "start", desc := "()V" } : Jvm.MethodName) ({ cls := "KeptLump$LongNet", name := "start", desc := "()V" } : Jvm.MethodName)) ∈ kv_gw := List.mem_filter.mpr ⟨kv_tb3 (List.mem_of_getElem? (i := 188) (by decide +kernel)), by decide +kernel⟩
theorem kw_737 : (Jvm.Cond.code ({ cls := "KeptLump$LongNet", name := "start", desc := "()V" } : Jvm.MethodName) prog_4_method_2_code (1 : Nat) (Option.none : Option Jvm.ClassFile.FieldType)) ∈ kv_gw := List.mem_filter.mpr ⟨kv_tb3 (List.mem_of_getElem? (i := 189) (by decide +kernel)), by decide +kernel⟩
theorem kw_738 : (Jvm.Cond.methodLink "KeptLump$LongNet" (24 : Nat) ({ cls := "KeptLump$LongNet", name := "swapFrom", desc := "(III)V" } : Jvm.MethodName)) ∈ kv_gw := List.mem_filter.mpr ⟨kv_tb3 (List.mem_of_getElem? (i := 190) (by decide +kernel)), by decide +kernel⟩
theorem kw_739 : (Jvm.Cond.instanceMethod ({ cls := "KeptLump$LongNet", name := "swapFrom", desc := "(III)V" } : Jvm.MethodName)) ∈ kv_gw := List.mem_filter.mpr ⟨kv_tb3 (List.mem_of_getElem? (i := 191) (by decide +kernel)), by decide +kernel⟩
theorem kw_740 : (Jvm.Cond.selects "KeptLump$LongNet" ({ cls := "KeptLump$LongNet", name := "swapFrom", desc := "(III)V" } : Jvm.MethodName) ({ cls := "KeptLump$LongNet", name := "swapFrom", desc := "(III)V" } : Jvm.MethodName)) ∈ kv_gw := List.mem_filter.mpr ⟨kv_tb3 (List.mem_of_getElem? (i := 192) (by decide +kernel)), by decide +kernel⟩
theorem kw_741 : (Jvm.Cond.code ({ cls := "KeptLump$LongNet", name := "swapFrom", desc := "(III)V" } : Jvm.MethodName) prog_4_method_3_code (4 : Nat) (Option.none : Option Jvm.ClassFile.FieldType)) ∈ kv_gw := List.mem_filter.mpr ⟨kv_tb3 (List.mem_of_getElem? (i := 193) (by decide +kernel)), by decide +kernel⟩
theorem kw_742 : (Jvm.Cond.methodLink "KeptLump" (223 : Nat) ({ cls := "KeptLump$LongNet", name := "addKnot", desc := "(II)V" } : Jvm.MethodName)) ∈ kv_gw := List.mem_filter.mpr ⟨kv_tb3 (List.mem_of_getElem? (i := 194) (by decide +kernel)), by decide +kernel⟩
theorem kw_743 : (Jvm.Cond.instanceMethod ({ cls := "KeptLump$LongNet", name := "addKnot", desc := "(II)V" } : Jvm.MethodName)) ∈ kv_gw := List.mem_filter.mpr ⟨kv_tb3 (List.mem_of_getElem? (i := 195) (by decide +kernel)), by decide +kernel⟩
theorem kw_744 : (Jvm.Cond.selects "KeptLump$LongNet" ({ cls := "KeptLump$LongNet", name := "addKnot", desc := "(II)V" } : Jvm.MethodName) ({ cls := "KeptLump$LongNet", name := "addKnot", desc := "(II)V" } : Jvm.MethodName)) ∈ kv_gw := List.mem_filter.mpr ⟨kv_tb3 (List.mem_of_getElem? (i := 196) (by decide +kernel)), by decide +kernel⟩
theorem kw_745 : (Jvm.Cond.code ({ cls := "KeptLump$LongNet", name := "addKnot", desc := "(II)V" } : Jvm.MethodName) prog_4_method_7_code (5 : Nat) (Option.none : Option Jvm.ClassFile.FieldType)) ∈ kv_gw := List.mem_filter.mpr ⟨kv_tb3 (List.mem_of_getElem? (i := 197) (by decide +kernel)), by decide +kernel⟩
theorem kw_746 : (Jvm.Cond.methodLink "KeptLump$LongNet" (37 : Nat) ({ cls := "KeptLump$LongNet", name := "placeOf", desc := "(I)I" } : Jvm.MethodName)) ∈ kv_gw := List.mem_filter.mpr ⟨kv_tb3 (List.mem_of_getElem? (i := 198) (by decide +kernel)), by decide +kernel⟩
theorem kw_747 : (Jvm.Cond.instanceMethod ({ cls := "KeptLump$LongNet", name := "placeOf", desc := "(I)I" } : Jvm.MethodName)) ∈ kv_gw := List.mem_filter.mpr ⟨kv_tb3 (List.mem_of_getElem? (i := 199) (by decide +kernel)), by decide +kernel⟩
theorem kw_748 : (Jvm.Cond.selects "KeptLump$LongNet" ({ cls := "KeptLump$LongNet", name := "placeOf", desc := "(I)I" } : Jvm.MethodName) ({ cls := "KeptLump$LongNet", name := "placeOf", desc := "(I)I" } : Jvm.MethodName)) ∈ kv_gw := List.mem_filter.mpr ⟨kv_tb3 (List.mem_of_getElem? (i := 200) (by decide +kernel)), by decide +kernel⟩
theorem kw_749 : (Jvm.Cond.code ({ cls := "KeptLump$LongNet", name := "placeOf", desc := "(I)I" } : Jvm.MethodName) prog_4_method_5_code (3 : Nat) (Option.some Jvm.ClassFile.FieldType.int)) ∈ kv_gw := List.mem_filter.mpr ⟨kv_tb3 (List.mem_of_getElem? (i := 201) (by decide +kernel)), by decide +kernel⟩
theorem kw_750 : (Jvm.Cond.methodLink "KeptLump$LongNet" (41 : Nat) ({ cls := "java/lang/System", name := "arraycopy", desc := "(Ljava/lang/Object;ILjava/lang/Object;II)V" } : Jvm.MethodName)) ∈ kv_gw := List.mem_filter.mpr ⟨kv_tb3 (List.mem_of_getElem? (i := 202) (by decide +kernel)), by decide +kernel⟩
theorem kw_751 : (Jvm.Cond.static ({ cls := "java/lang/System", name := "arraycopy", desc := "(Ljava/lang/Object;ILjava/lang/Object;II)V" } : Jvm.MethodName)) ∈ kv_gw := List.mem_filter.mpr ⟨kv_tb3 (List.mem_of_getElem? (i := 203) (by decide +kernel)), by decide +kernel⟩
theorem kw_752 : (Jvm.Cond.native ({ cls := "java/lang/System", name := "arraycopy", desc := "(Ljava/lang/Object;ILjava/lang/Object;II)V" } : Jvm.MethodName)) ∈ kv_gw := List.mem_filter.mpr ⟨kv_tb3 (List.mem_of_getElem? (i := 204) (by decide +kernel)), by decide +kernel⟩
theorem kw_753 : (Jvm.Cond.methodLink "KeptLump" (226 : Nat) ({ cls := "KeptLump$LongNet", name := "build", desc := "(LKeptLump$State;LKeptLump$Net;)V" } : Jvm.MethodName)) ∈ kv_gw := List.mem_filter.mpr ⟨kv_tb3 (List.mem_of_getElem? (i := 205) (by decide +kernel)), by decide +kernel⟩
theorem kw_754 : (Jvm.Cond.instanceMethod ({ cls := "KeptLump$LongNet", name := "build", desc := "(LKeptLump$State;LKeptLump$Net;)V" } : Jvm.MethodName)) ∈ kv_gw := List.mem_filter.mpr ⟨kv_tb3 (List.mem_of_getElem? (i := 206) (by decide +kernel)), by decide +kernel⟩
theorem kw_755 : (Jvm.Cond.selects "KeptLump$LongNet" ({ cls := "KeptLump$LongNet", name := "build", desc := "(LKeptLump$State;LKeptLump$Net;)V" } : Jvm.MethodName) ({ cls := "KeptLump$LongNet", name := "build", desc := "(LKeptLump$State;LKeptLump$Net;)V" } : Jvm.MethodName)) ∈ kv_gw := List.mem_filter.mpr ⟨kv_tb3 (List.mem_of_getElem? (i := 207) (by decide +kernel)), by decide +kernel⟩
theorem kw_756 : (Jvm.Cond.code ({ cls := "KeptLump$LongNet", name := "build", desc := "(LKeptLump$State;LKeptLump$Net;)V" } : Jvm.MethodName) prog_4_method_8_code (6 : Nat) (Option.none : Option Jvm.ClassFile.FieldType)) ∈ kv_gw := List.mem_filter.mpr ⟨kv_tb3 (List.mem_of_getElem? (i := 208) (by decide +kernel)), by decide +kernel⟩
theorem kw_757 : (Jvm.Cond.methodLink "KeptLump$LongNet" (56 : Nat) ({ cls := "KeptLump$LongNet", name := "isSaid", desc := "(LKeptLump$Weighings;I)Z" } : Jvm.MethodName)) ∈ kv_gw := List.mem_filter.mpr ⟨kv_tb3 (List.mem_of_getElem? (i := 209) (by decide +kernel)), by decide +kernel⟩
theorem kw_758 : (Jvm.Cond.instanceMethod ({ cls := "KeptLump$LongNet", name := "isSaid", desc := "(LKeptLump$Weighings;I)Z" } : Jvm.MethodName)) ∈ kv_gw := List.mem_filter.mpr ⟨kv_tb3 (List.mem_of_getElem? (i := 210) (by decide +kernel)), by decide +kernel⟩
theorem kw_759 : (Jvm.Cond.selects "KeptLump$LongNet" ({ cls := "KeptLump$LongNet", name := "isSaid", desc := "(LKeptLump$Weighings;I)Z" } : Jvm.MethodName) ({ cls := "KeptLump$LongNet", name := "isSaid", desc := "(LKeptLump$Weighings;I)Z" } : Jvm.MethodName)) ∈ kv_gw := List.mem_filter.mpr ⟨kv_tb3 (List.mem_of_getElem? (i := 211) (by decide +kernel)), by decide +kernel⟩
theorem kw_760 : (Jvm.Cond.code ({ cls := "KeptLump$LongNet", name := "isSaid", desc := "(LKeptLump$Weighings;I)Z" } : Jvm.MethodName) prog_4_method_9_code (3 : Nat) (Option.some Jvm.ClassFile.FieldType.boolean)) ∈ kv_gw := List.mem_filter.mpr ⟨kv_tb3 (List.mem_of_getElem? (i := 212) (by decide +kernel)), by decide +kernel⟩
theorem kw_761 : (Jvm.Cond.methodLink "KeptLump$LongNet" (66 : Nat) ({ cls := "KeptLump$LongNet", name := "meant", desc := "(II)I" } : Jvm.MethodName)) ∈ kv_gw := List.mem_filter.mpr ⟨kv_tb3 (List.mem_of_getElem? (i := 213) (by decide +kernel)), by decide +kernel⟩
theorem kw_762 : (Jvm.Cond.instanceMethod ({ cls := "KeptLump$LongNet", name := "meant", desc := "(II)I" } : Jvm.MethodName)) ∈ kv_gw := List.mem_filter.mpr ⟨kv_tb3 (List.mem_of_getElem? (i := 214) (by decide +kernel)), by decide +kernel⟩
theorem kw_763 : (Jvm.Cond.selects "KeptLump$LongNet" ({ cls := "KeptLump$LongNet", name := "meant", desc := "(II)I" } : Jvm.MethodName) ({ cls := "KeptLump$LongNet", name := "meant", desc := "(II)I" } : Jvm.MethodName)) ∈ kv_gw := List.mem_filter.mpr ⟨kv_tb3 (List.mem_of_getElem? (i := 215) (by decide +kernel)), by decide +kernel⟩
theorem kw_764 : (Jvm.Cond.code ({ cls := "KeptLump$LongNet", name := "meant", desc := "(II)I" } : Jvm.MethodName) prog_4_method_4_code (3 : Nat) (Option.some Jvm.ClassFile.FieldType.int)) ∈ kv_gw := List.mem_filter.mpr ⟨kv_tb3 (List.mem_of_getElem? (i := 216) (by decide +kernel)), by decide +kernel⟩
theorem kw_765 : (Jvm.Cond.methodLink "KeptLump$LongNet" (70 : Nat) ({ cls := "KeptLump$LongNet", name := "addKnot", desc := "(II)V" } : Jvm.MethodName)) ∈ kv_gw := List.mem_filter.mpr ⟨kv_tb3 (List.mem_of_getElem? (i := 217) (by decide +kernel)), by decide +kernel⟩
theorem kw_766 : (Jvm.Cond.methodLink "KeptLump$LongNet" (77 : Nat) ({ cls := "KeptLump$Net", name := "start", desc := "(I)V" } : Jvm.MethodName)) ∈ kv_gw := List.mem_filter.mpr ⟨kv_tb3 (List.mem_of_getElem? (i := 218) (by decide +kernel)), by decide +kernel⟩
theorem kw_767 : (Jvm.Cond.methodLink "KeptLump$LongNet" (81 : Nat) ({ cls := "KeptLump$LongNet", name := "boundByWeighing", desc := "(LKeptLump$Weighings;ILKeptLump$Net;)V" } : Jvm.MethodName)) ∈ kv_gw := List.mem_filter.mpr ⟨kv_tb3 (List.mem_of_getElem? (i := 219) (by decide +kernel)), by decide +kernel⟩
theorem kw_768 : (Jvm.Cond.instanceMethod ({ cls := "KeptLump$LongNet", name := "boundByWeighing", desc := "(LKeptLump$Weighings;ILKeptLump$Net;)V" } : Jvm.MethodName)) ∈ kv_gw := List.mem_filter.mpr ⟨kv_tb3 (List.mem_of_getElem? (i := 220) (by decide +kernel)), by decide +kernel⟩
theorem kw_769 : (Jvm.Cond.selects "KeptLump$LongNet" ({ cls := "KeptLump$LongNet", name := "boundByWeighing", desc := "(LKeptLump$Weighings;ILKeptLump$Net;)V" } : Jvm.MethodName) ({ cls := "KeptLump$LongNet", name := "boundByWeighing", desc := "(LKeptLump$Weighings;ILKeptLump$Net;)V" } : Jvm.MethodName)) ∈ kv_gw := List.mem_filter.mpr ⟨kv_tb3 (List.mem_of_getElem? (i := 221) (by decide +kernel)), by decide +kernel⟩
theorem kw_770 : (Jvm.Cond.code ({ cls := "KeptLump$LongNet", name := "boundByWeighing", desc := "(LKeptLump$Weighings;ILKeptLump$Net;)V" } : Jvm.MethodName) prog_4_method_10_code (7 : Nat) (Option.none : Option Jvm.ClassFile.FieldType)) ∈ kv_gw := List.mem_filter.mpr ⟨kv_tb3 (List.mem_of_getElem? (i := 222) (by decide +kernel)), by decide +kernel⟩
theorem kw_771 : (Jvm.Cond.methodLink "KeptLump$LongNet" (93 : Nat) ({ cls := "KeptLump$LongNet", name := "knotAt", desc := "(II)I" } : Jvm.MethodName)) ∈ kv_gw := List.mem_filter.mpr ⟨kv_tb3 (List.mem_of_getElem? (i := 223) (by decide +kernel)), by decide +kernel⟩
theorem kw_772 : (Jvm.Cond.instanceMethod ({ cls := "KeptLump$LongNet", name := "knotAt", desc := "(II)I" } : Jvm.MethodName)) ∈ kv_gw := List.mem_filter.mpr ⟨kv_tb3 (List.mem_of_getElem? (i := 224) (by decide +kernel)), by decide +kernel⟩
theorem kw_773 : (Jvm.Cond.selects "KeptLump$LongNet" ({ cls := "KeptLump$LongNet", name := "knotAt", desc := "(II)I" } : Jvm.MethodName) ({ cls := "KeptLump$LongNet", name := "knotAt", desc := "(II)I" } : Jvm.MethodName)) ∈ kv_gw := List.mem_filter.mpr ⟨kv_tb3 (List.mem_of_getElem? (i := 225) (by decide +kernel)), by decide +kernel⟩
theorem kw_774 : (Jvm.Cond.code ({ cls := "KeptLump$LongNet", name := "knotAt", desc := "(II)I" } : Jvm.MethodName) prog_4_method_6_code (3 : Nat) (Option.some Jvm.ClassFile.FieldType.int)) ∈ kv_gw := List.mem_filter.mpr ⟨kv_tb3 (List.mem_of_getElem? (i := 226) (by decide +kernel)), by decide +kernel⟩
theorem kw_775 : (Jvm.Cond.methodLink "KeptLump$LongNet" (96 : Nat) ({ cls := "KeptLump$Weighings", name := "least", desc := "(I)I" } : Jvm.MethodName)) ∈ kv_gw := List.mem_filter.mpr ⟨kv_tb3 (List.mem_of_getElem? (i := 227) (by decide +kernel)), by decide +kernel⟩
theorem kw_776 : (Jvm.Cond.methodLink "KeptLump$LongNet" (99 : Nat) ({ cls := "KeptLump$Weighings", name := "greatest", desc := "(I)I" } : Jvm.MethodName)) ∈ kv_gw := List.mem_filter.mpr ⟨kv_tb3 (List.mem_of_getElem? (i := 228) (by decide +kernel)), by decide +kernel⟩
theorem kw_777 : (Jvm.Cond.methodLink "KeptLump$LongNet" (102 : Nat) ({ cls := "KeptLump$Net", name := "bound", desc := "(IIII)V" } : Jvm.MethodName)) ∈ kv_gw := List.mem_filter.mpr ⟨kv_tb3 (List.mem_of_getElem? (i := 229) (by decide +kernel)), by decide +kernel⟩
theorem kw_778 : (Jvm.Cond.methodLink "KeptLump$LongNet" (85 : Nat) ({ cls := "KeptLump$LongNet", name := "boundByGrowth", desc := "(LKeptLump$State;LKeptLump$Net;)V" } : Jvm.MethodName)) ∈ kv_gw := List.mem_filter.mpr ⟨kv_tb3 (List.mem_of_getElem? (i := 230) (by decide +kernel)), by decide +kernel⟩
theorem kw_779 : (Jvm.Cond.instanceMethod ({ cls := "KeptLump$LongNet", name := "boundByGrowth", desc := "(LKeptLump$State;LKeptLump$Net;)V" } : Jvm.MethodName)) ∈ kv_gw := List.mem_filter.mpr ⟨kv_tb3 (List.mem_of_getElem? (i := 231) (by decide +kernel)), by decide +kernel⟩
theorem kw_780 : (Jvm.Cond.selects "KeptLump$LongNet" ({ cls := "KeptLump$LongNet", name := "boundByGrowth", desc := "(LKeptLump$State;LKeptLump$Net;)V" } : Jvm.MethodName) ({ cls := "KeptLump$LongNet", name := "boundByGrowth", desc := "(LKeptLump$State;LKeptLump$Net;)V" } : Jvm.MethodName)) ∈ kv_gw := List.mem_filter.mpr ⟨kv_tb3 (List.mem_of_getElem? (i := 232) (by decide +kernel)), by decide +kernel⟩
theorem kw_781 : (Jvm.Cond.code ({ cls := "KeptLump$LongNet", name := "boundByGrowth", desc := "(LKeptLump$State;LKeptLump$Net;)V" } : Jvm.MethodName) prog_4_method_11_code (9 : Nat) (Option.none : Option Jvm.ClassFile.FieldType)) ∈ kv_gw := List.mem_filter.mpr ⟨kv_tb3 (List.mem_of_getElem? (i := 233) (by decide +kernel)), by decide +kernel⟩
theorem kw_782 : (Jvm.Cond.methodLink "KeptLump" (230 : Nat) ({ cls := "KeptLump$LongNet", name := "knotAt", desc := "(II)I" } : Jvm.MethodName)) ∈ kv_gw := List.mem_filter.mpr ⟨kv_tb3 (List.mem_of_getElem? (i := 234) (by decide +kernel)), by decide +kernel⟩
theorem kw_787 : (Jvm.Cond.methodLink "KeptLump" (233 : Nat) ({ cls := "KeptLump", name := "longNetHolds", desc := "()Z" } : Jvm.MethodName)) ∈ kv_gw := List.mem_filter.mpr ⟨kv_tb3 (List.mem_of_getElem? (i := 239) (by decide +kernel)), by decide +kernel⟩
theorem kw_789 : (Jvm.Cond.instanceMethod ({ cls := "KeptLump", name := "longNetHolds", desc := "()Z" } : Jvm.MethodName)) ∈ kv_gw := List.mem_filter.mpr ⟨kv_tb4 (List.mem_of_getElem? (i := 1) (by decide +kernel)), by decide +kernel⟩
theorem kw_790 : (Jvm.Cond.code ({ cls := "KeptLump", name := "longNetHolds", desc := "()Z" } : Jvm.MethodName) prog_1_method_55_code (1 : Nat) (Option.some Jvm.ClassFile.FieldType.boolean)) ∈ kv_gw := List.mem_filter.mpr ⟨kv_tb4 (List.mem_of_getElem? (i := 2) (by decide +kernel)), by decide +kernel⟩
theorem kw_795 : (Jvm.Cond.methodLink "KeptLump" (240 : Nat) ({ cls := "KeptLump", name := "longNetHoldsWithout", desc := "(I)Z" } : Jvm.MethodName)) ∈ kv_gw := List.mem_filter.mpr ⟨kv_tb4 (List.mem_of_getElem? (i := 7) (by decide +kernel)), by decide +kernel⟩
theorem kw_797 : (Jvm.Cond.instanceMethod ({ cls := "KeptLump", name := "longNetHoldsWithout", desc := "(I)Z" } : Jvm.MethodName)) ∈ kv_gw := List.mem_filter.mpr ⟨kv_tb4 (List.mem_of_getElem? (i := 9) (by decide +kernel)), by decide +kernel⟩
theorem kw_798 : (Jvm.Cond.code ({ cls := "KeptLump", name := "longNetHoldsWithout", desc := "(I)Z" } : Jvm.MethodName) prog_1_method_56_code (2 : Nat) (Option.some Jvm.ClassFile.FieldType.boolean)) ∈ kv_gw := List.mem_filter.mpr ⟨kv_tb4 (List.mem_of_getElem? (i := 10) (by decide +kernel)), by decide +kernel⟩
theorem kw_803 : (Jvm.Cond.methodLink "KeptLump" (243 : Nat) ({ cls := "KeptLump", name := "isOrderedPair", desc := "(I)Z" } : Jvm.MethodName)) ∈ kv_gw := List.mem_filter.mpr ⟨kv_tb4 (List.mem_of_getElem? (i := 15) (by decide +kernel)), by decide +kernel⟩
theorem kw_805 : (Jvm.Cond.instanceMethod ({ cls := "KeptLump", name := "isOrderedPair", desc := "(I)Z" } : Jvm.MethodName)) ∈ kv_gw := List.mem_filter.mpr ⟨kv_tb4 (List.mem_of_getElem? (i := 17) (by decide +kernel)), by decide +kernel⟩
theorem kw_806 : (Jvm.Cond.code ({ cls := "KeptLump", name := "isOrderedPair", desc := "(I)Z" } : Jvm.MethodName) prog_1_method_46_code (2 : Nat) (Option.some Jvm.ClassFile.FieldType.boolean)) ∈ kv_gw := List.mem_filter.mpr ⟨kv_tb4 (List.mem_of_getElem? (i := 18) (by decide +kernel)), by decide +kernel⟩
theorem kw_807 : (Jvm.Cond.methodLink "KeptLump" (246 : Nat) ({ cls := "KeptLump", name := "longNetHoldsSwapped", desc := "(III)Z" } : Jvm.MethodName)) ∈ kv_gw := List.mem_filter.mpr ⟨kv_tb4 (List.mem_of_getElem? (i := 19) (by decide +kernel)), by decide +kernel⟩
theorem kw_809 : (Jvm.Cond.instanceMethod ({ cls := "KeptLump", name := "longNetHoldsSwapped", desc := "(III)Z" } : Jvm.MethodName)) ∈ kv_gw := List.mem_filter.mpr ⟨kv_tb4 (List.mem_of_getElem? (i := 21) (by decide +kernel)), by decide +kernel⟩
theorem kw_810 : (Jvm.Cond.code ({ cls := "KeptLump", name := "longNetHoldsSwapped", desc := "(III)Z" } : Jvm.MethodName) prog_1_method_57_code (4 : Nat) (Option.some Jvm.ClassFile.FieldType.boolean)) ∈ kv_gw := List.mem_filter.mpr ⟨kv_tb4 (List.mem_of_getElem? (i := 22) (by decide +kernel)), by decide +kernel⟩
theorem kw_811 : (Jvm.Cond.methodLink "KeptLump" (450 : Nat) ({ cls := "KeptLump$LongNet", name := "swapFrom", desc := "(III)V" } : Jvm.MethodName)) ∈ kv_gw := List.mem_filter.mpr ⟨kv_tb4 (List.mem_of_getElem? (i := 23) (by decide +kernel)), by decide +kernel⟩
theorem kw_816 : (Jvm.Cond.methodLink "KeptLump" (249 : Nat) ({ cls := "KeptLump", name := "isStorySet", desc := "(I)Z" } : Jvm.MethodName)) ∈ kv_gw := List.mem_filter.mpr ⟨kv_tb4 (List.mem_of_getElem? (i := 28) (by decide +kernel)), by decide +kernel⟩
theorem kw_818 : (Jvm.Cond.instanceMethod ({ cls := "KeptLump", name := "isStorySet", desc := "(I)Z" } : Jvm.MethodName)) ∈ kv_gw := List.mem_filter.mpr ⟨kv_tb4 (List.mem_of_getElem? (i := 30) (by decide +kernel)), by decide +kernel⟩
theorem kw_819 : (Jvm.Cond.code ({ cls := "KeptLump", name := "isStorySet", desc := "(I)Z" } : Jvm.MethodName) prog_1_method_58_code (2 : Nat) (Option.some Jvm.ClassFile.FieldType.boolean)) ∈ kv_gw := List.mem_filter.mpr ⟨kv_tb4 (List.mem_of_getElem? (i := 31) (by decide +kernel)), by decide +kernel⟩
theorem kw_820 : (Jvm.Cond.methodLink "KeptLump" (453 : Nat) ({ cls := "java/lang/Integer", name := "bitCount", desc := "(I)I" } : Jvm.MethodName)) ∈ kv_gw := List.mem_filter.mpr ⟨kv_tb4 (List.mem_of_getElem? (i := 32) (by decide +kernel)), by decide +kernel⟩
theorem kw_821 : (Jvm.Cond.static ({ cls := "java/lang/Integer", name := "bitCount", desc := "(I)I" } : Jvm.MethodName)) ∈ kv_gw := List.mem_filter.mpr ⟨kv_tb4 (List.mem_of_getElem? (i := 33) (by decide +kernel)), by decide +kernel⟩
theorem kw_822 : (Jvm.Cond.code ({ cls := "java/lang/Integer", name := "bitCount", desc := "(I)I" } : Jvm.MethodName) prog_17_method_49_code (1 : Nat) (Option.some Jvm.ClassFile.FieldType.int)) ∈ kv_gw := List.mem_filter.mpr ⟨kv_tb4 (List.mem_of_getElem? (i := 34) (by decide +kernel)), by decide +kernel⟩
theorem kw_823 : (Jvm.Cond.constant "java/lang/Integer" (265 : Nat) (1431655765 : Int32)) ∈ kv_gw := List.mem_filter.mpr ⟨kv_tb4 (List.mem_of_getElem? (i := 35) (by decide +kernel)), by decide +kernel⟩
theorem kw_824 : (Jvm.Cond.constant "java/lang/Integer" (266 : Nat) (858993459 : Int32)) ∈ kv_gw := List.mem_filter.mpr ⟨kv_tb4 (List.mem_of_getElem? (i := 36) (by decide +kernel)), by decide +kernel⟩
theorem kw_825 : (Jvm.Cond.constant "java/lang/Integer" (267 : Nat) (252645135 : Int32)) ∈ kv_gw := List.mem_filter.mpr ⟨kv_tb4 (List.mem_of_getElem? (i := 37) (by decide +kernel)), by decide +kernel⟩
theorem kw_826 : (Jvm.Cond.methodLink "KeptLump" (255 : Nat) ({ cls := "KeptLump", name := "storiesOf", desc := "(I)I" } : Jvm.MethodName)) ∈ kv_gw := List.mem_filter.mpr ⟨kv_tb4 (List.mem_of_getElem? (i := 38) (by decide +kernel)), by decide +kernel⟩
theorem kw_827 : (Jvm.Cond.static ({ cls := "KeptLump", name := "storiesOf", desc := "(I)I" } : Jvm.MethodName)) ∈ kv_gw := List.mem_filter.mpr ⟨kv_tb4 (List.mem_of_getElem? (i := 39) (by decide +kernel)), by decide +kernel⟩
theorem kw_828 : (Jvm.Cond.code ({ cls := "KeptLump", name := "storiesOf", desc := "(I)I" } : Jvm.MethodName) prog_1_method_59_code (3 : Nat) (Option.some Jvm.ClassFile.FieldType.int)) ∈ kv_gw := List.mem_filter.mpr ⟨kv_tb4 (List.mem_of_getElem? (i := 40) (by decide +kernel)), by decide +kernel⟩
theorem kw_829 : (Jvm.Cond.methodLink "KeptLump" (258 : Nat) ({ cls := "KeptLump$Net", name := "cutTo", desc := "(I)V" } : Jvm.MethodName)) ∈ kv_gw := List.mem_filter.mpr ⟨kv_tb4 (List.mem_of_getElem? (i := 41) (by decide +kernel)), by decide +kernel⟩
theorem kw_830 : (Jvm.Cond.instanceMethod ({ cls := "KeptLump$Net", name := "cutTo", desc := "(I)V" } : Jvm.MethodName)) ∈ kv_gw := List.mem_filter.mpr ⟨kv_tb4 (List.mem_of_getElem? (i := 42) (by decide +kernel)), by decide +kernel⟩
theorem kw_831 : (Jvm.Cond.selects "KeptLump$Net" ({ cls := "KeptLump$Net", name := "cutTo", desc := "(I)V" } : Jvm.MethodName) ({ cls := "KeptLump$Net", name := "cutTo", desc := "(I)V" } : Jvm.MethodName)) ∈ kv_gw := List.mem_filter.mpr ⟨kv_tb4 (List.mem_of_getElem? (i := 43) (by decide +kernel)), by decide +kernel⟩
theorem kw_832 : (Jvm.Cond.code ({ cls := "KeptLump$Net", name := "cutTo", desc := "(I)V" } : Jvm.MethodName) prog_6_method_3_code (2 : Nat) (Option.none : Option Jvm.ClassFile.FieldType)) ∈ kv_gw := List.mem_filter.mpr ⟨kv_tb4 (List.mem_of_getElem? (i := 44) (by decide +kernel)), by decide +kernel⟩
theorem kw_833 : (Jvm.Cond.methodLink "KeptLump" (261 : Nat) ({ cls := "KeptLump", name := "tellStory", desc := "(III)V" } : Jvm.MethodName)) ∈ kv_gw := List.mem_filter.mpr ⟨kv_tb4 (List.mem_of_getElem? (i := 45) (by decide +kernel)), by decide +kernel⟩
theorem kw_835 : (Jvm.Cond.instanceMethod ({ cls := "KeptLump", name := "tellStory", desc := "(III)V" } : Jvm.MethodName)) ∈ kv_gw := List.mem_filter.mpr ⟨kv_tb4 (List.mem_of_getElem? (i := 47) (by decide +kernel)), by decide +kernel⟩
theorem kw_836 : (Jvm.Cond.code ({ cls := "KeptLump", name := "tellStory", desc := "(III)V" } : Jvm.MethodName) prog_1_method_60_code (9 : Nat) (Option.none : Option Jvm.ClassFile.FieldType)) ∈ kv_gw := List.mem_filter.mpr ⟨kv_tb4 (List.mem_of_getElem? (i := 48) (by decide +kernel)), by decide +kernel⟩
theorem kw_841 : (Jvm.Cond.methodLink "KeptLump" (265 : Nat) ({ cls := "KeptLump", name := "bytesRefusal", desc := "(I)I" } : Jvm.MethodName)) ∈ kv_gw := List.mem_filter.mpr ⟨kv_tb4 (List.mem_of_getElem? (i := 53) (by decide +kernel)), by decide +kernel⟩
theorem kw_843 : (Jvm.Cond.instanceMethod ({ cls := "KeptLump", name := "bytesRefusal", desc := "(I)I" } : Jvm.MethodName)) ∈ kv_gw := List.mem_filter.mpr ⟨kv_tb4 (List.mem_of_getElem? (i := 55) (by decide +kernel)), by decide +kernel⟩
theorem kw_844 : (Jvm.Cond.code ({ cls := "KeptLump", name := "bytesRefusal", desc := "(I)I" } : Jvm.MethodName) prog_1_method_48_code (3 : Nat) (Option.some Jvm.ClassFile.FieldType.int)) ∈ kv_gw := List.mem_filter.mpr ⟨kv_tb4 (List.mem_of_getElem? (i := 56) (by decide +kernel)), by decide +kernel⟩
theorem kw_845 : (Jvm.Cond.methodLink "KeptLump" (268 : Nat) ({ cls := "KeptLump$Reader", name := "read", desc := "([IILKeptLump$State;)I" } : Jvm.MethodName)) ∈ kv_gw := List.mem_filter.mpr ⟨kv_tb4 (List.mem_of_getElem? (i := 57) (by decide +kernel)), by decide +kernel⟩
theorem kw_846 : (Jvm.Cond.instanceMethod ({ cls := "KeptLump$Reader", name := "read", desc := "([IILKeptLump$State;)I" } : Jvm.MethodName)) ∈ kv_gw := List.mem_filter.mpr ⟨kv_tb4 (List.mem_of_getElem? (i := 58) (by decide +kernel)), by decide +kernel⟩
theorem kw_847 : (Jvm.Cond.selects "KeptLump$Reader" ({ cls := "KeptLump$Reader", name := "read", desc := "([IILKeptLump$State;)I" } : Jvm.MethodName) ({ cls := "KeptLump$Reader", name := "read", desc := "([IILKeptLump$State;)I" } : Jvm.MethodName)) ∈ kv_gw := List.mem_filter.mpr ⟨kv_tb4 (List.mem_of_getElem? (i := 59) (by decide +kernel)), by decide +kernel⟩
theorem kw_848 : (Jvm.Cond.code ({ cls := "KeptLump$Reader", name := "read", desc := "([IILKeptLump$State;)I" } : Jvm.MethodName) prog_8_method_2_code (5 : Nat) (Option.some Jvm.ClassFile.FieldType.int)) ∈ kv_gw := List.mem_filter.mpr ⟨kv_tb4 (List.mem_of_getElem? (i := 60) (by decide +kernel)), by decide +kernel⟩
theorem kw_849 : (Jvm.Cond.methodLink "KeptLump$Reader" (15 : Nat) ({ cls := "KeptLump$Reader", name := "start", desc := "([IILKeptLump$State;)V" } : Jvm.MethodName)) ∈ kv_gw := List.mem_filter.mpr ⟨kv_tb4 (List.mem_of_getElem? (i := 61) (by decide +kernel)), by decide +kernel⟩
theorem kw_850 : (Jvm.Cond.instanceMethod ({ cls := "KeptLump$Reader", name := "start", desc := "([IILKeptLump$State;)V" } : Jvm.MethodName)) ∈ kv_gw := List.mem_filter.mpr ⟨kv_tb4 (List.mem_of_getElem? (i := 62) (by decide +kernel)), by decide +kernel⟩
theorem kw_851 : (Jvm.Cond.selects "KeptLump$Reader" ({ cls := "KeptLump$Reader", name := "start", desc := "([IILKeptLump$State;)V" } : Jvm.MethodName) ({ cls := "KeptLump$Reader", name := "start", desc := "([IILKeptLump$State;)V" } : Jvm.MethodName)) ∈ kv_gw := List.mem_filter.mpr ⟨kv_tb4 (List.mem_of_getElem? (i := 63) (by decide +kernel)), by decide +kernel⟩
theorem kw_852 : (Jvm.Cond.code ({ cls := "KeptLump$Reader", name := "start", desc := "([IILKeptLump$State;)V" } : Jvm.MethodName) prog_8_method_3_code (4 : Nat) (Option.none : Option Jvm.ClassFile.FieldType)) ∈ kv_gw := List.mem_filter.mpr ⟨kv_tb4 (List.mem_of_getElem? (i := 64) (by decide +kernel)), by decide +kernel⟩
theorem kw_853 : (Jvm.Cond.methodLink "KeptLump$Reader" (35 : Nat) ({ cls := "java/lang/System", name := "arraycopy", desc := "(Ljava/lang/Object;ILjava/lang/Object;II)V" } : Jvm.MethodName)) ∈ kv_gw := List.mem_filter.mpr ⟨kv_tb4 (List.mem_of_getElem? (i := 65) (by decide +kernel)), by decide +kernel⟩
theorem kw_854 : (Jvm.Cond.methodLink "KeptLump$Reader" (60 : Nat) ({ cls := "KeptLump$Lumps", name := "mean", desc := "(II)I" } : Jvm.MethodName)) ∈ kv_gw := List.mem_filter.mpr ⟨kv_tb4 (List.mem_of_getElem? (i := 66) (by decide +kernel)), by decide +kernel⟩
theorem kw_855 : (Jvm.Cond.instanceMethod ({ cls := "KeptLump$Lumps", name := "mean", desc := "(II)I" } : Jvm.MethodName)) ∈ kv_gw := List.mem_filter.mpr ⟨kv_tb4 (List.mem_of_getElem? (i := 67) (by decide +kernel)), by decide +kernel⟩
theorem kw_856 : (Jvm.Cond.selects "KeptLump$Lumps" ({ cls := "KeptLump$Lumps", name := "mean", desc := "(II)I" } : Jvm.MethodName) ({ cls := "KeptLump$Lumps", name := "mean", desc := "(II)I" } : Jvm.MethodName)) ∈ kv_gw := List.mem_filter.mpr ⟨kv_tb4 (List.mem_of_getElem? (i := 68) (by decide +kernel)), by decide +kernel⟩
theorem kw_857 : (Jvm.Cond.code ({ cls := "KeptLump$Lumps", name := "mean", desc := "(II)I" } : Jvm.MethodName) prog_5_method_10_code (6 : Nat) (Option.some Jvm.ClassFile.FieldType.int)) ∈ kv_gw := List.mem_filter.mpr ⟨kv_tb4 (List.mem_of_getElem? (i := 69) (by decide +kernel)), by decide +kernel⟩
theorem kw_858 : (Jvm.Cond.methodLink "KeptLump$Reader" (19 : Nat) ({ cls := "KeptLump$Reader", name := "statement", desc := "()V" } : Jvm.MethodName)) ∈ kv_gw := List.mem_filter.mpr ⟨kv_tb4 (List.mem_of_getElem? (i := 70) (by decide +kernel)), by decide +kernel⟩
theorem kw_859 : (Jvm.Cond.instanceMethod ({ cls := "KeptLump$Reader", name := "statement", desc := "()V" } : Jvm.MethodName)) ∈ kv_gw := List.mem_filter.mpr ⟨kv_tb4 (List.mem_of_getElem? (i := 71) (by decide +kernel)), by decide +kernel⟩
theorem kw_860 : (Jvm.Cond.selects "KeptLump$Reader" ({ cls := "KeptLump$Reader", name := "statement", desc := "()V" } : Jvm.MethodName) ({ cls := "KeptLump$Reader", name := "statement", desc := "()V" } : Jvm.MethodName)) ∈ kv_gw := List.mem_filter.mpr ⟨kv_tb4 (List.mem_of_getElem? (i := 72) (by decide +kernel)), by decide +kernel⟩
theorem kw_861 : (Jvm.Cond.code ({ cls := "KeptLump$Reader", name := "statement", desc := "()V" } : Jvm.MethodName) prog_8_method_5_code (4 : Nat) (Option.none : Option Jvm.ClassFile.FieldType)) ∈ kv_gw := List.mem_filter.mpr ⟨kv_tb4 (List.mem_of_getElem? (i := 73) (by decide +kernel)), by decide +kernel⟩
theorem kw_862 : (Jvm.Cond.methodLink "KeptLump$Reader" (78 : Nat) ({ cls := "KeptLump$Reader", name := "number", desc := "()I" } : Jvm.MethodName)) ∈ kv_gw := List.mem_filter.mpr ⟨kv_tb4 (List.mem_of_getElem? (i := 74) (by decide +kernel)), by decide +kernel⟩
theorem kw_863 : (Jvm.Cond.instanceMethod ({ cls := "KeptLump$Reader", name := "number", desc := "()I" } : Jvm.MethodName)) ∈ kv_gw := List.mem_filter.mpr ⟨kv_tb4 (List.mem_of_getElem? (i := 75) (by decide +kernel)), by decide +kernel⟩
theorem kw_864 : (Jvm.Cond.selects "KeptLump$Reader" ({ cls := "KeptLump$Reader", name := "number", desc := "()I" } : Jvm.MethodName) ({ cls := "KeptLump$Reader", name := "number", desc := "()I" } : Jvm.MethodName)) ∈ kv_gw := List.mem_filter.mpr ⟨kv_tb4 (List.mem_of_getElem? (i := 76) (by decide +kernel)), by decide +kernel⟩
theorem kw_865 : (Jvm.Cond.code ({ cls := "KeptLump$Reader", name := "number", desc := "()I" } : Jvm.MethodName) prog_8_method_10_code (4 : Nat) (Option.some Jvm.ClassFile.FieldType.int)) ∈ kv_gw := List.mem_filter.mpr ⟨kv_tb4 (List.mem_of_getElem? (i := 77) (by decide +kernel)), by decide +kernel⟩
theorem kw_866 : (Jvm.Cond.methodLink "KeptLump$Reader" (103 : Nat) ({ cls := "KeptLump$Reader", name := "isAtDigit", desc := "()Z" } : Jvm.MethodName)) ∈ kv_gw := List.mem_filter.mpr ⟨kv_tb4 (List.mem_of_getElem? (i := 78) (by decide +kernel)), by decide +kernel⟩
theorem kw_867 : (Jvm.Cond.instanceMethod ({ cls := "KeptLump$Reader", name := "isAtDigit", desc := "()Z" } : Jvm.MethodName)) ∈ kv_gw := List.mem_filter.mpr ⟨kv_tb4 (List.mem_of_getElem? (i := 79) (by decide +kernel)), by decide +kernel⟩
theorem kw_868 : (Jvm.Cond.selects "KeptLump$Reader" ({ cls := "KeptLump$Reader", name := "isAtDigit", desc := "()Z" } : Jvm.MethodName) ({ cls := "KeptLump$Reader", name := "isAtDigit", desc := "()Z" } : Jvm.MethodName)) ∈ kv_gw := List.mem_filter.mpr ⟨kv_tb4 (List.mem_of_getElem? (i := 80) (by decide +kernel)), by decide +kernel⟩
theorem kw_869 : (Jvm.Cond.code ({ cls := "KeptLump$Reader", name := "isAtDigit", desc := "()Z" } : Jvm.MethodName) prog_8_method_12_code (1 : Nat) (Option.some Jvm.ClassFile.FieldType.boolean)) ∈ kv_gw := List.mem_filter.mpr ⟨kv_tb4 (List.mem_of_getElem? (i := 81) (by decide +kernel)), by decide +kernel⟩
theorem kw_870 : (Jvm.Cond.methodLink "KeptLump$Reader" (107 : Nat) ({ cls := "KeptLump$Reader", name := "stop", desc := "()V" } : Jvm.MethodName)) ∈ kv_gw := List.mem_filter.mpr ⟨kv_tb4 (List.mem_of_getElem? (i := 82) (by decide +kernel)), by decide +kernel⟩
theorem kw_871 : (Jvm.Cond.instanceMethod ({ cls := "KeptLump$Reader", name := "stop", desc := "()V" } : Jvm.MethodName)) ∈ kv_gw := List.mem_filter.mpr ⟨kv_tb4 (List.mem_of_getElem? (i := 83) (by decide +kernel)), by decide +kernel⟩
theorem kw_872 : (Jvm.Cond.selects "KeptLump$Reader" ({ cls := "KeptLump$Reader", name := "stop", desc := "()V" } : Jvm.MethodName) ({ cls := "KeptLump$Reader", name := "stop", desc := "()V" } : Jvm.MethodName)) ∈ kv_gw := List.mem_filter.mpr ⟨kv_tb4 (List.mem_of_getElem? (i := 84) (by decide +kernel)), by decide +kernel⟩
theorem kw_873 : (Jvm.Cond.code ({ cls := "KeptLump$Reader", name := "stop", desc := "()V" } : Jvm.MethodName) prog_8_method_14_code (1 : Nat) (Option.none : Option Jvm.ClassFile.FieldType)) ∈ kv_gw := List.mem_filter.mpr ⟨kv_tb4 (List.mem_of_getElem? (i := 85) (by decide +kernel)), by decide +kernel⟩
theorem kw_874 : (Jvm.Cond.methodLink "KeptLump$Reader" (93 : Nat) ({ cls := "KeptLump$Reader", name := "isAt", desc := "(C)Z" } : Jvm.MethodName)) ∈ kv_gw := List.mem_filter.mpr ⟨kv_tb4 (List.mem_of_getElem? (i := 86) (by decide +kernel)), by decide +kernel⟩
theorem kw_875 : (Jvm.Cond.instanceMethod ({ cls := "KeptLump$Reader", name := "isAt", desc := "(C)Z" } : Jvm.MethodName)) ∈ kv_gw := List.mem_filter.mpr ⟨kv_tb4 (List.mem_of_getElem? (i := 87) (by decide +kernel)), by decide +kernel⟩
theorem kw_876 : (Jvm.Cond.selects "KeptLump$Reader" ({ cls := "KeptLump$Reader", name := "isAt", desc := "(C)Z" } : Jvm.MethodName) ({ cls := "KeptLump$Reader", name := "isAt", desc := "(C)Z" } : Jvm.MethodName)) ∈ kv_gw := List.mem_filter.mpr ⟨kv_tb4 (List.mem_of_getElem? (i := 88) (by decide +kernel)), by decide +kernel⟩
theorem kw_877 : (Jvm.Cond.code ({ cls := "KeptLump$Reader", name := "isAt", desc := "(C)Z" } : Jvm.MethodName) prog_8_method_11_code (2 : Nat) (Option.some Jvm.ClassFile.FieldType.boolean)) ∈ kv_gw := List.mem_filter.mpr ⟨kv_tb4 (List.mem_of_getElem? (i := 89) (by decide +kernel)), by decide +kernel⟩
theorem kw_878 : (Jvm.Cond.methodLink "KeptLump$Reader" (82 : Nat) ({ cls := "KeptLump$Reader", name := "expect", desc := "(C)V" } : Jvm.MethodName)) ∈ kv_gw := List.mem_filter.mpr ⟨kv_tb4 (List.mem_of_getElem? (i := 90) (by decide +kernel)), by decide +kernel⟩
theorem kw_879 : (Jvm.Cond.instanceMethod ({ cls := "KeptLump$Reader", name := "expect", desc := "(C)V" } : Jvm.MethodName)) ∈ kv_gw := List.mem_filter.mpr ⟨kv_tb4 (List.mem_of_getElem? (i := 91) (by decide +kernel)), by decide +kernel⟩
theorem kw_880 : (Jvm.Cond.selects "KeptLump$Reader" ({ cls := "KeptLump$Reader", name := "expect", desc := "(C)V" } : Jvm.MethodName) ({ cls := "KeptLump$Reader", name := "expect", desc := "(C)V" } : Jvm.MethodName)) ∈ kv_gw := List.mem_filter.mpr ⟨kv_tb4 (List.mem_of_getElem? (i := 92) (by decide +kernel)), by decide +kernel⟩
theorem kw_881 : (Jvm.Cond.code ({ cls := "KeptLump$Reader", name := "expect", desc := "(C)V" } : Jvm.MethodName) prog_8_method_13_code (2 : Nat) (Option.none : Option Jvm.ClassFile.FieldType)) ∈ kv_gw := List.mem_filter.mpr ⟨kv_tb4 (List.mem_of_getElem? (i := 93) (by decide +kernel)), by decide +kernel⟩
theorem kw_882 : (Jvm.Cond.methodLink "KeptLump$Reader" (86 : Nat) ({ cls := "KeptLump$Reader", name := "sum", desc := "(I)I" } : Jvm.MethodName)) ∈ kv_gw := List.mem_filter.mpr ⟨kv_tb4 (List.mem_of_getElem? (i := 94) (by decide +kernel)), by decide +kernel⟩
theorem kw_884 : (Jvm.Cond.instanceMethod ({ cls := "KeptLump$Reader", name := "sum", desc := "(I)I" } : Jvm.MethodName)) ∈ kv_gw := List.mem_filter.mpr ⟨kv_tb4 (List.mem_of_getElem? (i := 96) (by decide +kernel)), by decide +kernel⟩
theorem kw_885 : (Jvm.Cond.code ({ cls := "KeptLump$Reader", name := "sum", desc := "(I)I" } : Jvm.MethodName) prog_8_method_6_code (6 : Nat) (Option.some Jvm.ClassFile.FieldType.int)) ∈ kv_gw := List.mem_filter.mpr ⟨kv_tb4 (List.mem_of_getElem? (i := 97) (by decide +kernel)), by decide +kernel⟩
theorem kw_886 : (Jvm.Cond.methodLink "KeptLump$Reader" (90 : Nat) ({ cls := "KeptLump$Reader", name := "product", desc := "(I)I" } : Jvm.MethodName)) ∈ kv_gw := List.mem_filter.mpr ⟨kv_tb4 (List.mem_of_getElem? (i := 98) (by decide +kernel)), by decide +kernel⟩
theorem kw_888 : (Jvm.Cond.instanceMethod ({ cls := "KeptLump$Reader", name := "product", desc := "(I)I" } : Jvm.MethodName)) ∈ kv_gw := List.mem_filter.mpr ⟨kv_tb4 (List.mem_of_getElem? (i := 100) (by decide +kernel)), by decide +kernel⟩
theorem kw_889 : (Jvm.Cond.code ({ cls := "KeptLump$Reader", name := "product", desc := "(I)I" } : Jvm.MethodName) prog_8_method_7_code (6 : Nat) (Option.some Jvm.ClassFile.FieldType.int)) ∈ kv_gw := List.mem_filter.mpr ⟨kv_tb4 (List.mem_of_getElem? (i := 101) (by decide +kernel)), by decide +kernel⟩
theorem kw_890 : (Jvm.Cond.methodLink "KeptLump$Reader" (97 : Nat) ({ cls := "KeptLump$Reader", name := "atom", desc := "(I)I" } : Jvm.MethodName)) ∈ kv_gw := List.mem_filter.mpr ⟨kv_tb4 (List.mem_of_getElem? (i := 102) (by decide +kernel)), by decide +kernel⟩
theorem kw_892 : (Jvm.Cond.instanceMethod ({ cls := "KeptLump$Reader", name := "atom", desc := "(I)I" } : Jvm.MethodName)) ∈ kv_gw := List.mem_filter.mpr ⟨kv_tb4 (List.mem_of_getElem? (i := 104) (by decide +kernel)), by decide +kernel⟩
theorem kw_893 : (Jvm.Cond.code ({ cls := "KeptLump$Reader", name := "atom", desc := "(I)I" } : Jvm.MethodName) prog_8_method_9_code (3 : Nat) (Option.some Jvm.ClassFile.FieldType.int)) ∈ kv_gw := List.mem_filter.mpr ⟨kv_tb4 (List.mem_of_getElem? (i := 105) (by decide +kernel)), by decide +kernel⟩
theorem kw_894 : (Jvm.Cond.methodLink "KeptLump$Reader" (100 : Nat) ({ cls := "KeptLump$Reader", name := "over", desc := "(II)I" } : Jvm.MethodName)) ∈ kv_gw := List.mem_filter.mpr ⟨kv_tb4 (List.mem_of_getElem? (i := 106) (by decide +kernel)), by decide +kernel⟩
theorem kw_895 : (Jvm.Cond.instanceMethod ({ cls := "KeptLump$Reader", name := "over", desc := "(II)I" } : Jvm.MethodName)) ∈ kv_gw := List.mem_filter.mpr ⟨kv_tb4 (List.mem_of_getElem? (i := 107) (by decide +kernel)), by decide +kernel⟩
theorem kw_896 : (Jvm.Cond.selects "KeptLump$Reader" ({ cls := "KeptLump$Reader", name := "over", desc := "(II)I" } : Jvm.MethodName) ({ cls := "KeptLump$Reader", name := "over", desc := "(II)I" } : Jvm.MethodName)) ∈ kv_gw := List.mem_filter.mpr ⟨kv_tb4 (List.mem_of_getElem? (i := 108) (by decide +kernel)), by decide +kernel⟩
theorem kw_897 : (Jvm.Cond.code ({ cls := "KeptLump$Reader", name := "over", desc := "(II)I" } : Jvm.MethodName) prog_8_method_8_code (3 : Nat) (Option.some Jvm.ClassFile.FieldType.int)) ∈ kv_gw := List.mem_filter.mpr ⟨kv_tb4 (List.mem_of_getElem? (i := 109) (by decide +kernel)), by decide +kernel⟩
theorem kw_898 : (Jvm.Cond.methodLink "KeptLump" (272 : Nat) ({ cls := "KeptLump$Reader", name := "faultTold", desc := "()I" } : Jvm.MethodName)) ∈ kv_gw := List.mem_filter.mpr ⟨kv_tb4 (List.mem_of_getElem? (i := 110) (by decide +kernel)), by decide +kernel⟩
theorem kw_899 : (Jvm.Cond.instanceMethod ({ cls := "KeptLump$Reader", name := "faultTold", desc := "()I" } : Jvm.MethodName)) ∈ kv_gw := List.mem_filter.mpr ⟨kv_tb4 (List.mem_of_getElem? (i := 111) (by decide +kernel)), by decide +kernel⟩
theorem kw_900 : (Jvm.Cond.selects "KeptLump$Reader" ({ cls := "KeptLump$Reader", name := "faultTold", desc := "()I" } : Jvm.MethodName) ({ cls := "KeptLump$Reader", name := "faultTold", desc := "()I" } : Jvm.MethodName)) ∈ kv_gw := List.mem_filter.mpr ⟨kv_tb4 (List.mem_of_getElem? (i := 112) (by decide +kernel)), by decide +kernel⟩
theorem kw_901 : (Jvm.Cond.code ({ cls := "KeptLump$Reader", name := "faultTold", desc := "()I" } : Jvm.MethodName) prog_8_method_4_code (1 : Nat) (Option.some Jvm.ClassFile.FieldType.int)) ∈ kv_gw := List.mem_filter.mpr ⟨kv_tb4 (List.mem_of_getElem? (i := 113) (by decide +kernel)), by decide +kernel⟩
theorem kw_902 : (Jvm.Cond.methodLink "KeptLump" (282 : Nat) ({ cls := "KeptLump$Law", name := "write", desc := "([III)V" } : Jvm.MethodName)) ∈ kv_gw := List.mem_filter.mpr ⟨kv_tb4 (List.mem_of_getElem? (i := 114) (by decide +kernel)), by decide +kernel⟩
theorem kw_903 : (Jvm.Cond.instanceMethod ({ cls := "KeptLump$Law", name := "write", desc := "([III)V" } : Jvm.MethodName)) ∈ kv_gw := List.mem_filter.mpr ⟨kv_tb4 (List.mem_of_getElem? (i := 115) (by decide +kernel)), by decide +kernel⟩
theorem kw_904 : (Jvm.Cond.selects "KeptLump$Law" ({ cls := "KeptLump$Law", name := "write", desc := "([III)V" } : Jvm.MethodName) ({ cls := "KeptLump$Law", name := "write", desc := "([III)V" } : Jvm.MethodName)) ∈ kv_gw := List.mem_filter.mpr ⟨kv_tb4 (List.mem_of_getElem? (i := 116) (by decide +kernel)), by decide +kernel⟩
theorem kw_905 : (Jvm.Cond.code ({ cls := "KeptLump$Law", name := "write", desc := "([III)V" } : Jvm.MethodName) prog_3_method_2_code (4 : Nat) (Option.none : Option Jvm.ClassFile.FieldType)) ∈ kv_gw := List.mem_filter.mpr ⟨kv_tb4 (List.mem_of_getElem? (i := 117) (by decide +kernel)), by decide +kernel⟩
theorem kw_906 : (Jvm.Cond.methodLink "KeptLump$Law" (22 : Nat) ({ cls := "java/lang/System", name := "arraycopy", desc := "(Ljava/lang/Object;ILjava/lang/Object;II)V" } : Jvm.MethodName)) ∈ kv_gw := List.mem_filter.mpr ⟨kv_tb4 (List.mem_of_getElem? (i := 118) (by decide +kernel)), by decide +kernel⟩
theorem kw_919 : (Jvm.Cond.constant "KeptLump" (292 : Nat) (-1000000000 : Int32)) ∈ kv_gw := List.mem_filter.mpr ⟨kv_tb4 (List.mem_of_getElem? (i := 131) (by decide +kernel)), by decide +kernel⟩
theorem kw_924 : (Jvm.Cond.methodLink "KeptLump" (293 : Nat) ({ cls := "KeptLump", name := "isChain", desc := "(I)Z" } : Jvm.MethodName)) ∈ kv_gw := List.mem_filter.mpr ⟨kv_tb4 (List.mem_of_getElem? (i := 136) (by decide +kernel)), by decide +kernel⟩
theorem kw_925 : (Jvm.Cond.static ({ cls := "KeptLump", name := "isChain", desc := "(I)Z" } : Jvm.MethodName)) ∈ kv_gw := List.mem_filter.mpr ⟨kv_tb4 (List.mem_of_getElem? (i := 137) (by decide +kernel)), by decide +kernel⟩
theorem kw_926 : (Jvm.Cond.code ({ cls := "KeptLump", name := "isChain", desc := "(I)Z" } : Jvm.MethodName) prog_1_method_43_code (1 : Nat) (Option.some Jvm.ClassFile.FieldType.boolean)) ∈ kv_gw := List.mem_filter.mpr ⟨kv_tb4 (List.mem_of_getElem? (i := 138) (by decide +kernel)), by decide +kernel⟩
theorem kw_927 : (Jvm.Cond.methodLink "KeptLump" (304 : Nat) ({ cls := "KeptLump$Chains", name := "add", desc := "(IIII)I" } : Jvm.MethodName)) ∈ kv_gw := List.mem_filter.mpr ⟨kv_tb4 (List.mem_of_getElem? (i := 139) (by decide +kernel)), by decide +kernel⟩
theorem kw_928 : (Jvm.Cond.instanceMethod ({ cls := "KeptLump$Chains", name := "add", desc := "(IIII)I" } : Jvm.MethodName)) ∈ kv_gw := List.mem_filter.mpr ⟨kv_tb4 (List.mem_of_getElem? (i := 140) (by decide +kernel)), by decide +kernel⟩
theorem kw_929 : (Jvm.Cond.selects "KeptLump$Chains" ({ cls := "KeptLump$Chains", name := "add", desc := "(IIII)I" } : Jvm.MethodName) ({ cls := "KeptLump$Chains", name := "add", desc := "(IIII)I" } : Jvm.MethodName)) ∈ kv_gw := List.mem_filter.mpr ⟨kv_tb4 (List.mem_of_getElem? (i := 141) (by decide +kernel)), by decide +kernel⟩
theorem kw_930 : (Jvm.Cond.code ({ cls := "KeptLump$Chains", name := "add", desc := "(IIII)I" } : Jvm.MethodName) prog_2_method_2_code (6 : Nat) (Option.some Jvm.ClassFile.FieldType.int)) ∈ kv_gw := List.mem_filter.mpr ⟨kv_tb4 (List.mem_of_getElem? (i := 142) (by decide +kernel)), by decide +kernel⟩
theorem kw_935 : (Jvm.Cond.methodLink "KeptLump" (306 : Nat) ({ cls := "KeptLump$Chains", name := "sum", desc := "(I)I" } : Jvm.MethodName)) ∈ kv_gw := List.mem_filter.mpr ⟨kv_tb4 (List.mem_of_getElem? (i := 147) (by decide +kernel)), by decide +kernel⟩
theorem kw_936 : (Jvm.Cond.instanceMethod ({ cls := "KeptLump$Chains", name := "sum", desc := "(I)I" } : Jvm.MethodName)) ∈ kv_gw := List.mem_filter.mpr ⟨kv_tb4 (List.mem_of_getElem? (i := 148) (by decide +kernel)), by decide +kernel⟩
theorem kw_937 : (Jvm.Cond.selects "KeptLump$Chains" ({ cls := "KeptLump$Chains", name := "sum", desc := "(I)I" } : Jvm.MethodName) ({ cls := "KeptLump$Chains", name := "sum", desc := "(I)I" } : Jvm.MethodName)) ∈ kv_gw := List.mem_filter.mpr ⟨kv_tb4 (List.mem_of_getElem? (i := 149) (by decide +kernel)), by decide +kernel⟩
theorem kw_938 : (Jvm.Cond.code ({ cls := "KeptLump$Chains", name := "sum", desc := "(I)I" } : Jvm.MethodName) prog_2_method_3_code (4 : Nat) (Option.some Jvm.ClassFile.FieldType.int)) ∈ kv_gw := List.mem_filter.mpr ⟨kv_tb4 (List.mem_of_getElem? (i := 150) (by decide +kernel)), by decide +kernel⟩
theorem kw_939 : (Jvm.Cond.methodLink "KeptLump" (309 : Nat) ({ cls := "KeptLump$Chains", name := "doubtOf", desc := "(I)I" } : Jvm.MethodName)) ∈ kv_gw := List.mem_filter.mpr ⟨kv_tb4 (List.mem_of_getElem? (i := 151) (by decide +kernel)), by decide +kernel⟩
theorem kw_940 : (Jvm.Cond.instanceMethod ({ cls := "KeptLump$Chains", name := "doubtOf", desc := "(I)I" } : Jvm.MethodName)) ∈ kv_gw := List.mem_filter.mpr ⟨kv_tb4 (List.mem_of_getElem? (i := 152) (by decide +kernel)), by decide +kernel⟩
theorem kw_941 : (Jvm.Cond.selects "KeptLump$Chains" ({ cls := "KeptLump$Chains", name := "doubtOf", desc := "(I)I" } : Jvm.MethodName) ({ cls := "KeptLump$Chains", name := "doubtOf", desc := "(I)I" } : Jvm.MethodName)) ∈ kv_gw := List.mem_filter.mpr ⟨kv_tb4 (List.mem_of_getElem? (i := 153) (by decide +kernel)), by decide +kernel⟩
theorem kw_942 : (Jvm.Cond.code ({ cls := "KeptLump$Chains", name := "doubtOf", desc := "(I)I" } : Jvm.MethodName) prog_2_method_4_code (4 : Nat) (Option.some Jvm.ClassFile.FieldType.int)) ∈ kv_gw := List.mem_filter.mpr ⟨kv_tb4 (List.mem_of_getElem? (i := 154) (by decide +kernel)), by decide +kernel⟩
theorem kw_947 : (Jvm.Cond.methodLink "KeptLump" (312 : Nat) ({ cls := "KeptLump", name := "chainsRefusal", desc := "(II)I" } : Jvm.MethodName)) ∈ kv_gw := List.mem_filter.mpr ⟨kv_tb4 (List.mem_of_getElem? (i := 159) (by decide +kernel)), by decide +kernel⟩
theorem kw_949 : (Jvm.Cond.instanceMethod ({ cls := "KeptLump", name := "chainsRefusal", desc := "(II)I" } : Jvm.MethodName)) ∈ kv_gw := List.mem_filter.mpr ⟨kv_tb4 (List.mem_of_getElem? (i := 161) (by decide +kernel)), by decide +kernel⟩
theorem kw_950 : (Jvm.Cond.code ({ cls := "KeptLump", name := "chainsRefusal", desc := "(II)I" } : Jvm.MethodName) prog_1_method_50_code (3 : Nat) (Option.some Jvm.ClassFile.FieldType.int)) ∈ kv_gw := List.mem_filter.mpr ⟨kv_tb4 (List.mem_of_getElem? (i := 162) (by decide +kernel)), by decide +kernel⟩
theorem kw_951 : (Jvm.Cond.methodLink "KeptLump" (315 : Nat) ({ cls := "KeptLump$Chains", name := "lack", desc := "(II)I" } : Jvm.MethodName)) ∈ kv_gw := List.mem_filter.mpr ⟨kv_tb4 (List.mem_of_getElem? (i := 163) (by decide +kernel)), by decide +kernel⟩
theorem kw_952 : (Jvm.Cond.instanceMethod ({ cls := "KeptLump$Chains", name := "lack", desc := "(II)I" } : Jvm.MethodName)) ∈ kv_gw := List.mem_filter.mpr ⟨kv_tb4 (List.mem_of_getElem? (i := 164) (by decide +kernel)), by decide +kernel⟩
theorem kw_953 : (Jvm.Cond.selects "KeptLump$Chains" ({ cls := "KeptLump$Chains", name := "lack", desc := "(II)I" } : Jvm.MethodName) ({ cls := "KeptLump$Chains", name := "lack", desc := "(II)I" } : Jvm.MethodName)) ∈ kv_gw := List.mem_filter.mpr ⟨kv_tb4 (List.mem_of_getElem? (i := 165) (by decide +kernel)), by decide +kernel⟩
theorem kw_954 : (Jvm.Cond.code ({ cls := "KeptLump$Chains", name := "lack", desc := "(II)I" } : Jvm.MethodName) prog_2_method_5_code (3 : Nat) (Option.some Jvm.ClassFile.FieldType.int)) ∈ kv_gw := List.mem_filter.mpr ⟨kv_tb4 (List.mem_of_getElem? (i := 166) (by decide +kernel)), by decide +kernel⟩
theorem kw_955 : (Jvm.Cond.methodLink "KeptLump$Chains" (24 : Nat) ({ cls := "KeptLump$Chains", name := "sum", desc := "(I)I" } : Jvm.MethodName)) ∈ kv_gw := List.mem_filter.mpr ⟨kv_tb4 (List.mem_of_getElem? (i := 167) (by decide +kernel)), by decide +kernel⟩
theorem kw_956 : (Jvm.Cond.methodLink "KeptLump$Chains" (28 : Nat) ({ cls := "java/lang/Math", name := "abs", desc := "(I)I" } : Jvm.MethodName)) ∈ kv_gw := List.mem_filter.mpr ⟨kv_tb4 (List.mem_of_getElem? (i := 168) (by decide +kernel)), by decide +kernel⟩
theorem kw_957 : (Jvm.Cond.static ({ cls := "java/lang/Math", name := "abs", desc := "(I)I" } : Jvm.MethodName)) ∈ kv_gw := List.mem_filter.mpr ⟨kv_tb4 (List.mem_of_getElem? (i := 169) (by decide +kernel)), by decide +kernel⟩
theorem kw_958 : (Jvm.Cond.code ({ cls := "java/lang/Math", name := "abs", desc := "(I)I" } : Jvm.MethodName) prog_18_method_59_code (1 : Nat) (Option.some Jvm.ClassFile.FieldType.int)) ∈ kv_gw := List.mem_filter.mpr ⟨kv_tb4 (List.mem_of_getElem? (i := 170) (by decide +kernel)), by decide +kernel⟩
theorem kw_959 : (Jvm.Cond.methodLink "KeptLump$Chains" (33 : Nat) ({ cls := "KeptLump$Chains", name := "doubtOf", desc := "(I)I" } : Jvm.MethodName)) ∈ kv_gw := List.mem_filter.mpr ⟨kv_tb4 (List.mem_of_getElem? (i := 171) (by decide +kernel)), by decide +kernel⟩
theorem kw_964 : (Jvm.Cond.methodLink "KeptLump" (318 : Nat) ({ cls := "KeptLump$Chains", name := "linksThatMend", desc := "(II)I" } : Jvm.MethodName)) ∈ kv_gw := List.mem_filter.mpr ⟨kv_tb4 (List.mem_of_getElem? (i := 176) (by decide +kernel)), by decide +kernel⟩
theorem kw_965 : (Jvm.Cond.instanceMethod ({ cls := "KeptLump$Chains", name := "linksThatMend", desc := "(II)I" } : Jvm.MethodName)) ∈ kv_gw := List.mem_filter.mpr ⟨kv_tb4 (List.mem_of_getElem? (i := 177) (by decide +kernel)), by decide +kernel⟩
theorem kw_966 : (Jvm.Cond.selects "KeptLump$Chains" ({ cls := "KeptLump$Chains", name := "linksThatMend", desc := "(II)I" } : Jvm.MethodName) ({ cls := "KeptLump$Chains", name := "linksThatMend", desc := "(II)I" } : Jvm.MethodName)) ∈ kv_gw := List.mem_filter.mpr ⟨kv_tb4 (List.mem_of_getElem? (i := 178) (by decide +kernel)), by decide +kernel⟩
theorem kw_967 : (Jvm.Cond.code ({ cls := "KeptLump$Chains", name := "linksThatMend", desc := "(II)I" } : Jvm.MethodName) prog_2_method_6_code (5 : Nat) (Option.some Jvm.ClassFile.FieldType.int)) ∈ kv_gw := List.mem_filter.mpr ⟨kv_tb4 (List.mem_of_getElem? (i := 179) (by decide +kernel)), by decide +kernel⟩
theorem kw_972 : (Jvm.Cond.methodLink "KeptLump" (321 : Nat) ({ cls := "KeptLump$Chains", name := "willDo", desc := "(II)Z" } : Jvm.MethodName)) ∈ kv_gw := List.mem_filter.mpr ⟨kv_tb4 (List.mem_of_getElem? (i := 184) (by decide +kernel)), by decide +kernel⟩
theorem kw_973 : (Jvm.Cond.instanceMethod ({ cls := "KeptLump$Chains", name := "willDo", desc := "(II)Z" } : Jvm.MethodName)) ∈ kv_gw := List.mem_filter.mpr ⟨kv_tb4 (List.mem_of_getElem? (i := 185) (by decide +kernel)), by decide +kernel⟩
theorem kw_974 : (Jvm.Cond.selects "KeptLump$Chains" ({ cls := "KeptLump$Chains", name := "willDo", desc := "(II)Z" } : Jvm.MethodName) ({ cls := "KeptLump$Chains", name := "willDo", desc := "(II)Z" } : Jvm.MethodName)) ∈ kv_gw := List.mem_filter.mpr ⟨kv_tb4 (List.mem_of_getElem? (i := 186) (by decide +kernel)), by decide +kernel⟩
theorem kw_975 : (Jvm.Cond.code ({ cls := "KeptLump$Chains", name := "willDo", desc := "(II)Z" } : Jvm.MethodName) prog_2_method_7_code (3 : Nat) (Option.some Jvm.ClassFile.FieldType.boolean)) ∈ kv_gw := List.mem_filter.mpr ⟨kv_tb4 (List.mem_of_getElem? (i := 187) (by decide +kernel)), by decide +kernel⟩
theorem kw_976 : (Jvm.Cond.methodLink "KeptLump" (324 : Nat) ({ cls := "java/lang/Math", name := "max", desc := "(II)I" } : Jvm.MethodName)) ∈ kv_gw := List.mem_filter.mpr ⟨kv_tb4 (List.mem_of_getElem? (i := 188) (by decide +kernel)), by decide +kernel⟩
theorem kw_977 : (Jvm.Cond.static ({ cls := "java/lang/Math", name := "max", desc := "(II)I" } : Jvm.MethodName)) ∈ kv_gw := List.mem_filter.mpr ⟨kv_tb4 (List.mem_of_getElem? (i := 189) (by decide +kernel)), by decide +kernel⟩
theorem kw_978 : (Jvm.Cond.code ({ cls := "java/lang/Math", name := "max", desc := "(II)I" } : Jvm.MethodName) prog_18_method_65_code (2 : Nat) (Option.some Jvm.ClassFile.FieldType.int)) ∈ kv_gw := List.mem_filter.mpr ⟨kv_tb4 (List.mem_of_getElem? (i := 190) (by decide +kernel)), by decide +kernel⟩
theorem kw_979 : (Jvm.Cond.methodLink "KeptLump" (329 : Nat) ({ cls := "java/lang/Math", name := "min", desc := "(II)I" } : Jvm.MethodName)) ∈ kv_gw := List.mem_filter.mpr ⟨kv_tb4 (List.mem_of_getElem? (i := 191) (by decide +kernel)), by decide +kernel⟩
theorem kw_980 : (Jvm.Cond.static ({ cls := "java/lang/Math", name := "min", desc := "(II)I" } : Jvm.MethodName)) ∈ kv_gw := List.mem_filter.mpr ⟨kv_tb4 (List.mem_of_getElem? (i := 192) (by decide +kernel)), by decide +kernel⟩
theorem kw_981 : (Jvm.Cond.code ({ cls := "java/lang/Math", name := "min", desc := "(II)I" } : Jvm.MethodName) prog_18_method_69_code (2 : Nat) (Option.some Jvm.ClassFile.FieldType.int)) ∈ kv_gw := List.mem_filter.mpr ⟨kv_tb4 (List.mem_of_getElem? (i := 193) (by decide +kernel)), by decide +kernel⟩
theorem kw_986 : (Jvm.Cond.methodLink "KeptLump" (332 : Nat) ({ cls := "KeptLump", name := "arePairs", desc := "(LKeptLump$Shelf;)Z" } : Jvm.MethodName)) ∈ kv_gw := List.mem_filter.mpr ⟨kv_tb4 (List.mem_of_getElem? (i := 198) (by decide +kernel)), by decide +kernel⟩
theorem kw_988 : (Jvm.Cond.instanceMethod ({ cls := "KeptLump", name := "arePairs", desc := "(LKeptLump$Shelf;)Z" } : Jvm.MethodName)) ∈ kv_gw := List.mem_filter.mpr ⟨kv_tb4 (List.mem_of_getElem? (i := 200) (by decide +kernel)), by decide +kernel⟩
theorem kw_989 : (Jvm.Cond.code ({ cls := "KeptLump", name := "arePairs", desc := "(LKeptLump$Shelf;)Z" } : Jvm.MethodName) prog_1_method_61_code (4 : Nat) (Option.some Jvm.ClassFile.FieldType.boolean)) ∈ kv_gw := List.mem_filter.mpr ⟨kv_tb4 (List.mem_of_getElem? (i := 201) (by decide +kernel)), by decide +kernel⟩
theorem kw_990 : (Jvm.Cond.methodLink "KeptLump" (336 : Nat) ({ cls := "KeptLump$Planner", name := "tell", desc := "(LKeptLump$Lumps;LKeptLump$Shelf;II)V" } : Jvm.MethodName)) ∈ kv_gw := List.mem_filter.mpr ⟨kv_tb4 (List.mem_of_getElem? (i := 202) (by decide +kernel)), by decide +kernel⟩
theorem kw_991 : (Jvm.Cond.instanceMethod ({ cls := "KeptLump$Planner", name := "tell", desc := "(LKeptLump$Lumps;LKeptLump$Shelf;II)V" } : Jvm.MethodName)) ∈ kv_gw := List.mem_filter.mpr ⟨kv_tb4 (List.mem_of_getElem? (i := 203) (by decide +kernel)), by decide +kernel⟩
theorem kw_992 : (Jvm.Cond.selects "KeptLump$Planner" ({ cls := "KeptLump$Planner", name := "tell", desc := "(LKeptLump$Lumps;LKeptLump$Shelf;II)V" } : Jvm.MethodName) ({ cls := "KeptLump$Planner", name := "tell", desc := "(LKeptLump$Lumps;LKeptLump$Shelf;II)V" } : Jvm.MethodName)) ∈ kv_gw := List.mem_filter.mpr ⟨kv_tb4 (List.mem_of_getElem? (i := 204) (by decide +kernel)), by decide +kernel⟩
theorem kw_993 : (Jvm.Cond.code ({ cls := "KeptLump$Planner", name := "tell", desc := "(LKeptLump$Lumps;LKeptLump$Shelf;II)V" } : Jvm.MethodName) prog_7_method_2_code (8 : Nat) (Option.none : Option Jvm.ClassFile.FieldType)) ∈ kv_gw := List.mem_filter.mpr ⟨kv_tb4 (List.mem_of_getElem? (i := 205) (by decide +kernel)), by decide +kernel⟩
theorem kw_994 : (Jvm.Cond.methodLink "KeptLump$Planner" (37 : Nat) ({ cls := "java/lang/Math", name := "min", desc := "(II)I" } : Jvm.MethodName)) ∈ kv_gw := List.mem_filter.mpr ⟨kv_tb4 (List.mem_of_getElem? (i := 206) (by decide +kernel)), by decide +kernel⟩
theorem kw_995 : (Jvm.Cond.methodLink "KeptLump" (340 : Nat) ({ cls := "KeptLump$Planner", name := "learn", desc := "(LKeptLump$State;)Z" } : Jvm.MethodName)) ∈ kv_gw := List.mem_filter.mpr ⟨kv_tb4 (List.mem_of_getElem? (i := 207) (by decide +kernel)), by decide +kernel⟩
theorem kw_996 : (Jvm.Cond.instanceMethod ({ cls := "KeptLump$Planner", name := "learn", desc := "(LKeptLump$State;)Z" } : Jvm.MethodName)) ∈ kv_gw := List.mem_filter.mpr ⟨kv_tb4 (List.mem_of_getElem? (i := 208) (by decide +kernel)), by decide +kernel⟩
theorem kw_997 : (Jvm.Cond.selects "KeptLump$Planner" ({ cls := "KeptLump$Planner", name := "learn", desc := "(LKeptLump$State;)Z" } : Jvm.MethodName) ({ cls := "KeptLump$Planner", name := "learn", desc := "(LKeptLump$State;)Z" } : Jvm.MethodName)) ∈ kv_gw := List.mem_filter.mpr ⟨kv_tb4 (List.mem_of_getElem? (i := 209) (by decide +kernel)), by decide +kernel⟩
theorem kw_998 : (Jvm.Cond.code ({ cls := "KeptLump$Planner", name := "learn", desc := "(LKeptLump$State;)Z" } : Jvm.MethodName) prog_7_method_3_code (4 : Nat) (Option.some Jvm.ClassFile.FieldType.boolean)) ∈ kv_gw := List.mem_filter.mpr ⟨kv_tb4 (List.mem_of_getElem? (i := 210) (by decide +kernel)), by decide +kernel⟩
theorem kw_999 : (Jvm.Cond.constant "KeptLump$Planner" (69 : Nat) (2147483647 : Int32)) ∈ kv_gw := List.mem_filter.mpr ⟨kv_tb4 (List.mem_of_getElem? (i := 211) (by decide +kernel)), by decide +kernel⟩
theorem kw_1000 : (Jvm.Cond.methodLink "KeptLump$Planner" (70 : Nat) ({ cls := "java/util/Arrays", name := "fill", desc := "([II)V" } : Jvm.MethodName)) ∈ kv_gw := List.mem_filter.mpr ⟨kv_tb4 (List.mem_of_getElem? (i := 212) (by decide +kernel)), by decide +kernel⟩
theorem kw_1001 : (Jvm.Cond.methodLink "KeptLump$Planner" (88 : Nat) ({ cls := "KeptLump$Weighings", name := "counts", desc := "(II)Z" } : Jvm.MethodName)) ∈ kv_gw := List.mem_filter.mpr ⟨kv_tb4 (List.mem_of_getElem? (i := 213) (by decide +kernel)), by decide +kernel⟩
theorem kw_1002 : (Jvm.Cond.methodLink "KeptLump$Planner" (92 : Nat) ({ cls := "KeptLump$Planner", name := "learnOne", desc := "(LKeptLump$Weighings;I)Z" } : Jvm.MethodName)) ∈ kv_gw := List.mem_filter.mpr ⟨kv_tb4 (List.mem_of_getElem? (i := 214) (by decide +kernel)), by decide +kernel⟩
theorem kw_1003 : (Jvm.Cond.instanceMethod ({ cls := "KeptLump$Planner", name := "learnOne", desc := "(LKeptLump$Weighings;I)Z" } : Jvm.MethodName)) ∈ kv_gw := List.mem_filter.mpr ⟨kv_tb4 (List.mem_of_getElem? (i := 215) (by decide +kernel)), by decide +kernel⟩
theorem kw_1004 : (Jvm.Cond.selects "KeptLump$Planner" ({ cls := "KeptLump$Planner", name := "learnOne", desc := "(LKeptLump$Weighings;I)Z" } : Jvm.MethodName) ({ cls := "KeptLump$Planner", name := "learnOne", desc := "(LKeptLump$Weighings;I)Z" } : Jvm.MethodName)) ∈ kv_gw := List.mem_filter.mpr ⟨kv_tb4 (List.mem_of_getElem? (i := 216) (by decide +kernel)), by decide +kernel⟩
theorem kw_1005 : (Jvm.Cond.code ({ cls := "KeptLump$Planner", name := "learnOne", desc := "(LKeptLump$Weighings;I)Z" } : Jvm.MethodName) prog_7_method_4_code (5 : Nat) (Option.some Jvm.ClassFile.FieldType.boolean)) ∈ kv_gw := List.mem_filter.mpr ⟨kv_tb4 (List.mem_of_getElem? (i := 217) (by decide +kernel)), by decide +kernel⟩
theorem kw_1006 : (Jvm.Cond.methodLink "KeptLump$Planner" (98 : Nat) ({ cls := "KeptLump$Weighings", name := "greatest", desc := "(I)I" } : Jvm.MethodName)) ∈ kv_gw := List.mem_filter.mpr ⟨kv_tb4 (List.mem_of_getElem? (i := 218) (by decide +kernel)), by decide +kernel⟩
theorem kw_1007 : (Jvm.Cond.methodLink "KeptLump$Planner" (102 : Nat) ({ cls := "KeptLump$Planner", name := "narrow", desc := "([IIII)Z" } : Jvm.MethodName)) ∈ kv_gw := List.mem_filter.mpr ⟨kv_tb4 (List.mem_of_getElem? (i := 219) (by decide +kernel)), by decide +kernel⟩
theorem kw_1008 : (Jvm.Cond.instanceMethod ({ cls := "KeptLump$Planner", name := "narrow", desc := "([IIII)Z" } : Jvm.MethodName)) ∈ kv_gw := List.mem_filter.mpr ⟨kv_tb4 (List.mem_of_getElem? (i := 220) (by decide +kernel)), by decide +kernel⟩
theorem kw_1009 : (Jvm.Cond.selects "KeptLump$Planner" ({ cls := "KeptLump$Planner", name := "narrow", desc := "([IIII)Z" } : Jvm.MethodName) ({ cls := "KeptLump$Planner", name := "narrow", desc := "([IIII)Z" } : Jvm.MethodName)) ∈ kv_gw := List.mem_filter.mpr ⟨kv_tb4 (List.mem_of_getElem? (i := 221) (by decide +kernel)), by decide +kernel⟩
theorem kw_1010 : (Jvm.Cond.code ({ cls := "KeptLump$Planner", name := "narrow", desc := "([IIII)Z" } : Jvm.MethodName) prog_7_method_5_code (8 : Nat) (Option.some Jvm.ClassFile.FieldType.boolean)) ∈ kv_gw := List.mem_filter.mpr ⟨kv_tb4 (List.mem_of_getElem? (i := 222) (by decide +kernel)), by decide +kernel⟩
theorem kw_1011 : (Jvm.Cond.methodLink "KeptLump$Planner" (109 : Nat) ({ cls := "KeptLump$Planner", name := "shortenFrom", desc := "([IIII)V" } : Jvm.MethodName)) ∈ kv_gw := List.mem_filter.mpr ⟨kv_tb4 (List.mem_of_getElem? (i := 223) (by decide +kernel)), by decide +kernel⟩
theorem kw_1012 : (Jvm.Cond.instanceMethod ({ cls := "KeptLump$Planner", name := "shortenFrom", desc := "([IIII)V" } : Jvm.MethodName)) ∈ kv_gw := List.mem_filter.mpr ⟨kv_tb4 (List.mem_of_getElem? (i := 224) (by decide +kernel)), by decide +kernel⟩
theorem kw_1013 : (Jvm.Cond.selects "KeptLump$Planner" ({ cls := "KeptLump$Planner", name := "shortenFrom", desc := "([IIII)V" } : Jvm.MethodName) ({ cls := "KeptLump$Planner", name := "shortenFrom", desc := "([IIII)V" } : Jvm.MethodName)) ∈ kv_gw := List.mem_filter.mpr ⟨kv_tb4 (List.mem_of_getElem? (i := 225) (by decide +kernel)), by decide +kernel⟩
theorem kw_1014 : (Jvm.Cond.code ({ cls := "KeptLump$Planner", name := "shortenFrom", desc := "([IIII)V" } : Jvm.MethodName) prog_7_method_6_code (7 : Nat) (Option.none : Option Jvm.ClassFile.FieldType)) ∈ kv_gw := List.mem_filter.mpr ⟨kv_tb4 (List.mem_of_getElem? (i := 226) (by decide +kernel)), by decide +kernel⟩
theorem kw_1015 : (Jvm.Cond.methodLink "KeptLump$Planner" (106 : Nat) ({ cls := "KeptLump$Weighings", name := "least", desc := "(I)I" } : Jvm.MethodName)) ∈ kv_gw := List.mem_filter.mpr ⟨kv_tb4 (List.mem_of_getElem? (i := 227) (by decide +kernel)), by decide +kernel⟩
theorem kw_1016 : (Jvm.Cond.methodLink "KeptLump" (344 : Nat) ({ cls := "KeptLump$Planner", name := "choose", desc := "()V" } : Jvm.MethodName)) ∈ kv_gw := List.mem_filter.mpr ⟨kv_tb4 (List.mem_of_getElem? (i := 228) (by decide +kernel)), by decide +kernel⟩
theorem kw_1017 : (Jvm.Cond.instanceMethod ({ cls := "KeptLump$Planner", name := "choose", desc := "()V" } : Jvm.MethodName)) ∈ kv_gw := List.mem_filter.mpr ⟨kv_tb4 (List.mem_of_getElem? (i := 229) (by decide +kernel)), by decide +kernel⟩
theorem kw_1018 : (Jvm.Cond.selects "KeptLump$Planner" ({ cls := "KeptLump$Planner", name := "choose", desc := "()V" } : Jvm.MethodName) ({ cls := "KeptLump$Planner", name := "choose", desc := "()V" } : Jvm.MethodName)) ∈ kv_gw := List.mem_filter.mpr ⟨kv_tb4 (List.mem_of_getElem? (i := 230) (by decide +kernel)), by decide +kernel⟩
theorem kw_1019 : (Jvm.Cond.code ({ cls := "KeptLump$Planner", name := "choose", desc := "()V" } : Jvm.MethodName) prog_7_method_7_code (2 : Nat) (Option.none : Option Jvm.ClassFile.FieldType)) ∈ kv_gw := List.mem_filter.mpr ⟨kv_tb4 (List.mem_of_getElem? (i := 231) (by decide +kernel)), by decide +kernel⟩
theorem kw_1020 : (Jvm.Cond.methodLink "KeptLump$Planner" (122 : Nat) ({ cls := "KeptLump$Planner", name := "isAllowed", desc := "(I)Z" } : Jvm.MethodName)) ∈ kv_gw := List.mem_filter.mpr ⟨kv_tb4 (List.mem_of_getElem? (i := 232) (by decide +kernel)), by decide +kernel⟩
theorem kw_1021 : (Jvm.Cond.instanceMethod ({ cls := "KeptLump$Planner", name := "isAllowed", desc := "(I)Z" } : Jvm.MethodName)) ∈ kv_gw := List.mem_filter.mpr ⟨kv_tb4 (List.mem_of_getElem? (i := 233) (by decide +kernel)), by decide +kernel⟩
theorem kw_1022 : (Jvm.Cond.selects "KeptLump$Planner" ({ cls := "KeptLump$Planner", name := "isAllowed", desc := "(I)Z" } : Jvm.MethodName) ({ cls := "KeptLump$Planner", name := "isAllowed", desc := "(I)Z" } : Jvm.MethodName)) ∈ kv_gw := List.mem_filter.mpr ⟨kv_tb4 (List.mem_of_getElem? (i := 234) (by decide +kernel)), by decide +kernel⟩
theorem kw_1023 : (Jvm.Cond.code ({ cls := "KeptLump$Planner", name := "isAllowed", desc := "(I)Z" } : Jvm.MethodName) prog_7_method_8_code (4 : Nat) (Option.some Jvm.ClassFile.FieldType.boolean)) ∈ kv_gw := List.mem_filter.mpr ⟨kv_tb4 (List.mem_of_getElem? (i := 235) (by decide +kernel)), by decide +kernel⟩
theorem kw_1024 : (Jvm.Cond.methodLink "KeptLump$Planner" (133 : Nat) ({ cls := "KeptLump$Planner", name := "has", desc := "(II)Z" } : Jvm.MethodName)) ∈ kv_gw := List.mem_filter.mpr ⟨kv_tb4 (List.mem_of_getElem? (i := 236) (by decide +kernel)), by decide +kernel⟩
theorem kw_1025 : (Jvm.Cond.instanceMethod ({ cls := "KeptLump$Planner", name := "has", desc := "(II)Z" } : Jvm.MethodName)) ∈ kv_gw := List.mem_filter.mpr ⟨kv_tb4 (List.mem_of_getElem? (i := 237) (by decide +kernel)), by decide +kernel⟩
theorem kw_1026 : (Jvm.Cond.selects "KeptLump$Planner" ({ cls := "KeptLump$Planner", name := "has", desc := "(II)Z" } : Jvm.MethodName) ({ cls := "KeptLump$Planner", name := "has", desc := "(II)Z" } : Jvm.MethodName)) ∈ kv_gw := List.mem_filter.mpr ⟨kv_tb4 (List.mem_of_getElem? (i := 238) (by decide +kernel)), by decide +kernel⟩
theorem kw_1027 : (Jvm.Cond.code ({ cls := "KeptLump$Planner", name := "has", desc := "(II)Z" } : Jvm.MethodName) prog_7_method_9_code (3 : Nat) (Option.some Jvm.ClassFile.FieldType.boolean)) ∈ kv_gw := List.mem_filter.mpr ⟨kv_tb4 (List.mem_of_getElem? (i := 239) (by decide +kernel)), by decide +kernel⟩
theorem kw_1028 : (Jvm.Cond.methodLink "KeptLump$Planner" (136 : Nat) ({ cls := "java/lang/Integer", name := "bitCount", desc := "(I)I" } : Jvm.MethodName)) ∈ kv_gw := List.mem_filter.mpr ⟨kv_tb5 (List.mem_of_getElem? (i := 0) (by decide +kernel)), by decide +kernel⟩
theorem kw_1029 : (Jvm.Cond.methodLink "KeptLump$Planner" (126 : Nat) ({ cls := "KeptLump$Planner", name := "tries", desc := "(I)Z" } : Jvm.MethodName)) ∈ kv_gw := List.mem_filter.mpr ⟨kv_tb5 (List.mem_of_getElem? (i := 1) (by decide +kernel)), by decide +kernel⟩
theorem kw_1030 : (Jvm.Cond.instanceMethod ({ cls := "KeptLump$Planner", name := "tries", desc := "(I)Z" } : Jvm.MethodName)) ∈ kv_gw := List.mem_filter.mpr ⟨kv_tb5 (List.mem_of_getElem? (i := 2) (by decide +kernel)), by decide +kernel⟩
theorem kw_1031 : (Jvm.Cond.selects "KeptLump$Planner" ({ cls := "KeptLump$Planner", name := "tries", desc := "(I)Z" } : Jvm.MethodName) ({ cls := "KeptLump$Planner", name := "tries", desc := "(I)Z" } : Jvm.MethodName)) ∈ kv_gw := List.mem_filter.mpr ⟨kv_tb5 (List.mem_of_getElem? (i := 3) (by decide +kernel)), by decide +kernel⟩
theorem kw_1032 : (Jvm.Cond.code ({ cls := "KeptLump$Planner", name := "tries", desc := "(I)Z" } : Jvm.MethodName) prog_7_method_10_code (3 : Nat) (Option.some Jvm.ClassFile.FieldType.boolean)) ∈ kv_gw := List.mem_filter.mpr ⟨kv_tb5 (List.mem_of_getElem? (i := 4) (by decide +kernel)), by decide +kernel⟩
theorem kw_1033 : (Jvm.Cond.methodLink "KeptLump$Planner" (141 : Nat) ({ cls := "java/lang/System", name := "arraycopy", desc := "(Ljava/lang/Object;ILjava/lang/Object;II)V" } : Jvm.MethodName)) ∈ kv_gw := List.mem_filter.mpr ⟨kv_tb5 (List.mem_of_getElem? (i := 5) (by decide +kernel)), by decide +kernel⟩
theorem kw_1034 : (Jvm.Cond.methodLink "KeptLump$Planner" (147 : Nat) ({ cls := "KeptLump$Planner", name := "tryOne", desc := "(I)Z" } : Jvm.MethodName)) ∈ kv_gw := List.mem_filter.mpr ⟨kv_tb5 (List.mem_of_getElem? (i := 6) (by decide +kernel)), by decide +kernel⟩
theorem kw_1035 : (Jvm.Cond.instanceMethod ({ cls := "KeptLump$Planner", name := "tryOne", desc := "(I)Z" } : Jvm.MethodName)) ∈ kv_gw := List.mem_filter.mpr ⟨kv_tb5 (List.mem_of_getElem? (i := 7) (by decide +kernel)), by decide +kernel⟩
theorem kw_1036 : (Jvm.Cond.selects "KeptLump$Planner" ({ cls := "KeptLump$Planner", name := "tryOne", desc := "(I)Z" } : Jvm.MethodName) ({ cls := "KeptLump$Planner", name := "tryOne", desc := "(I)Z" } : Jvm.MethodName)) ∈ kv_gw := List.mem_filter.mpr ⟨kv_tb5 (List.mem_of_getElem? (i := 8) (by decide +kernel)), by decide +kernel⟩
theorem kw_1037 : (Jvm.Cond.code ({ cls := "KeptLump$Planner", name := "tryOne", desc := "(I)Z" } : Jvm.MethodName) prog_7_method_11_code (2 : Nat) (Option.some Jvm.ClassFile.FieldType.boolean)) ∈ kv_gw := List.mem_filter.mpr ⟨kv_tb5 (List.mem_of_getElem? (i := 9) (by decide +kernel)), by decide +kernel⟩
theorem kw_1038 : (Jvm.Cond.methodLink "KeptLump$Planner" (129 : Nat) ({ cls := "KeptLump$Planner", name := "judge", desc := "(I)V" } : Jvm.MethodName)) ∈ kv_gw := List.mem_filter.mpr ⟨kv_tb5 (List.mem_of_getElem? (i := 10) (by decide +kernel)), by decide +kernel⟩
theorem kw_1039 : (Jvm.Cond.instanceMethod ({ cls := "KeptLump$Planner", name := "judge", desc := "(I)V" } : Jvm.MethodName)) ∈ kv_gw := List.mem_filter.mpr ⟨kv_tb5 (List.mem_of_getElem? (i := 11) (by decide +kernel)), by decide +kernel⟩
theorem kw_1040 : (Jvm.Cond.selects "KeptLump$Planner" ({ cls := "KeptLump$Planner", name := "judge", desc := "(I)V" } : Jvm.MethodName) ({ cls := "KeptLump$Planner", name := "judge", desc := "(I)V" } : Jvm.MethodName)) ∈ kv_gw := List.mem_filter.mpr ⟨kv_tb5 (List.mem_of_getElem? (i := 12) (by decide +kernel)), by decide +kernel⟩
theorem kw_1041 : (Jvm.Cond.code ({ cls := "KeptLump$Planner", name := "judge", desc := "(I)V" } : Jvm.MethodName) prog_7_method_12_code (4 : Nat) (Option.none : Option Jvm.ClassFile.FieldType)) ∈ kv_gw := List.mem_filter.mpr ⟨kv_tb5 (List.mem_of_getElem? (i := 13) (by decide +kernel)), by decide +kernel⟩
theorem kw_1042 : (Jvm.Cond.methodLink "KeptLump$Planner" (150 : Nat) ({ cls := "KeptLump$Planner", name := "widths", desc := "()I" } : Jvm.MethodName)) ∈ kv_gw := List.mem_filter.mpr ⟨kv_tb5 (List.mem_of_getElem? (i := 14) (by decide +kernel)), by decide +kernel⟩
theorem kw_1043 : (Jvm.Cond.instanceMethod ({ cls := "KeptLump$Planner", name := "widths", desc := "()I" } : Jvm.MethodName)) ∈ kv_gw := List.mem_filter.mpr ⟨kv_tb5 (List.mem_of_getElem? (i := 15) (by decide +kernel)), by decide +kernel⟩
theorem kw_1044 : (Jvm.Cond.selects "KeptLump$Planner" ({ cls := "KeptLump$Planner", name := "widths", desc := "()I" } : Jvm.MethodName) ({ cls := "KeptLump$Planner", name := "widths", desc := "()I" } : Jvm.MethodName)) ∈ kv_gw := List.mem_filter.mpr ⟨kv_tb5 (List.mem_of_getElem? (i := 16) (by decide +kernel)), by decide +kernel⟩
theorem kw_1045 : (Jvm.Cond.code ({ cls := "KeptLump$Planner", name := "widths", desc := "()I" } : Jvm.MethodName) prog_7_method_13_code (7 : Nat) (Option.some Jvm.ClassFile.FieldType.int)) ∈ kv_gw := List.mem_filter.mpr ⟨kv_tb5 (List.mem_of_getElem? (i := 17) (by decide +kernel)), by decide +kernel⟩
theorem kw_1050 : (Jvm.Cond.methodLink "KeptLump" (353 : Nat) ({ cls := "KeptLump$State", name := "takeFrom", desc := "(LKeptLump$State;)V" } : Jvm.MethodName)) ∈ kv_gw := List.mem_filter.mpr ⟨kv_tb5 (List.mem_of_getElem? (i := 22) (by decide +kernel)), by decide +kernel⟩
theorem kw_1051 : (Jvm.Cond.instanceMethod ({ cls := "KeptLump$State", name := "takeFrom", desc := "(LKeptLump$State;)V" } : Jvm.MethodName)) ∈ kv_gw := List.mem_filter.mpr ⟨kv_tb5 (List.mem_of_getElem? (i := 23) (by decide +kernel)), by decide +kernel⟩
theorem kw_1052 : (Jvm.Cond.selects "KeptLump$State" ({ cls := "KeptLump$State", name := "takeFrom", desc := "(LKeptLump$State;)V" } : Jvm.MethodName) ({ cls := "KeptLump$State", name := "takeFrom", desc := "(LKeptLump$State;)V" } : Jvm.MethodName)) ∈ kv_gw := List.mem_filter.mpr ⟨kv_tb5 (List.mem_of_getElem? (i := 24) (by decide +kernel)), by decide +kernel⟩
theorem kw_1053 : (Jvm.Cond.code ({ cls := "KeptLump$State", name := "takeFrom", desc := "(LKeptLump$State;)V" } : Jvm.MethodName) prog_10_method_5_code (2 : Nat) (Option.none : Option Jvm.ClassFile.FieldType)) ∈ kv_gw := List.mem_filter.mpr ⟨kv_tb5 (List.mem_of_getElem? (i := 25) (by decide +kernel)), by decide +kernel⟩
theorem kw_1054 : (Jvm.Cond.methodLink "KeptLump$State" (62 : Nat) ({ cls := "KeptLump$Lumps", name := "takeFrom", desc := "(LKeptLump$Lumps;)V" } : Jvm.MethodName)) ∈ kv_gw := List.mem_filter.mpr ⟨kv_tb5 (List.mem_of_getElem? (i := 26) (by decide +kernel)), by decide +kernel⟩
theorem kw_1055 : (Jvm.Cond.instanceMethod ({ cls := "KeptLump$Lumps", name := "takeFrom", desc := "(LKeptLump$Lumps;)V" } : Jvm.MethodName)) ∈ kv_gw := List.mem_filter.mpr ⟨kv_tb5 (List.mem_of_getElem? (i := 27) (by decide +kernel)), by decide +kernel⟩
theorem kw_1056 : (Jvm.Cond.selects "KeptLump$Lumps" ({ cls := "KeptLump$Lumps", name := "takeFrom", desc := "(LKeptLump$Lumps;)V" } : Jvm.MethodName) ({ cls := "KeptLump$Lumps", name := "takeFrom", desc := "(LKeptLump$Lumps;)V" } : Jvm.MethodName)) ∈ kv_gw := List.mem_filter.mpr ⟨kv_tb5 (List.mem_of_getElem? (i := 28) (by decide +kernel)), by decide +kernel⟩
theorem kw_1057 : (Jvm.Cond.code ({ cls := "KeptLump$Lumps", name := "takeFrom", desc := "(LKeptLump$Lumps;)V" } : Jvm.MethodName) prog_5_method_11_code (2 : Nat) (Option.none : Option Jvm.ClassFile.FieldType)) ∈ kv_gw := List.mem_filter.mpr ⟨kv_tb5 (List.mem_of_getElem? (i := 29) (by decide +kernel)), by decide +kernel⟩
theorem kw_1058 : (Jvm.Cond.methodLink "KeptLump$Lumps" (53 : Nat) ({ cls := "java/lang/System", name := "arraycopy", desc := "(Ljava/lang/Object;ILjava/lang/Object;II)V" } : Jvm.MethodName)) ∈ kv_gw := List.mem_filter.mpr ⟨kv_tb5 (List.mem_of_getElem? (i := 30) (by decide +kernel)), by decide +kernel⟩
theorem kw_1059 : (Jvm.Cond.methodLink "KeptLump$State" (66 : Nat) ({ cls := "KeptLump$Weighings", name := "takeFrom", desc := "(LKeptLump$Weighings;)V" } : Jvm.MethodName)) ∈ kv_gw := List.mem_filter.mpr ⟨kv_tb5 (List.mem_of_getElem? (i := 31) (by decide +kernel)), by decide +kernel⟩
theorem kw_1060 : (Jvm.Cond.instanceMethod ({ cls := "KeptLump$Weighings", name := "takeFrom", desc := "(LKeptLump$Weighings;)V" } : Jvm.MethodName)) ∈ kv_gw := List.mem_filter.mpr ⟨kv_tb5 (List.mem_of_getElem? (i := 32) (by decide +kernel)), by decide +kernel⟩
theorem kw_1061 : (Jvm.Cond.selects "KeptLump$Weighings" ({ cls := "KeptLump$Weighings", name := "takeFrom", desc := "(LKeptLump$Weighings;)V" } : Jvm.MethodName) ({ cls := "KeptLump$Weighings", name := "takeFrom", desc := "(LKeptLump$Weighings;)V" } : Jvm.MethodName)) ∈ kv_gw := List.mem_filter.mpr ⟨kv_tb5 (List.mem_of_getElem? (i := 33) (by decide +kernel)), by decide +kernel⟩
theorem kw_1062 : (Jvm.Cond.code ({ cls := "KeptLump$Weighings", name := "takeFrom", desc := "(LKeptLump$Weighings;)V" } : Jvm.MethodName) prog_11_method_10_code (3 : Nat) (Option.none : Option Jvm.ClassFile.FieldType)) ∈ kv_gw := List.mem_filter.mpr ⟨kv_tb5 (List.mem_of_getElem? (i := 34) (by decide +kernel)), by decide +kernel⟩
theorem kw_1063 : (Jvm.Cond.methodLink "KeptLump$Weighings" (41 : Nat) ({ cls := "java/lang/System", name := "arraycopy", desc := "(Ljava/lang/Object;ILjava/lang/Object;II)V" } : Jvm.MethodName)) ∈ kv_gw := List.mem_filter.mpr ⟨kv_tb5 (List.mem_of_getElem? (i := 35) (by decide +kernel)), by decide +kernel⟩
theorem kw_1064 : (Jvm.Cond.methodLink "KeptLump$State" (78 : Nat) ({ cls := "KeptLump$Law", name := "write", desc := "([III)V" } : Jvm.MethodName)) ∈ kv_gw := List.mem_filter.mpr ⟨kv_tb5 (List.mem_of_getElem? (i := 36) (by decide +kernel)), by decide +kernel⟩
theorem kw_1065 : (Jvm.Cond.methodLink "KeptLump$State" (82 : Nat) ({ cls := "KeptLump$Chains", name := "takeFrom", desc := "(LKeptLump$Chains;)V" } : Jvm.MethodName)) ∈ kv_gw := List.mem_filter.mpr ⟨kv_tb5 (List.mem_of_getElem? (i := 37) (by decide +kernel)), by decide +kernel⟩
theorem kw_1066 : (Jvm.Cond.instanceMethod ({ cls := "KeptLump$Chains", name := "takeFrom", desc := "(LKeptLump$Chains;)V" } : Jvm.MethodName)) ∈ kv_gw := List.mem_filter.mpr ⟨kv_tb5 (List.mem_of_getElem? (i := 38) (by decide +kernel)), by decide +kernel⟩
theorem kw_1067 : (Jvm.Cond.selects "KeptLump$Chains" ({ cls := "KeptLump$Chains", name := "takeFrom", desc := "(LKeptLump$Chains;)V" } : Jvm.MethodName) ({ cls := "KeptLump$Chains", name := "takeFrom", desc := "(LKeptLump$Chains;)V" } : Jvm.MethodName)) ∈ kv_gw := List.mem_filter.mpr ⟨kv_tb5 (List.mem_of_getElem? (i := 39) (by decide +kernel)), by decide +kernel⟩
theorem kw_1068 : (Jvm.Cond.code ({ cls := "KeptLump$Chains", name := "takeFrom", desc := "(LKeptLump$Chains;)V" } : Jvm.MethodName) prog_2_method_9_code (2 : Nat) (Option.none : Option Jvm.ClassFile.FieldType)) ∈ kv_gw := List.mem_filter.mpr ⟨kv_tb5 (List.mem_of_getElem? (i := 40) (by decide +kernel)), by decide +kernel⟩
theorem kw_1069 : (Jvm.Cond.methodLink "KeptLump$Chains" (36 : Nat) ({ cls := "java/lang/System", name := "arraycopy", desc := "(Ljava/lang/Object;ILjava/lang/Object;II)V" } : Jvm.MethodName)) ∈ kv_gw := List.mem_filter.mpr ⟨kv_tb5 (List.mem_of_getElem? (i := 41) (by decide +kernel)), by decide +kernel⟩
theorem kw_1070 : (Jvm.Cond.methodLink "KeptLump$State" (85 : Nat) ({ cls := "java/lang/System", name := "arraycopy", desc := "(Ljava/lang/Object;ILjava/lang/Object;II)V" } : Jvm.MethodName)) ∈ kv_gw := List.mem_filter.mpr ⟨kv_tb5 (List.mem_of_getElem? (i := 42) (by decide +kernel)), by decide +kernel⟩
theorem kw_1079 : (Jvm.Cond.methodLink "KeptLump" (361 : Nat) ({ cls := "KeptLump$Weighings", name := "howManyOut", desc := "()I" } : Jvm.MethodName)) ∈ kv_gw := List.mem_filter.mpr ⟨kv_tb5 (List.mem_of_getElem? (i := 51) (by decide +kernel)), by decide +kernel⟩
theorem kw_1080 : (Jvm.Cond.instanceMethod ({ cls := "KeptLump$Weighings", name := "howManyOut", desc := "()I" } : Jvm.MethodName)) ∈ kv_gw := List.mem_filter.mpr ⟨kv_tb5 (List.mem_of_getElem? (i := 52) (by decide +kernel)), by decide +kernel⟩
theorem kw_1081 : (Jvm.Cond.selects "KeptLump$Weighings" ({ cls := "KeptLump$Weighings", name := "howManyOut", desc := "()I" } : Jvm.MethodName) ({ cls := "KeptLump$Weighings", name := "howManyOut", desc := "()I" } : Jvm.MethodName)) ∈ kv_gw := List.mem_filter.mpr ⟨kv_tb5 (List.mem_of_getElem? (i := 53) (by decide +kernel)), by decide +kernel⟩
theorem kw_1082 : (Jvm.Cond.code ({ cls := "KeptLump$Weighings", name := "howManyOut", desc := "()I" } : Jvm.MethodName) prog_11_method_9_code (3 : Nat) (Option.some Jvm.ClassFile.FieldType.int)) ∈ kv_gw := List.mem_filter.mpr ⟨kv_tb5 (List.mem_of_getElem? (i := 54) (by decide +kernel)), by decide +kernel⟩
theorem kw_1083 : (Jvm.Cond.methodLink "KeptLump" (365 : Nat) ({ cls := "KeptLump$Chains", name := "allLinks", desc := "()I" } : Jvm.MethodName)) ∈ kv_gw := List.mem_filter.mpr ⟨kv_tb5 (List.mem_of_getElem? (i := 55) (by decide +kernel)), by decide +kernel⟩
theorem kw_1084 : (Jvm.Cond.instanceMethod ({ cls := "KeptLump$Chains", name := "allLinks", desc := "()I" } : Jvm.MethodName)) ∈ kv_gw := List.mem_filter.mpr ⟨kv_tb5 (List.mem_of_getElem? (i := 56) (by decide +kernel)), by decide +kernel⟩
theorem kw_1085 : (Jvm.Cond.selects "KeptLump$Chains" ({ cls := "KeptLump$Chains", name := "allLinks", desc := "()I" } : Jvm.MethodName) ({ cls := "KeptLump$Chains", name := "allLinks", desc := "()I" } : Jvm.MethodName)) ∈ kv_gw := List.mem_filter.mpr ⟨kv_tb5 (List.mem_of_getElem? (i := 57) (by decide +kernel)), by decide +kernel⟩
theorem kw_1086 : (Jvm.Cond.code ({ cls := "KeptLump$Chains", name := "allLinks", desc := "()I" } : Jvm.MethodName) prog_2_method_8_code (3 : Nat) (Option.some Jvm.ClassFile.FieldType.int)) ∈ kv_gw := List.mem_filter.mpr ⟨kv_tb5 (List.mem_of_getElem? (i := 58) (by decide +kernel)), by decide +kernel⟩
theorem kw_1091 : (Jvm.Cond.methodLink "KeptLump" (371 : Nat) ({ cls := "KeptLump$Shelf", name := "clear", desc := "()V" } : Jvm.MethodName)) ∈ kv_gw := List.mem_filter.mpr ⟨kv_tb5 (List.mem_of_getElem? (i := 63) (by decide +kernel)), by decide +kernel⟩
theorem kw_1092 : (Jvm.Cond.instanceMethod ({ cls := "KeptLump$Shelf", name := "clear", desc := "()V" } : Jvm.MethodName)) ∈ kv_gw := List.mem_filter.mpr ⟨kv_tb5 (List.mem_of_getElem? (i := 64) (by decide +kernel)), by decide +kernel⟩
theorem kw_1093 : (Jvm.Cond.selects "KeptLump$Shelf" ({ cls := "KeptLump$Shelf", name := "clear", desc := "()V" } : Jvm.MethodName) ({ cls := "KeptLump$Shelf", name := "clear", desc := "()V" } : Jvm.MethodName)) ∈ kv_gw := List.mem_filter.mpr ⟨kv_tb5 (List.mem_of_getElem? (i := 65) (by decide +kernel)), by decide +kernel⟩
theorem kw_1094 : (Jvm.Cond.code ({ cls := "KeptLump$Shelf", name := "clear", desc := "()V" } : Jvm.MethodName) prog_9_method_4_code (1 : Nat) (Option.none : Option Jvm.ClassFile.FieldType)) ∈ kv_gw := List.mem_filter.mpr ⟨kv_tb5 (List.mem_of_getElem? (i := 66) (by decide +kernel)), by decide +kernel⟩
theorem kw_1095 : (Jvm.Cond.methodLink "KeptLump" (374 : Nat) ({ cls := "KeptLump$Shelf", name := "holdLump", desc := "(LKeptLump$Lumps;I)V" } : Jvm.MethodName)) ∈ kv_gw := List.mem_filter.mpr ⟨kv_tb5 (List.mem_of_getElem? (i := 67) (by decide +kernel)), by decide +kernel⟩
theorem kw_1096 : (Jvm.Cond.instanceMethod ({ cls := "KeptLump$Shelf", name := "holdLump", desc := "(LKeptLump$Lumps;I)V" } : Jvm.MethodName)) ∈ kv_gw := List.mem_filter.mpr ⟨kv_tb5 (List.mem_of_getElem? (i := 68) (by decide +kernel)), by decide +kernel⟩
theorem kw_1097 : (Jvm.Cond.selects "KeptLump$Shelf" ({ cls := "KeptLump$Shelf", name := "holdLump", desc := "(LKeptLump$Lumps;I)V" } : Jvm.MethodName) ({ cls := "KeptLump$Shelf", name := "holdLump", desc := "(LKeptLump$Lumps;I)V" } : Jvm.MethodName)) ∈ kv_gw := List.mem_filter.mpr ⟨kv_tb5 (List.mem_of_getElem? (i := 69) (by decide +kernel)), by decide +kernel⟩
theorem kw_1098 : (Jvm.Cond.code ({ cls := "KeptLump$Shelf", name := "holdLump", desc := "(LKeptLump$Lumps;I)V" } : Jvm.MethodName) prog_9_method_5_code (3 : Nat) (Option.none : Option Jvm.ClassFile.FieldType)) ∈ kv_gw := List.mem_filter.mpr ⟨kv_tb5 (List.mem_of_getElem? (i := 70) (by decide +kernel)), by decide +kernel⟩
theorem kw_1103 : (Jvm.Cond.methodLink "KeptLump" (378 : Nat) ({ cls := "KeptLump$Shelf", name := "holdRow", desc := "(II)V" } : Jvm.MethodName)) ∈ kv_gw := List.mem_filter.mpr ⟨kv_tb5 (List.mem_of_getElem? (i := 75) (by decide +kernel)), by decide +kernel⟩
theorem kw_1104 : (Jvm.Cond.instanceMethod ({ cls := "KeptLump$Shelf", name := "holdRow", desc := "(II)V" } : Jvm.MethodName)) ∈ kv_gw := List.mem_filter.mpr ⟨kv_tb5 (List.mem_of_getElem? (i := 76) (by decide +kernel)), by decide +kernel⟩
theorem kw_1105 : (Jvm.Cond.selects "KeptLump$Shelf" ({ cls := "KeptLump$Shelf", name := "holdRow", desc := "(II)V" } : Jvm.MethodName) ({ cls := "KeptLump$Shelf", name := "holdRow", desc := "(II)V" } : Jvm.MethodName)) ∈ kv_gw := List.mem_filter.mpr ⟨kv_tb5 (List.mem_of_getElem? (i := 77) (by decide +kernel)), by decide +kernel⟩
theorem kw_1106 : (Jvm.Cond.code ({ cls := "KeptLump$Shelf", name := "holdRow", desc := "(II)V" } : Jvm.MethodName) prog_9_method_6_code (3 : Nat) (Option.none : Option Jvm.ClassFile.FieldType)) ∈ kv_gw := List.mem_filter.mpr ⟨kv_tb5 (List.mem_of_getElem? (i := 78) (by decide +kernel)), by decide +kernel⟩
theorem kw_1107 : (Jvm.Cond.methodLink "KeptLump$Shelf" (45 : Nat) ({ cls := "java/util/Arrays", name := "fill", desc := "([II)V" } : Jvm.MethodName)) ∈ kv_gw := List.mem_filter.mpr ⟨kv_tb5 (List.mem_of_getElem? (i := 79) (by decide +kernel)), by decide +kernel⟩
theorem kw_1112 : (Jvm.Cond.methodLink "KeptLump" (381 : Nat) ({ cls := "KeptLump$Shelf", name := "narrowed", desc := "(I)I" } : Jvm.MethodName)) ∈ kv_gw := List.mem_filter.mpr ⟨kv_tb5 (List.mem_of_getElem? (i := 84) (by decide +kernel)), by decide +kernel⟩
theorem kw_1113 : (Jvm.Cond.instanceMethod ({ cls := "KeptLump$Shelf", name := "narrowed", desc := "(I)I" } : Jvm.MethodName)) ∈ kv_gw := List.mem_filter.mpr ⟨kv_tb5 (List.mem_of_getElem? (i := 85) (by decide +kernel)), by decide +kernel⟩
theorem kw_1114 : (Jvm.Cond.selects "KeptLump$Shelf" ({ cls := "KeptLump$Shelf", name := "narrowed", desc := "(I)I" } : Jvm.MethodName) ({ cls := "KeptLump$Shelf", name := "narrowed", desc := "(I)I" } : Jvm.MethodName)) ∈ kv_gw := List.mem_filter.mpr ⟨kv_tb5 (List.mem_of_getElem? (i := 86) (by decide +kernel)), by decide +kernel⟩
theorem kw_1115 : (Jvm.Cond.code ({ cls := "KeptLump$Shelf", name := "narrowed", desc := "(I)I" } : Jvm.MethodName) prog_9_method_7_code (2 : Nat) (Option.some Jvm.ClassFile.FieldType.int)) ∈ kv_gw := List.mem_filter.mpr ⟨kv_tb5 (List.mem_of_getElem? (i := 87) (by decide +kernel)), by decide +kernel⟩
theorem kw_1120 : (Jvm.Cond.methodLink "KeptLump" (405 : Nat) ({ cls := "KeptLump$Shelf", name := "hasPart", desc := "(II)Z" } : Jvm.MethodName)) ∈ kv_gw := List.mem_filter.mpr ⟨kv_tb5 (List.mem_of_getElem? (i := 92) (by decide +kernel)), by decide +kernel⟩
theorem kw_1121 : (Jvm.Cond.instanceMethod ({ cls := "KeptLump$Shelf", name := "hasPart", desc := "(II)Z" } : Jvm.MethodName)) ∈ kv_gw := List.mem_filter.mpr ⟨kv_tb5 (List.mem_of_getElem? (i := 93) (by decide +kernel)), by decide +kernel⟩
theorem kw_1122 : (Jvm.Cond.selects "KeptLump$Shelf" ({ cls := "KeptLump$Shelf", name := "hasPart", desc := "(II)Z" } : Jvm.MethodName) ({ cls := "KeptLump$Shelf", name := "hasPart", desc := "(II)Z" } : Jvm.MethodName)) ∈ kv_gw := List.mem_filter.mpr ⟨kv_tb5 (List.mem_of_getElem? (i := 94) (by decide +kernel)), by decide +kernel⟩
theorem kw_1123 : (Jvm.Cond.code ({ cls := "KeptLump$Shelf", name := "hasPart", desc := "(II)Z" } : Jvm.MethodName) prog_9_method_10_code (3 : Nat) (Option.some Jvm.ClassFile.FieldType.boolean)) ∈ kv_gw := List.mem_filter.mpr ⟨kv_tb5 (List.mem_of_getElem? (i := 95) (by decide +kernel)), by decide +kernel⟩
theorem kw_1124 : (Jvm.Cond.methodLink "KeptLump" (408 : Nat) ({ cls := "java/lang/System", name := "arraycopy", desc := "(Ljava/lang/Object;ILjava/lang/Object;II)V" } : Jvm.MethodName)) ∈ kv_gw := List.mem_filter.mpr ⟨kv_tb5 (List.mem_of_getElem? (i := 96) (by decide +kernel)), by decide +kernel⟩
theorem kw_1129 : (Jvm.Cond.methodLink "KeptLump" (414 : Nat) ({ cls := "KeptLump", name := "lumpRefusal", desc := "(I)I" } : Jvm.MethodName)) ∈ kv_gw := List.mem_filter.mpr ⟨kv_tb5 (List.mem_of_getElem? (i := 101) (by decide +kernel)), by decide +kernel⟩
theorem kw_1131 : (Jvm.Cond.instanceMethod ({ cls := "KeptLump", name := "lumpRefusal", desc := "(I)I" } : Jvm.MethodName)) ∈ kv_gw := List.mem_filter.mpr ⟨kv_tb5 (List.mem_of_getElem? (i := 103) (by decide +kernel)), by decide +kernel⟩
theorem kw_1132 : (Jvm.Cond.code ({ cls := "KeptLump", name := "lumpRefusal", desc := "(I)I" } : Jvm.MethodName) prog_1_method_49_code (2 : Nat) (Option.some Jvm.ClassFile.FieldType.int)) ∈ kv_gw := List.mem_filter.mpr ⟨kv_tb5 (List.mem_of_getElem? (i := 104) (by decide +kernel)), by decide +kernel⟩
theorem kw_1133 : (Jvm.Cond.methodLink "KeptLump" (417 : Nat) ({ cls := "KeptLump$Shelf", name := "careWanted", desc := "()I" } : Jvm.MethodName)) ∈ kv_gw := List.mem_filter.mpr ⟨kv_tb5 (List.mem_of_getElem? (i := 105) (by decide +kernel)), by decide +kernel⟩
theorem kw_1134 : (Jvm.Cond.instanceMethod ({ cls := "KeptLump$Shelf", name := "careWanted", desc := "()I" } : Jvm.MethodName)) ∈ kv_gw := List.mem_filter.mpr ⟨kv_tb5 (List.mem_of_getElem? (i := 106) (by decide +kernel)), by decide +kernel⟩
theorem kw_1135 : (Jvm.Cond.selects "KeptLump$Shelf" ({ cls := "KeptLump$Shelf", name := "careWanted", desc := "()I" } : Jvm.MethodName) ({ cls := "KeptLump$Shelf", name := "careWanted", desc := "()I" } : Jvm.MethodName)) ∈ kv_gw := List.mem_filter.mpr ⟨kv_tb5 (List.mem_of_getElem? (i := 107) (by decide +kernel)), by decide +kernel⟩
theorem kw_1136 : (Jvm.Cond.code ({ cls := "KeptLump$Shelf", name := "careWanted", desc := "()I" } : Jvm.MethodName) prog_9_method_11_code (2 : Nat) (Option.some Jvm.ClassFile.FieldType.int)) ∈ kv_gw := List.mem_filter.mpr ⟨kv_tb5 (List.mem_of_getElem? (i := 108) (by decide +kernel)), by decide +kernel⟩
theorem kw_1244 : (Jvm.Cond.fieldLink "KeptLumpModel" (9 : Nat) "KeptLumpModel" "s" "[I") ∈ kv_gw := List.mem_filter.mpr ⟨kv_tb5 (List.mem_of_getElem? (i := 216) (by decide +kernel)), by decide +kernel⟩
theorem kw_1245 : (Jvm.Cond.fieldLink "KeptLumpModel" (13 : Nat) "KeptLumpModel" "image" "[I") ∈ kv_gw := List.mem_filter.mpr ⟨kv_tb5 (List.mem_of_getElem? (i := 217) (by decide +kernel)), by decide +kernel⟩
theorem kw_1246 : (Jvm.Cond.fieldLink "KeptLumpModel" (16 : Nat) "KeptLumpModel" "kept" "[I") ∈ kv_gw := List.mem_filter.mpr ⟨kv_tb5 (List.mem_of_getElem? (i := 218) (by decide +kernel)), by decide +kernel⟩
theorem kw_1247 : (Jvm.Cond.fieldLink "KeptLumpModel" (19 : Nat) "KeptLumpModel" "sort" "[I") ∈ kv_gw := List.mem_filter.mpr ⟨kv_tb5 (List.mem_of_getElem? (i := 219) (by decide +kernel)), by decide +kernel⟩
theorem kw_1248 : (Jvm.Cond.fieldLink "KeptLumpModel" (22 : Nat) "KeptLumpModel" "size" "[I") ∈ kv_gw := List.mem_filter.mpr ⟨kv_tb5 (List.mem_of_getElem? (i := 220) (by decide +kernel)), by decide +kernel⟩
theorem kw_1249 : (Jvm.Cond.fieldLink "KeptLumpModel" (25 : Nat) "KeptLumpModel" "element" "[I") ∈ kv_gw := List.mem_filter.mpr ⟨kv_tb5 (List.mem_of_getElem? (i := 221) (by decide +kernel)), by decide +kernel⟩
theorem kw_1250 : (Jvm.Cond.fieldLink "KeptLumpModel" (28 : Nat) "KeptLumpModel" "keptCare" "[I") ∈ kv_gw := List.mem_filter.mpr ⟨kv_tb5 (List.mem_of_getElem? (i := 222) (by decide +kernel)), by decide +kernel⟩
theorem kw_1251 : (Jvm.Cond.fieldLink "KeptLumpModel" (31 : Nat) "KeptLumpModel" "keptToss" "[I") ∈ kv_gw := List.mem_filter.mpr ⟨kv_tb5 (List.mem_of_getElem? (i := 223) (by decide +kernel)), by decide +kernel⟩
theorem kw_1252 : (Jvm.Cond.fieldLink "KeptLumpModel" (310 : Nat) "KeptLumpModel" "hasImage" "Z") ∈ kv_gw := List.mem_filter.mpr ⟨kv_tb5 (List.mem_of_getElem? (i := 224) (by decide +kernel)), by decide +kernel⟩
theorem kw_1253 : (Jvm.Cond.fieldLink "KeptLumpModel" (57 : Nat) "KeptLumpModel" "thrown" "I") ∈ kv_gw := List.mem_filter.mpr ⟨kv_tb5 (List.mem_of_getElem? (i := 225) (by decide +kernel)), by decide +kernel⟩
theorem kw_1254 : (Jvm.Cond.fieldLink "KeptLumpModel" (34 : Nat) "KeptLumpModel" "far" "[J") ∈ kv_gw := List.mem_filter.mpr ⟨kv_tb5 (List.mem_of_getElem? (i := 226) (by decide +kernel)), by decide +kernel⟩
theorem kw_1255 : (Jvm.Cond.fieldLink "KeptLumpModel" (38 : Nat) "KeptLumpModel" "nodeLump" "[I") ∈ kv_gw := List.mem_filter.mpr ⟨kv_tb5 (List.mem_of_getElem? (i := 227) (by decide +kernel)), by decide +kernel⟩
theorem kw_1256 : (Jvm.Cond.fieldLink "KeptLumpModel" (41 : Nat) "KeptLumpModel" "nodeYear" "[I") ∈ kv_gw := List.mem_filter.mpr ⟨kv_tb5 (List.mem_of_getElem? (i := 228) (by decide +kernel)), by decide +kernel⟩
theorem kw_1257 : (Jvm.Cond.fieldLink "KeptLumpModel" (144 : Nat) "KeptLumpModel" "nodes" "I") ∈ kv_gw := List.mem_filter.mpr ⟨kv_tb5 (List.mem_of_getElem? (i := 229) (by decide +kernel)), by decide +kernel⟩
theorem kw_1258 : (Jvm.Cond.fieldLink "KeptLumpModel" (44 : Nat) "KeptLumpModel" "one" "I") ∈ kv_gw := List.mem_filter.mpr ⟨kv_tb5 (List.mem_of_getElem? (i := 230) (by decide +kernel)), by decide +kernel⟩
theorem kw_1259 : (Jvm.Cond.fieldLink "KeptLumpModel" (48 : Nat) "KeptLumpModel" "two" "I") ∈ kv_gw := List.mem_filter.mpr ⟨kv_tb5 (List.mem_of_getElem? (i := 231) (by decide +kernel)), by decide +kernel⟩
theorem kw_1260 : (Jvm.Cond.fieldLink "KeptLumpModel" (177 : Nat) "KeptLumpModel" "from" "I") ∈ kv_gw := List.mem_filter.mpr ⟨kv_tb5 (List.mem_of_getElem? (i := 232) (by decide +kernel)), by decide +kernel⟩
theorem kw_1261 : (Jvm.Cond.fieldLink "KeptLumpModel" (51 : Nat) "KeptLumpModel" "without" "I") ∈ kv_gw := List.mem_filter.mpr ⟨kv_tb5 (List.mem_of_getElem? (i := 233) (by decide +kernel)), by decide +kernel⟩
theorem kw_1262 : (Jvm.Cond.fieldLink "KeptLumpModel" (209 : Nat) "KeptLumpModel" "pos" "I") ∈ kv_gw := List.mem_filter.mpr ⟨kv_tb5 (List.mem_of_getElem? (i := 234) (by decide +kernel)), by decide +kernel⟩
theorem kw_1263 : (Jvm.Cond.fieldLink "KeptLumpModel" (215 : Nat) "KeptLumpModel" "base" "I") ∈ kv_gw := List.mem_filter.mpr ⟨kv_tb5 (List.mem_of_getElem? (i := 235) (by decide +kernel)), by decide +kernel⟩
theorem kw_1264 : (Jvm.Cond.fieldLink "KeptLumpModel" (212 : Nat) "KeptLumpModel" "end" "I") ∈ kv_gw := List.mem_filter.mpr ⟨kv_tb5 (List.mem_of_getElem? (i := 236) (by decide +kernel)), by decide +kernel⟩
theorem kw_1265 : (Jvm.Cond.fieldLink "KeptLumpModel" (237 : Nat) "KeptLumpModel" "deep" "I") ∈ kv_gw := List.mem_filter.mpr ⟨kv_tb5 (List.mem_of_getElem? (i := 237) (by decide +kernel)), by decide +kernel⟩
theorem kw_1266 : (Jvm.Cond.fieldLink "KeptLumpModel" (225 : Nat) "KeptLumpModel" "number" "I") ∈ kv_gw := List.mem_filter.mpr ⟨kv_tb5 (List.mem_of_getElem? (i := 238) (by decide +kernel)), by decide +kernel⟩
theorem kw_1267 : (Jvm.Cond.fieldLink "KeptLumpModel" (54 : Nat) "KeptLumpModel" "text" "[I") ∈ kv_gw := List.mem_filter.mpr ⟨kv_tb5 (List.mem_of_getElem? (i := 239) (by decide +kernel)), by decide +kernel⟩
theorem kw_1268 : (Jvm.Cond.fieldLink "KeptLumpModel" (249 : Nat) "KeptLumpModel" "year" "I") ∈ kv_gw := List.mem_filter.mpr ⟨kv_tb6 (List.mem_of_getElem? (i := 0) (by decide +kernel)), by decide +kernel⟩
theorem kw_1269 : (Jvm.Cond.laysFinal "KeptLumpModel" "KeptLumpModel" "s" "[I") ∈ kv_gw := List.mem_filter.mpr ⟨kv_tb6 (List.mem_of_getElem? (i := 1) (by decide +kernel)), by decide +kernel⟩
theorem kw_1271 : (Jvm.Cond.laysFinal "KeptLumpModel" "KeptLumpModel" "image" "[I") ∈ kv_gw := List.mem_filter.mpr ⟨kv_tb6 (List.mem_of_getElem? (i := 3) (by decide +kernel)), by decide +kernel⟩
theorem kw_1273 : (Jvm.Cond.laysFinal "KeptLumpModel" "KeptLumpModel" "kept" "[I") ∈ kv_gw := List.mem_filter.mpr ⟨kv_tb6 (List.mem_of_getElem? (i := 5) (by decide +kernel)), by decide +kernel⟩
theorem kw_1275 : (Jvm.Cond.laysFinal "KeptLumpModel" "KeptLumpModel" "sort" "[I") ∈ kv_gw := List.mem_filter.mpr ⟨kv_tb6 (List.mem_of_getElem? (i := 7) (by decide +kernel)), by decide +kernel⟩
theorem kw_1277 : (Jvm.Cond.laysFinal "KeptLumpModel" "KeptLumpModel" "size" "[I") ∈ kv_gw := List.mem_filter.mpr ⟨kv_tb6 (List.mem_of_getElem? (i := 9) (by decide +kernel)), by decide +kernel⟩
theorem kw_1279 : (Jvm.Cond.laysFinal "KeptLumpModel" "KeptLumpModel" "element" "[I") ∈ kv_gw := List.mem_filter.mpr ⟨kv_tb6 (List.mem_of_getElem? (i := 11) (by decide +kernel)), by decide +kernel⟩
theorem kw_1281 : (Jvm.Cond.laysFinal "KeptLumpModel" "KeptLumpModel" "keptCare" "[I") ∈ kv_gw := List.mem_filter.mpr ⟨kv_tb6 (List.mem_of_getElem? (i := 13) (by decide +kernel)), by decide +kernel⟩
theorem kw_1283 : (Jvm.Cond.laysFinal "KeptLumpModel" "KeptLumpModel" "keptToss" "[I") ∈ kv_gw := List.mem_filter.mpr ⟨kv_tb6 (List.mem_of_getElem? (i := 15) (by decide +kernel)), by decide +kernel⟩
theorem kw_1285 : (Jvm.Cond.lays "KeptLumpModel" "KeptLumpModel" "hasImage" "Z") ∈ kv_gw := List.mem_filter.mpr ⟨kv_tb6 (List.mem_of_getElem? (i := 17) (by decide +kernel)), by decide +kernel⟩
theorem kw_1287 : (Jvm.Cond.lays "KeptLumpModel" "KeptLumpModel" "thrown" "I") ∈ kv_gw := List.mem_filter.mpr ⟨kv_tb6 (List.mem_of_getElem? (i := 19) (by decide +kernel)), by decide +kernel⟩
theorem kw_1289 : (Jvm.Cond.laysFinal "KeptLumpModel" "KeptLumpModel" "far" "[J") ∈ kv_gw := List.mem_filter.mpr ⟨kv_tb6 (List.mem_of_getElem? (i := 21) (by decide +kernel)), by decide +kernel⟩
theorem kw_1291 : (Jvm.Cond.laysFinal "KeptLumpModel" "KeptLumpModel" "nodeLump" "[I") ∈ kv_gw := List.mem_filter.mpr ⟨kv_tb6 (List.mem_of_getElem? (i := 23) (by decide +kernel)), by decide +kernel⟩
theorem kw_1293 : (Jvm.Cond.laysFinal "KeptLumpModel" "KeptLumpModel" "nodeYear" "[I") ∈ kv_gw := List.mem_filter.mpr ⟨kv_tb6 (List.mem_of_getElem? (i := 25) (by decide +kernel)), by decide +kernel⟩
theorem kw_1295 : (Jvm.Cond.lays "KeptLumpModel" "KeptLumpModel" "nodes" "I") ∈ kv_gw := List.mem_filter.mpr ⟨kv_tb6 (List.mem_of_getElem? (i := 27) (by decide +kernel)), by decide +kernel⟩
theorem kw_1297 : (Jvm.Cond.lays "KeptLumpModel" "KeptLumpModel" "one" "I") ∈ kv_gw := List.mem_filter.mpr ⟨kv_tb6 (List.mem_of_getElem? (i := 29) (by decide +kernel)), by decide +kernel⟩
theorem kw_1299 : (Jvm.Cond.lays "KeptLumpModel" "KeptLumpModel" "two" "I") ∈ kv_gw := List.mem_filter.mpr ⟨kv_tb6 (List.mem_of_getElem? (i := 31) (by decide +kernel)), by decide +kernel⟩
theorem kw_1301 : (Jvm.Cond.lays "KeptLumpModel" "KeptLumpModel" "from" "I") ∈ kv_gw := List.mem_filter.mpr ⟨kv_tb6 (List.mem_of_getElem? (i := 33) (by decide +kernel)), by decide +kernel⟩
theorem kw_1303 : (Jvm.Cond.lays "KeptLumpModel" "KeptLumpModel" "without" "I") ∈ kv_gw := List.mem_filter.mpr ⟨kv_tb6 (List.mem_of_getElem? (i := 35) (by decide +kernel)), by decide +kernel⟩
theorem kw_1305 : (Jvm.Cond.lays "KeptLumpModel" "KeptLumpModel" "pos" "I") ∈ kv_gw := List.mem_filter.mpr ⟨kv_tb6 (List.mem_of_getElem? (i := 37) (by decide +kernel)), by decide +kernel⟩
theorem kw_1307 : (Jvm.Cond.lays "KeptLumpModel" "KeptLumpModel" "base" "I") ∈ kv_gw := List.mem_filter.mpr ⟨kv_tb6 (List.mem_of_getElem? (i := 39) (by decide +kernel)), by decide +kernel⟩
theorem kw_1309 : (Jvm.Cond.lays "KeptLumpModel" "KeptLumpModel" "end" "I") ∈ kv_gw := List.mem_filter.mpr ⟨kv_tb6 (List.mem_of_getElem? (i := 41) (by decide +kernel)), by decide +kernel⟩
theorem kw_1311 : (Jvm.Cond.lays "KeptLumpModel" "KeptLumpModel" "deep" "I") ∈ kv_gw := List.mem_filter.mpr ⟨kv_tb6 (List.mem_of_getElem? (i := 43) (by decide +kernel)), by decide +kernel⟩
theorem kw_1313 : (Jvm.Cond.lays "KeptLumpModel" "KeptLumpModel" "number" "I") ∈ kv_gw := List.mem_filter.mpr ⟨kv_tb6 (List.mem_of_getElem? (i := 45) (by decide +kernel)), by decide +kernel⟩
theorem kw_1315 : (Jvm.Cond.lays "KeptLumpModel" "KeptLumpModel" "text" "[I") ∈ kv_gw := List.mem_filter.mpr ⟨kv_tb6 (List.mem_of_getElem? (i := 47) (by decide +kernel)), by decide +kernel⟩
theorem kw_1317 : (Jvm.Cond.lays "KeptLumpModel" "KeptLumpModel" "year" "I") ∈ kv_gw := List.mem_filter.mpr ⟨kv_tb6 (List.mem_of_getElem? (i := 49) (by decide +kernel)), by decide +kernel⟩
theorem kw_1329 : (Jvm.Cond.constantLong "KeptLumpModel" (72 : Nat) (79 : Int64)) ∈ kv_gw := List.mem_filter.mpr ⟨kv_tb6 (List.mem_of_getElem? (i := 61) (by decide +kernel)), by decide +kernel⟩
theorem kw_1330 : (Jvm.Cond.methodLink "KeptLumpModel" (60 : Nat) ({ cls := "KeptLumpModel", name := "isIn", desc := "(JJJ)Z" } : Jvm.MethodName)) ∈ kv_gw := List.mem_filter.mpr ⟨kv_tb6 (List.mem_of_getElem? (i := 62) (by decide +kernel)), by decide +kernel⟩
theorem kw_1331 : (Jvm.Cond.static ({ cls := "KeptLumpModel", name := "isIn", desc := "(JJJ)Z" } : Jvm.MethodName)) ∈ kv_gw := List.mem_filter.mpr ⟨kv_tb6 (List.mem_of_getElem? (i := 63) (by decide +kernel)), by decide +kernel⟩
theorem kw_1332 : (Jvm.Cond.code ({ cls := "KeptLumpModel", name := "isIn", desc := "(JJJ)Z" } : Jvm.MethodName) prog_13_method_3_code (6 : Nat) (Option.some Jvm.ClassFile.FieldType.boolean)) ∈ kv_gw := List.mem_filter.mpr ⟨kv_tb6 (List.mem_of_getElem? (i := 64) (by decide +kernel)), by decide +kernel⟩
theorem kw_1333 : (Jvm.Cond.constantLong "KeptLumpModel" (74 : Nat) (-9 : Int64)) ∈ kv_gw := List.mem_filter.mpr ⟨kv_tb6 (List.mem_of_getElem? (i := 65) (by decide +kernel)), by decide +kernel⟩
theorem kw_1334 : (Jvm.Cond.constantLong "KeptLumpModel" (76 : Nat) (9 : Int64)) ∈ kv_gw := List.mem_filter.mpr ⟨kv_tb6 (List.mem_of_getElem? (i := 66) (by decide +kernel)), by decide +kernel⟩
theorem kw_1335 : (Jvm.Cond.constantLong "KeptLumpModel" (78 : Nat) (-9999 : Int64)) ∈ kv_gw := List.mem_filter.mpr ⟨kv_tb6 (List.mem_of_getElem? (i := 67) (by decide +kernel)), by decide +kernel⟩
theorem kw_1336 : (Jvm.Cond.constantLong "KeptLumpModel" (80 : Nat) (9999 : Int64)) ∈ kv_gw := List.mem_filter.mpr ⟨kv_tb6 (List.mem_of_getElem? (i := 68) (by decide +kernel)), by decide +kernel⟩
theorem kw_1337 : (Jvm.Cond.methodLink "KeptLumpModel" (82 : Nat) ({ cls := "KeptLumpModel", name := "primeOf", desc := "()I" } : Jvm.MethodName)) ∈ kv_gw := List.mem_filter.mpr ⟨kv_tb6 (List.mem_of_getElem? (i := 69) (by decide +kernel)), by decide +kernel⟩
theorem kw_1339 : (Jvm.Cond.instanceMethod ({ cls := "KeptLumpModel", name := "primeOf", desc := "()I" } : Jvm.MethodName)) ∈ kv_gw := List.mem_filter.mpr ⟨kv_tb6 (List.mem_of_getElem? (i := 71) (by decide +kernel)), by decide +kernel⟩
theorem kw_1340 : (Jvm.Cond.code ({ cls := "KeptLumpModel", name := "primeOf", desc := "()I" } : Jvm.MethodName) prog_13_method_9_code (2 : Nat) (Option.some Jvm.ClassFile.FieldType.int)) ∈ kv_gw := List.mem_filter.mpr ⟨kv_tb6 (List.mem_of_getElem? (i := 72) (by decide +kernel)), by decide +kernel⟩
theorem kw_1341 : (Jvm.Cond.methodLink "KeptLumpModel" (68 : Nat) ({ cls := "KeptLumpModel", name := "get", desc := "(II)I" } : Jvm.MethodName)) ∈ kv_gw := List.mem_filter.mpr ⟨kv_tb6 (List.mem_of_getElem? (i := 73) (by decide +kernel)), by decide +kernel⟩
theorem kw_1343 : (Jvm.Cond.instanceMethod ({ cls := "KeptLumpModel", name := "get", desc := "(II)I" } : Jvm.MethodName)) ∈ kv_gw := List.mem_filter.mpr ⟨kv_tb6 (List.mem_of_getElem? (i := 75) (by decide +kernel)), by decide +kernel⟩
theorem kw_1344 : (Jvm.Cond.code ({ cls := "KeptLumpModel", name := "get", desc := "(II)I" } : Jvm.MethodName) prog_13_method_7_code (3 : Nat) (Option.some Jvm.ClassFile.FieldType.int)) ∈ kv_gw := List.mem_filter.mpr ⟨kv_tb6 (List.mem_of_getElem? (i := 76) (by decide +kernel)), by decide +kernel⟩
theorem kw_1349 : (Jvm.Cond.constantLong "KeptLumpModel" (86 : Nat) (5 : Int64)) ∈ kv_gw := List.mem_filter.mpr ⟨kv_tb6 (List.mem_of_getElem? (i := 81) (by decide +kernel)), by decide +kernel⟩
theorem kw_1350 : (Jvm.Cond.methodLink "KeptLumpModel" (88 : Nat) ({ cls := "KeptLumpModel", name := "becomes", desc := "(II)I" } : Jvm.MethodName)) ∈ kv_gw := List.mem_filter.mpr ⟨kv_tb6 (List.mem_of_getElem? (i := 82) (by decide +kernel)), by decide +kernel⟩
theorem kw_1352 : (Jvm.Cond.instanceMethod ({ cls := "KeptLumpModel", name := "becomes", desc := "(II)I" } : Jvm.MethodName)) ∈ kv_gw := List.mem_filter.mpr ⟨kv_tb6 (List.mem_of_getElem? (i := 84) (by decide +kernel)), by decide +kernel⟩
theorem kw_1353 : (Jvm.Cond.code ({ cls := "KeptLumpModel", name := "becomes", desc := "(II)I" } : Jvm.MethodName) prog_13_method_8_code (4 : Nat) (Option.some Jvm.ClassFile.FieldType.int)) ∈ kv_gw := List.mem_filter.mpr ⟨kv_tb6 (List.mem_of_getElem? (i := 85) (by decide +kernel)), by decide +kernel⟩
theorem kw_1354 : (Jvm.Cond.constant "KeptLumpModel" (91 : Nat) (-1000000001 : Int32)) ∈ kv_gw := List.mem_filter.mpr ⟨kv_tb6 (List.mem_of_getElem? (i := 86) (by decide +kernel)), by decide +kernel⟩
theorem kw_1355 : (Jvm.Cond.constantLong "KeptLumpModel" (92 : Nat) (3 : Int64)) ∈ kv_gw := List.mem_filter.mpr ⟨kv_tb6 (List.mem_of_getElem? (i := 87) (by decide +kernel)), by decide +kernel⟩
theorem kw_1356 : (Jvm.Cond.constantLong "KeptLumpModel" (94 : Nat) (99 : Int64)) ∈ kv_gw := List.mem_filter.mpr ⟨kv_tb6 (List.mem_of_getElem? (i := 88) (by decide +kernel)), by decide +kernel⟩
theorem kw_1357 : (Jvm.Cond.constantLong "KeptLumpModel" (96 : Nat) (-99 : Int64)) ∈ kv_gw := List.mem_filter.mpr ⟨kv_tb6 (List.mem_of_getElem? (i := 89) (by decide +kernel)), by decide +kernel⟩
theorem kw_1362 : (Jvm.Cond.methodLink "KeptLumpModel" (98 : Nat) ({ cls := "KeptLumpModel", name := "isLump", desc := "(I)Z" } : Jvm.MethodName)) ∈ kv_gw := List.mem_filter.mpr ⟨kv_tb6 (List.mem_of_getElem? (i := 94) (by decide +kernel)), by decide +kernel⟩
theorem kw_1364 : (Jvm.Cond.instanceMethod ({ cls := "KeptLumpModel", name := "isLump", desc := "(I)Z" } : Jvm.MethodName)) ∈ kv_gw := List.mem_filter.mpr ⟨kv_tb6 (List.mem_of_getElem? (i := 96) (by decide +kernel)), by decide +kernel⟩
theorem kw_1365 : (Jvm.Cond.code ({ cls := "KeptLumpModel", name := "isLump", desc := "(I)Z" } : Jvm.MethodName) prog_13_method_4_code (2 : Nat) (Option.some Jvm.ClassFile.FieldType.boolean)) ∈ kv_gw := List.mem_filter.mpr ⟨kv_tb6 (List.mem_of_getElem? (i := 97) (by decide +kernel)), by decide +kernel⟩
theorem kw_1366 : (Jvm.Cond.constant "KeptLumpModel" (102 : Nat) (-1000000004 : Int32)) ∈ kv_gw := List.mem_filter.mpr ⟨kv_tb6 (List.mem_of_getElem? (i := 98) (by decide +kernel)), by decide +kernel⟩
theorem kw_1375 : (Jvm.Cond.constantLong "KeptLumpModel" (105 : Nat) (40 : Int64)) ∈ kv_gw := List.mem_filter.mpr ⟨kv_tb6 (List.mem_of_getElem? (i := 107) (by decide +kernel)), by decide +kernel⟩
theorem kw_1376 : (Jvm.Cond.methodLink "KeptLumpModel" (107 : Nat) ({ cls := "KeptLumpModel", name := "growth", desc := "(II)I" } : Jvm.MethodName)) ∈ kv_gw := List.mem_filter.mpr ⟨kv_tb6 (List.mem_of_getElem? (i := 108) (by decide +kernel)), by decide +kernel⟩
theorem kw_1378 : (Jvm.Cond.instanceMethod ({ cls := "KeptLumpModel", name := "growth", desc := "(II)I" } : Jvm.MethodName)) ∈ kv_gw := List.mem_filter.mpr ⟨kv_tb6 (List.mem_of_getElem? (i := 110) (by decide +kernel)), by decide +kernel⟩
theorem kw_1379 : (Jvm.Cond.code ({ cls := "KeptLumpModel", name := "growth", desc := "(II)I" } : Jvm.MethodName) prog_13_method_14_code (5 : Nat) (Option.some Jvm.ClassFile.FieldType.int)) ∈ kv_gw := List.mem_filter.mpr ⟨kv_tb6 (List.mem_of_getElem? (i := 111) (by decide +kernel)), by decide +kernel⟩
theorem kw_1380 : (Jvm.Cond.constantLong "KeptLumpModel" (103 : Nat) (2 : Int64)) ∈ kv_gw := List.mem_filter.mpr ⟨kv_tb6 (List.mem_of_getElem? (i := 112) (by decide +kernel)), by decide +kernel⟩
theorem kw_1385 : (Jvm.Cond.methodLink "KeptLumpModel" (110 : Nat) ({ cls := "KeptLumpModel", name := "isYear", desc := "(I)Z" } : Jvm.MethodName)) ∈ kv_gw := List.mem_filter.mpr ⟨kv_tb6 (List.mem_of_getElem? (i := 117) (by decide +kernel)), by decide +kernel⟩
theorem kw_1386 : (Jvm.Cond.static ({ cls := "KeptLumpModel", name := "isYear", desc := "(I)Z" } : Jvm.MethodName)) ∈ kv_gw := List.mem_filter.mpr ⟨kv_tb6 (List.mem_of_getElem? (i := 118) (by decide +kernel)), by decide +kernel⟩
theorem kw_1387 : (Jvm.Cond.code ({ cls := "KeptLumpModel", name := "isYear", desc := "(I)Z" } : Jvm.MethodName) prog_13_method_5_code (1 : Nat) (Option.some Jvm.ClassFile.FieldType.boolean)) ∈ kv_gw := List.mem_filter.mpr ⟨kv_tb6 (List.mem_of_getElem? (i := 119) (by decide +kernel)), by decide +kernel⟩
theorem kw_1388 : (Jvm.Cond.constantLong "KeptLumpModel" (64 : Nat) (140 : Int64)) ∈ kv_gw := List.mem_filter.mpr ⟨kv_tb6 (List.mem_of_getElem? (i := 120) (by decide +kernel)), by decide +kernel⟩
theorem kw_1397 : (Jvm.Cond.methodLink "KeptLumpModel" (113 : Nat) ({ cls := "KeptLumpModel", name := "touchesLeft", desc := "()I" } : Jvm.MethodName)) ∈ kv_gw := List.mem_filter.mpr ⟨kv_tb6 (List.mem_of_getElem? (i := 129) (by decide +kernel)), by decide +kernel⟩
theorem kw_1399 : (Jvm.Cond.instanceMethod ({ cls := "KeptLumpModel", name := "touchesLeft", desc := "()I" } : Jvm.MethodName)) ∈ kv_gw := List.mem_filter.mpr ⟨kv_tb6 (List.mem_of_getElem? (i := 131) (by decide +kernel)), by decide +kernel⟩
theorem kw_1400 : (Jvm.Cond.code ({ cls := "KeptLumpModel", name := "touchesLeft", desc := "()I" } : Jvm.MethodName) prog_13_method_18_code (3 : Nat) (Option.some Jvm.ClassFile.FieldType.int)) ∈ kv_gw := List.mem_filter.mpr ⟨kv_tb6 (List.mem_of_getElem? (i := 132) (by decide +kernel)), by decide +kernel⟩
theorem kw_1401 : (Jvm.Cond.constant "KeptLumpModel" (116 : Nat) (1103515245 : Int32)) ∈ kv_gw := List.mem_filter.mpr ⟨kv_tb6 (List.mem_of_getElem? (i := 133) (by decide +kernel)), by decide +kernel⟩
theorem kw_1402 : (Jvm.Cond.constant "KeptLumpModel" (117 : Nat) (2147483647 : Int32)) ∈ kv_gw := List.mem_filter.mpr ⟨kv_tb6 (List.mem_of_getElem? (i := 134) (by decide +kernel)), by decide +kernel⟩
theorem kw_1403 : (Jvm.Cond.constant "KeptLumpModel" (118 : Nat) (65536 : Int32)) ∈ kv_gw := List.mem_filter.mpr ⟨kv_tb6 (List.mem_of_getElem? (i := 135) (by decide +kernel)), by decide +kernel⟩
theorem kw_1404 : (Jvm.Cond.methodLink "KeptLumpModel" (119 : Nat) ({ cls := "KeptLumpModel", name := "tells", desc := "(IIIII)V" } : Jvm.MethodName)) ∈ kv_gw := List.mem_filter.mpr ⟨kv_tb6 (List.mem_of_getElem? (i := 136) (by decide +kernel)), by decide +kernel⟩
theorem kw_1406 : (Jvm.Cond.instanceMethod ({ cls := "KeptLumpModel", name := "tells", desc := "(IIIII)V" } : Jvm.MethodName)) ∈ kv_gw := List.mem_filter.mpr ⟨kv_tb6 (List.mem_of_getElem? (i := 138) (by decide +kernel)), by decide +kernel⟩
theorem kw_1407 : (Jvm.Cond.code ({ cls := "KeptLumpModel", name := "tells", desc := "(IIIII)V" } : Jvm.MethodName) prog_13_method_19_code (7 : Nat) (Option.none : Option Jvm.ClassFile.FieldType)) ∈ kv_gw := List.mem_filter.mpr ⟨kv_tb6 (List.mem_of_getElem? (i := 139) (by decide +kernel)), by decide +kernel⟩
theorem kw_1412 : (Jvm.Cond.methodLink "KeptLumpModel" (127 : Nat) ({ cls := "KeptLumpModel", name := "wrongRow", desc := "(II)I" } : Jvm.MethodName)) ∈ kv_gw := List.mem_filter.mpr ⟨kv_tb6 (List.mem_of_getElem? (i := 144) (by decide +kernel)), by decide +kernel⟩
theorem kw_1414 : (Jvm.Cond.instanceMethod ({ cls := "KeptLumpModel", name := "wrongRow", desc := "(II)I" } : Jvm.MethodName)) ∈ kv_gw := List.mem_filter.mpr ⟨kv_tb6 (List.mem_of_getElem? (i := 146) (by decide +kernel)), by decide +kernel⟩
theorem kw_1415 : (Jvm.Cond.code ({ cls := "KeptLumpModel", name := "wrongRow", desc := "(II)I" } : Jvm.MethodName) prog_13_method_21_code (3 : Nat) (Option.some Jvm.ClassFile.FieldType.int)) ∈ kv_gw := List.mem_filter.mpr ⟨kv_tb6 (List.mem_of_getElem? (i := 147) (by decide +kernel)), by decide +kernel⟩
theorem kw_1416 : (Jvm.Cond.methodLink "KeptLumpModel" (123 : Nat) ({ cls := "KeptLumpModel", name := "isShelf", desc := "(I)Z" } : Jvm.MethodName)) ∈ kv_gw := List.mem_filter.mpr ⟨kv_tb6 (List.mem_of_getElem? (i := 148) (by decide +kernel)), by decide +kernel⟩
theorem kw_1417 : (Jvm.Cond.static ({ cls := "KeptLumpModel", name := "isShelf", desc := "(I)Z" } : Jvm.MethodName)) ∈ kv_gw := List.mem_filter.mpr ⟨kv_tb6 (List.mem_of_getElem? (i := 149) (by decide +kernel)), by decide +kernel⟩
theorem kw_1418 : (Jvm.Cond.code ({ cls := "KeptLumpModel", name := "isShelf", desc := "(I)Z" } : Jvm.MethodName) prog_13_method_6_code (1 : Nat) (Option.some Jvm.ClassFile.FieldType.boolean)) ∈ kv_gw := List.mem_filter.mpr ⟨kv_tb6 (List.mem_of_getElem? (i := 150) (by decide +kernel)), by decide +kernel⟩
theorem kw_1419 : (Jvm.Cond.constantLong "KeptLumpModel" (66 : Nat) (7 : Int64)) ∈ kv_gw := List.mem_filter.mpr ⟨kv_tb6 (List.mem_of_getElem? (i := 151) (by decide +kernel)), by decide +kernel⟩
theorem kw_1420 : (Jvm.Cond.methodLink "KeptLumpModel" (130 : Nat) ({ cls := "KeptLumpModel", name := "isLost", desc := "(II)Z" } : Jvm.MethodName)) ∈ kv_gw := List.mem_filter.mpr ⟨kv_tb6 (List.mem_of_getElem? (i := 152) (by decide +kernel)), by decide +kernel⟩
theorem kw_1422 : (Jvm.Cond.instanceMethod ({ cls := "KeptLumpModel", name := "isLost", desc := "(II)Z" } : Jvm.MethodName)) ∈ kv_gw := List.mem_filter.mpr ⟨kv_tb6 (List.mem_of_getElem? (i := 154) (by decide +kernel)), by decide +kernel⟩
theorem kw_1423 : (Jvm.Cond.code ({ cls := "KeptLumpModel", name := "isLost", desc := "(II)Z" } : Jvm.MethodName) prog_13_method_22_code (5 : Nat) (Option.some Jvm.ClassFile.FieldType.boolean)) ∈ kv_gw := List.mem_filter.mpr ⟨kv_tb6 (List.mem_of_getElem? (i := 155) (by decide +kernel)), by decide +kernel⟩
theorem kw_1424 : (Jvm.Cond.constant "KeptLumpModel" (126 : Nat) (-2147483648 : Int32)) ∈ kv_gw := List.mem_filter.mpr ⟨kv_tb6 (List.mem_of_getElem? (i := 156) (by decide +kernel)), by decide +kernel⟩
theorem kw_1425 : (Jvm.Cond.constantLong "KeptLumpModel" (134 : Nat) (-99999 : Int64)) ∈ kv_gw := List.mem_filter.mpr ⟨kv_tb6 (List.mem_of_getElem? (i := 157) (by decide +kernel)), by decide +kernel⟩
theorem kw_1426 : (Jvm.Cond.constantLong "KeptLumpModel" (136 : Nat) (99999 : Int64)) ∈ kv_gw := List.mem_filter.mpr ⟨kv_tb6 (List.mem_of_getElem? (i := 158) (by decide +kernel)), by decide +kernel⟩
theorem kw_1431 : (Jvm.Cond.methodLink "KeptLumpModel" (138 : Nat) ({ cls := "KeptLumpModel", name := "isWeighing", desc := "(I)Z" } : Jvm.MethodName)) ∈ kv_gw := List.mem_filter.mpr ⟨kv_tb6 (List.mem_of_getElem? (i := 163) (by decide +kernel)), by decide +kernel⟩
theorem kw_1433 : (Jvm.Cond.instanceMethod ({ cls := "KeptLumpModel", name := "isWeighing", desc := "(I)Z" } : Jvm.MethodName)) ∈ kv_gw := List.mem_filter.mpr ⟨kv_tb6 (List.mem_of_getElem? (i := 165) (by decide +kernel)), by decide +kernel⟩
theorem kw_1434 : (Jvm.Cond.code ({ cls := "KeptLumpModel", name := "isWeighing", desc := "(I)Z" } : Jvm.MethodName) prog_13_method_24_code (2 : Nat) (Option.some Jvm.ClassFile.FieldType.boolean)) ∈ kv_gw := List.mem_filter.mpr ⟨kv_tb6 (List.mem_of_getElem? (i := 166) (by decide +kernel)), by decide +kernel⟩
theorem kw_1435 : (Jvm.Cond.methodLink "KeptLumpModel" (141 : Nat) ({ cls := "KeptLumpModel", name := "say", desc := "(II)I" } : Jvm.MethodName)) ∈ kv_gw := List.mem_filter.mpr ⟨kv_tb6 (List.mem_of_getElem? (i := 167) (by decide +kernel)), by decide +kernel⟩
theorem kw_1437 : (Jvm.Cond.instanceMethod ({ cls := "KeptLumpModel", name := "say", desc := "(II)I" } : Jvm.MethodName)) ∈ kv_gw := List.mem_filter.mpr ⟨kv_tb6 (List.mem_of_getElem? (i := 169) (by decide +kernel)), by decide +kernel⟩
theorem kw_1438 : (Jvm.Cond.code ({ cls := "KeptLumpModel", name := "say", desc := "(II)I" } : Jvm.MethodName) prog_13_method_25_code (3 : Nat) (Option.some Jvm.ClassFile.FieldType.int)) ∈ kv_gw := List.mem_filter.mpr ⟨kv_tb6 (List.mem_of_getElem? (i := 170) (by decide +kernel)), by decide +kernel⟩
theorem kw_1451 : (Jvm.Cond.methodLink "KeptLumpModel" (169 : Nat) ({ cls := "KeptLumpModel", name := "fitsYear", desc := "(I)Z" } : Jvm.MethodName)) ∈ kv_gw := List.mem_filter.mpr ⟨kv_tb6 (List.mem_of_getElem? (i := 183) (by decide +kernel)), by decide +kernel⟩
theorem kw_1453 : (Jvm.Cond.instanceMethod ({ cls := "KeptLumpModel", name := "fitsYear", desc := "(I)Z" } : Jvm.MethodName)) ∈ kv_gw := List.mem_filter.mpr ⟨kv_tb6 (List.mem_of_getElem? (i := 185) (by decide +kernel)), by decide +kernel⟩
theorem kw_1454 : (Jvm.Cond.code ({ cls := "KeptLumpModel", name := "fitsYear", desc := "(I)Z" } : Jvm.MethodName) prog_13_method_34_code (2 : Nat) (Option.some Jvm.ClassFile.FieldType.boolean)) ∈ kv_gw := List.mem_filter.mpr ⟨kv_tb6 (List.mem_of_getElem? (i := 186) (by decide +kernel)), by decide +kernel⟩
theorem kw_1455 : (Jvm.Cond.methodLink "KeptLumpModel" (157 : Nat) ({ cls := "KeptLumpModel", name := "begins", desc := "(I)V" } : Jvm.MethodName)) ∈ kv_gw := List.mem_filter.mpr ⟨kv_tb6 (List.mem_of_getElem? (i := 187) (by decide +kernel)), by decide +kernel⟩
theorem kw_1457 : (Jvm.Cond.instanceMethod ({ cls := "KeptLumpModel", name := "begins", desc := "(I)V" } : Jvm.MethodName)) ∈ kv_gw := List.mem_filter.mpr ⟨kv_tb6 (List.mem_of_getElem? (i := 189) (by decide +kernel)), by decide +kernel⟩
theorem kw_1458 : (Jvm.Cond.code ({ cls := "KeptLumpModel", name := "begins", desc := "(I)V" } : Jvm.MethodName) prog_13_method_29_code (4 : Nat) (Option.none : Option Jvm.ClassFile.FieldType)) ∈ kv_gw := List.mem_filter.mpr ⟨kv_tb6 (List.mem_of_getElem? (i := 190) (by decide +kernel)), by decide +kernel⟩
theorem kw_1459 : (Jvm.Cond.constantLong "KeptLumpModel" (147 : Nat) (1000000000000 : Int64)) ∈ kv_gw := List.mem_filter.mpr ⟨kv_tb6 (List.mem_of_getElem? (i := 191) (by decide +kernel)), by decide +kernel⟩
theorem kw_1460 : (Jvm.Cond.methodLink "KeptLumpModel" (161 : Nat) ({ cls := "KeptLumpModel", name := "bindsYear", desc := "(II)V" } : Jvm.MethodName)) ∈ kv_gw := List.mem_filter.mpr ⟨kv_tb6 (List.mem_of_getElem? (i := 192) (by decide +kernel)), by decide +kernel⟩
theorem kw_1462 : (Jvm.Cond.instanceMethod ({ cls := "KeptLumpModel", name := "bindsYear", desc := "(II)V" } : Jvm.MethodName)) ∈ kv_gw := List.mem_filter.mpr ⟨kv_tb6 (List.mem_of_getElem? (i := 194) (by decide +kernel)), by decide +kernel⟩
theorem kw_1463 : (Jvm.Cond.code ({ cls := "KeptLumpModel", name := "bindsYear", desc := "(II)V" } : Jvm.MethodName) prog_13_method_33_code (4 : Nat) (Option.none : Option Jvm.ClassFile.FieldType)) ∈ kv_gw := List.mem_filter.mpr ⟨kv_tb6 (List.mem_of_getElem? (i := 195) (by decide +kernel)), by decide +kernel⟩
theorem kw_1464 : (Jvm.Cond.methodLink "KeptLumpModel" (153 : Nat) ({ cls := "KeptLumpModel", name := "weighs", desc := "(III)V" } : Jvm.MethodName)) ∈ kv_gw := List.mem_filter.mpr ⟨kv_tb6 (List.mem_of_getElem? (i := 196) (by decide +kernel)), by decide +kernel⟩
theorem kw_1466 : (Jvm.Cond.instanceMethod ({ cls := "KeptLumpModel", name := "weighs", desc := "(III)V" } : Jvm.MethodName)) ∈ kv_gw := List.mem_filter.mpr ⟨kv_tb6 (List.mem_of_getElem? (i := 198) (by decide +kernel)), by decide +kernel⟩
theorem kw_1467 : (Jvm.Cond.code ({ cls := "KeptLumpModel", name := "weighs", desc := "(III)V" } : Jvm.MethodName) prog_13_method_32_code (4 : Nat) (Option.none : Option Jvm.ClassFile.FieldType)) ∈ kv_gw := List.mem_filter.mpr ⟨kv_tb6 (List.mem_of_getElem? (i := 199) (by decide +kernel)), by decide +kernel⟩
theorem kw_1468 : (Jvm.Cond.methodLink "KeptLumpModel" (149 : Nat) ({ cls := "KeptLumpModel", name := "binds", desc := "(IIJJ)V" } : Jvm.MethodName)) ∈ kv_gw := List.mem_filter.mpr ⟨kv_tb6 (List.mem_of_getElem? (i := 200) (by decide +kernel)), by decide +kernel⟩
theorem kw_1470 : (Jvm.Cond.instanceMethod ({ cls := "KeptLumpModel", name := "binds", desc := "(IIJJ)V" } : Jvm.MethodName)) ∈ kv_gw := List.mem_filter.mpr ⟨kv_tb6 (List.mem_of_getElem? (i := 202) (by decide +kernel)), by decide +kernel⟩
theorem kw_1471 : (Jvm.Cond.code ({ cls := "KeptLumpModel", name := "binds", desc := "(IIJJ)V" } : Jvm.MethodName) prog_13_method_30_code (7 : Nat) (Option.none : Option Jvm.ClassFile.FieldType)) ∈ kv_gw := List.mem_filter.mpr ⟨kv_tb6 (List.mem_of_getElem? (i := 203) (by decide +kernel)), by decide +kernel⟩
theorem kw_1472 : (Jvm.Cond.methodLink "KeptLumpModel" (165 : Nat) ({ cls := "KeptLumpModel", name := "closes", desc := "()Z" } : Jvm.MethodName)) ∈ kv_gw := List.mem_filter.mpr ⟨kv_tb6 (List.mem_of_getElem? (i := 204) (by decide +kernel)), by decide +kernel⟩
theorem kw_1474 : (Jvm.Cond.instanceMethod ({ cls := "KeptLumpModel", name := "closes", desc := "()Z" } : Jvm.MethodName)) ∈ kv_gw := List.mem_filter.mpr ⟨kv_tb6 (List.mem_of_getElem? (i := 206) (by decide +kernel)), by decide +kernel⟩
theorem kw_1475 : (Jvm.Cond.code ({ cls := "KeptLumpModel", name := "closes", desc := "()Z" } : Jvm.MethodName) prog_13_method_31_code (8 : Nat) (Option.some Jvm.ClassFile.FieldType.boolean)) ∈ kv_gw := List.mem_filter.mpr ⟨kv_tb6 (List.mem_of_getElem? (i := 207) (by decide +kernel)), by decide +kernel⟩
theorem kw_1476 : (Jvm.Cond.methodLink "KeptLumpModel" (172 : Nat) ({ cls := "KeptLumpModel", name := "answer", desc := "(III)I" } : Jvm.MethodName)) ∈ kv_gw := List.mem_filter.mpr ⟨kv_tb6 (List.mem_of_getElem? (i := 208) (by decide +kernel)), by decide +kernel⟩
theorem kw_1478 : (Jvm.Cond.instanceMethod ({ cls := "KeptLumpModel", name := "answer", desc := "(III)I" } : Jvm.MethodName)) ∈ kv_gw := List.mem_filter.mpr ⟨kv_tb6 (List.mem_of_getElem? (i := 210) (by decide +kernel)), by decide +kernel⟩
theorem kw_1479 : (Jvm.Cond.code ({ cls := "KeptLumpModel", name := "answer", desc := "(III)I" } : Jvm.MethodName) prog_13_method_35_code (4 : Nat) (Option.some Jvm.ClassFile.FieldType.int)) ∈ kv_gw := List.mem_filter.mpr ⟨kv_tb6 (List.mem_of_getElem? (i := 211) (by decide +kernel)), by decide +kernel⟩
theorem kw_1480 : (Jvm.Cond.constant "KeptLumpModel" (176 : Nat) (-1000000005 : Int32)) ∈ kv_gw := List.mem_filter.mpr ⟨kv_tb6 (List.mem_of_getElem? (i := 212) (by decide +kernel)), by decide +kernel⟩
theorem kw_1485 : (Jvm.Cond.methodLink "KeptLumpModel" (189 : Nat) ({ cls := "KeptLumpModel", name := "fitsLong", desc := "(IIII)Z" } : Jvm.MethodName)) ∈ kv_gw := List.mem_filter.mpr ⟨kv_tb6 (List.mem_of_getElem? (i := 217) (by decide +kernel)), by decide +kernel⟩
theorem kw_1487 : (Jvm.Cond.instanceMethod ({ cls := "KeptLumpModel", name := "fitsLong", desc := "(IIII)Z" } : Jvm.MethodName)) ∈ kv_gw := List.mem_filter.mpr ⟨kv_tb6 (List.mem_of_getElem? (i := 219) (by decide +kernel)), by decide +kernel⟩
theorem kw_1488 : (Jvm.Cond.code ({ cls := "KeptLumpModel", name := "fitsLong", desc := "(IIII)Z" } : Jvm.MethodName) prog_13_method_40_code (11 : Nat) (Option.some Jvm.ClassFile.FieldType.boolean)) ∈ kv_gw := List.mem_filter.mpr ⟨kv_tb6 (List.mem_of_getElem? (i := 220) (by decide +kernel)), by decide +kernel⟩
theorem kw_1489 : (Jvm.Cond.methodLink "KeptLumpModel" (180 : Nat) ({ cls := "KeptLumpModel", name := "nodeOf", desc := "(II)I" } : Jvm.MethodName)) ∈ kv_gw := List.mem_filter.mpr ⟨kv_tb6 (List.mem_of_getElem? (i := 221) (by decide +kernel)), by decide +kernel⟩
theorem kw_1491 : (Jvm.Cond.instanceMethod ({ cls := "KeptLumpModel", name := "nodeOf", desc := "(II)I" } : Jvm.MethodName)) ∈ kv_gw := List.mem_filter.mpr ⟨kv_tb6 (List.mem_of_getElem? (i := 223) (by decide +kernel)), by decide +kernel⟩
theorem kw_1492 : (Jvm.Cond.code ({ cls := "KeptLumpModel", name := "nodeOf", desc := "(II)I" } : Jvm.MethodName) prog_13_method_37_code (4 : Nat) (Option.some Jvm.ClassFile.FieldType.int)) ∈ kv_gw := List.mem_filter.mpr ⟨kv_tb6 (List.mem_of_getElem? (i := 224) (by decide +kernel)), by decide +kernel⟩
theorem kw_1493 : (Jvm.Cond.methodLink "KeptLumpModel" (183 : Nat) ({ cls := "KeptLumpModel", name := "isAsked", desc := "(I)Z" } : Jvm.MethodName)) ∈ kv_gw := List.mem_filter.mpr ⟨kv_tb6 (List.mem_of_getElem? (i := 225) (by decide +kernel)), by decide +kernel⟩
theorem kw_1495 : (Jvm.Cond.instanceMethod ({ cls := "KeptLumpModel", name := "isAsked", desc := "(I)Z" } : Jvm.MethodName)) ∈ kv_gw := List.mem_filter.mpr ⟨kv_tb6 (List.mem_of_getElem? (i := 227) (by decide +kernel)), by decide +kernel⟩
theorem kw_1496 : (Jvm.Cond.code ({ cls := "KeptLumpModel", name := "isAsked", desc := "(I)Z" } : Jvm.MethodName) prog_13_method_39_code (2 : Nat) (Option.some Jvm.ClassFile.FieldType.boolean)) ∈ kv_gw := List.mem_filter.mpr ⟨kv_tb6 (List.mem_of_getElem? (i := 228) (by decide +kernel)), by decide +kernel⟩
theorem kw_1497 : (Jvm.Cond.methodLink "KeptLumpModel" (186 : Nat) ({ cls := "KeptLumpModel", name := "labelOf", desc := "(II)I" } : Jvm.MethodName)) ∈ kv_gw := List.mem_filter.mpr ⟨kv_tb6 (List.mem_of_getElem? (i := 229) (by decide +kernel)), by decide +kernel⟩
theorem kw_1499 : (Jvm.Cond.instanceMethod ({ cls := "KeptLumpModel", name := "labelOf", desc := "(II)I" } : Jvm.MethodName)) ∈ kv_gw := List.mem_filter.mpr ⟨kv_tb6 (List.mem_of_getElem? (i := 231) (by decide +kernel)), by decide +kernel⟩
theorem kw_1500 : (Jvm.Cond.code ({ cls := "KeptLumpModel", name := "labelOf", desc := "(II)I" } : Jvm.MethodName) prog_13_method_38_code (3 : Nat) (Option.some Jvm.ClassFile.FieldType.int)) ∈ kv_gw := List.mem_filter.mpr ⟨kv_tb6 (List.mem_of_getElem? (i := 232) (by decide +kernel)), by decide +kernel⟩
theorem kw_1505 : (Jvm.Cond.methodLink "KeptLumpModel" (193 : Nat) ({ cls := "KeptLumpModel", name := "fitsLongNow", desc := "()Z" } : Jvm.MethodName)) ∈ kv_gw := List.mem_filter.mpr ⟨kv_tb6 (List.mem_of_getElem? (i := 237) (by decide +kernel)), by decide +kernel⟩
theorem kw_1507 : (Jvm.Cond.instanceMethod ({ cls := "KeptLumpModel", name := "fitsLongNow", desc := "()Z" } : Jvm.MethodName)) ∈ kv_gw := List.mem_filter.mpr ⟨kv_tb6 (List.mem_of_getElem? (i := 239) (by decide +kernel)), by decide +kernel⟩
theorem kw_1508 : (Jvm.Cond.code ({ cls := "KeptLumpModel", name := "fitsLongNow", desc := "()Z" } : Jvm.MethodName) prog_13_method_41_code (1 : Nat) (Option.some Jvm.ClassFile.FieldType.boolean)) ∈ kv_gw := List.mem_filter.mpr ⟨kv_tb7 (List.mem_of_getElem? (i := 0) (by decide +kernel)), by decide +kernel⟩
theorem kw_1517 : (Jvm.Cond.methodLink "KeptLumpModel" (196 : Nat) ({ cls := "KeptLumpModel", name := "isPair", desc := "(I)Z" } : Jvm.MethodName)) ∈ kv_gw := List.mem_filter.mpr ⟨kv_tb7 (List.mem_of_getElem? (i := 9) (by decide +kernel)), by decide +kernel⟩
theorem kw_1519 : (Jvm.Cond.instanceMethod ({ cls := "KeptLumpModel", name := "isPair", desc := "(I)Z" } : Jvm.MethodName)) ∈ kv_gw := List.mem_filter.mpr ⟨kv_tb7 (List.mem_of_getElem? (i := 11) (by decide +kernel)), by decide +kernel⟩
theorem kw_1520 : (Jvm.Cond.code ({ cls := "KeptLumpModel", name := "isPair", desc := "(I)Z" } : Jvm.MethodName) prog_13_method_45_code (2 : Nat) (Option.some Jvm.ClassFile.FieldType.boolean)) ∈ kv_gw := List.mem_filter.mpr ⟨kv_tb7 (List.mem_of_getElem? (i := 12) (by decide +kernel)), by decide +kernel⟩
theorem kw_1525 : (Jvm.Cond.methodLink "KeptLumpModel" (201 : Nat) ({ cls := "KeptLumpModel", name := "bits", desc := "(I)I" } : Jvm.MethodName)) ∈ kv_gw := List.mem_filter.mpr ⟨kv_tb7 (List.mem_of_getElem? (i := 17) (by decide +kernel)), by decide +kernel⟩
theorem kw_1526 : (Jvm.Cond.static ({ cls := "KeptLumpModel", name := "bits", desc := "(I)I" } : Jvm.MethodName)) ∈ kv_gw := List.mem_filter.mpr ⟨kv_tb7 (List.mem_of_getElem? (i := 18) (by decide +kernel)), by decide +kernel⟩
theorem kw_1527 : (Jvm.Cond.code ({ cls := "KeptLumpModel", name := "bits", desc := "(I)I" } : Jvm.MethodName) prog_13_method_47_code (3 : Nat) (Option.some Jvm.ClassFile.FieldType.int)) ∈ kv_gw := List.mem_filter.mpr ⟨kv_tb7 (List.mem_of_getElem? (i := 19) (by decide +kernel)), by decide +kernel⟩
theorem kw_1528 : (Jvm.Cond.methodLink "KeptLumpModel" (205 : Nat) ({ cls := "KeptLumpModel", name := "isLet", desc := "(IIIII)Z" } : Jvm.MethodName)) ∈ kv_gw := List.mem_filter.mpr ⟨kv_tb7 (List.mem_of_getElem? (i := 20) (by decide +kernel)), by decide +kernel⟩
theorem kw_1530 : (Jvm.Cond.instanceMethod ({ cls := "KeptLumpModel", name := "isLet", desc := "(IIIII)Z" } : Jvm.MethodName)) ∈ kv_gw := List.mem_filter.mpr ⟨kv_tb7 (List.mem_of_getElem? (i := 22) (by decide +kernel)), by decide +kernel⟩
theorem kw_1531 : (Jvm.Cond.code ({ cls := "KeptLumpModel", name := "isLet", desc := "(IIIII)Z" } : Jvm.MethodName) prog_13_method_48_code (10 : Nat) (Option.some Jvm.ClassFile.FieldType.boolean)) ∈ kv_gw := List.mem_filter.mpr ⟨kv_tb7 (List.mem_of_getElem? (i := 23) (by decide +kernel)), by decide +kernel⟩
theorem kw_1532 : (Jvm.Cond.constantLong "KeptLumpModel" (199 : Nat) (-1 : Int64)) ∈ kv_gw := List.mem_filter.mpr ⟨kv_tb7 (List.mem_of_getElem? (i := 24) (by decide +kernel)), by decide +kernel⟩
theorem kw_1537 : (Jvm.Cond.methodLink "KeptLumpModel" (255 : Nat) ({ cls := "KeptLumpModel", name := "reads", desc := "(I)I" } : Jvm.MethodName)) ∈ kv_gw := List.mem_filter.mpr ⟨kv_tb7 (List.mem_of_getElem? (i := 29) (by decide +kernel)), by decide +kernel⟩
theorem kw_1539 : (Jvm.Cond.instanceMethod ({ cls := "KeptLumpModel", name := "reads", desc := "(I)I" } : Jvm.MethodName)) ∈ kv_gw := List.mem_filter.mpr ⟨kv_tb7 (List.mem_of_getElem? (i := 31) (by decide +kernel)), by decide +kernel⟩
theorem kw_1540 : (Jvm.Cond.code ({ cls := "KeptLumpModel", name := "reads", desc := "(I)I" } : Jvm.MethodName) prog_13_method_58_code (5 : Nat) (Option.some Jvm.ClassFile.FieldType.int)) ∈ kv_gw := List.mem_filter.mpr ⟨kv_tb7 (List.mem_of_getElem? (i := 32) (by decide +kernel)), by decide +kernel⟩
theorem kw_1541 : (Jvm.Cond.methodLink "KeptLumpModel" (252 : Nat) ({ cls := "KeptLumpModel", name := "readsStatement", desc := "()Z" } : Jvm.MethodName)) ∈ kv_gw := List.mem_filter.mpr ⟨kv_tb7 (List.mem_of_getElem? (i := 33) (by decide +kernel)), by decide +kernel⟩
theorem kw_1543 : (Jvm.Cond.instanceMethod ({ cls := "KeptLumpModel", name := "readsStatement", desc := "()Z" } : Jvm.MethodName)) ∈ kv_gw := List.mem_filter.mpr ⟨kv_tb7 (List.mem_of_getElem? (i := 35) (by decide +kernel)), by decide +kernel⟩
theorem kw_1544 : (Jvm.Cond.code ({ cls := "KeptLumpModel", name := "readsStatement", desc := "()Z" } : Jvm.MethodName) prog_13_method_57_code (1 : Nat) (Option.some Jvm.ClassFile.FieldType.boolean)) ∈ kv_gw := List.mem_filter.mpr ⟨kv_tb7 (List.mem_of_getElem? (i := 36) (by decide +kernel)), by decide +kernel⟩
theorem kw_1545 : (Jvm.Cond.methodLink "KeptLumpModel" (246 : Nat) ({ cls := "KeptLumpModel", name := "readsNumber", desc := "()Z" } : Jvm.MethodName)) ∈ kv_gw := List.mem_filter.mpr ⟨kv_tb7 (List.mem_of_getElem? (i := 37) (by decide +kernel)), by decide +kernel⟩
theorem kw_1547 : (Jvm.Cond.instanceMethod ({ cls := "KeptLumpModel", name := "readsNumber", desc := "()Z" } : Jvm.MethodName)) ∈ kv_gw := List.mem_filter.mpr ⟨kv_tb7 (List.mem_of_getElem? (i := 39) (by decide +kernel)), by decide +kernel⟩
theorem kw_1548 : (Jvm.Cond.code ({ cls := "KeptLumpModel", name := "readsNumber", desc := "()Z" } : Jvm.MethodName) prog_13_method_52_code (2 : Nat) (Option.some Jvm.ClassFile.FieldType.boolean)) ∈ kv_gw := List.mem_filter.mpr ⟨kv_tb7 (List.mem_of_getElem? (i := 40) (by decide +kernel)), by decide +kernel⟩
theorem kw_1549 : (Jvm.Cond.methodLink "KeptLumpModel" (218 : Nat) ({ cls := "KeptLumpModel", name := "sign", desc := "()I" } : Jvm.MethodName)) ∈ kv_gw := List.mem_filter.mpr ⟨kv_tb7 (List.mem_of_getElem? (i := 41) (by decide +kernel)), by decide +kernel⟩
theorem kw_1551 : (Jvm.Cond.instanceMethod ({ cls := "KeptLumpModel", name := "sign", desc := "()I" } : Jvm.MethodName)) ∈ kv_gw := List.mem_filter.mpr ⟨kv_tb7 (List.mem_of_getElem? (i := 43) (by decide +kernel)), by decide +kernel⟩
theorem kw_1552 : (Jvm.Cond.code ({ cls := "KeptLumpModel", name := "sign", desc := "()I" } : Jvm.MethodName) prog_13_method_50_code (1 : Nat) (Option.some Jvm.ClassFile.FieldType.int)) ∈ kv_gw := List.mem_filter.mpr ⟨kv_tb7 (List.mem_of_getElem? (i := 44) (by decide +kernel)), by decide +kernel⟩
theorem kw_1553 : (Jvm.Cond.constantLong "KeptLumpModel" (221 : Nat) (48 : Int64)) ∈ kv_gw := List.mem_filter.mpr ⟨kv_tb7 (List.mem_of_getElem? (i := 45) (by decide +kernel)), by decide +kernel⟩
theorem kw_1554 : (Jvm.Cond.constantLong "KeptLumpModel" (223 : Nat) (57 : Int64)) ∈ kv_gw := List.mem_filter.mpr ⟨kv_tb7 (List.mem_of_getElem? (i := 46) (by decide +kernel)), by decide +kernel⟩
theorem kw_1555 : (Jvm.Cond.methodLink "KeptLumpModel" (231 : Nat) ({ cls := "KeptLumpModel", name := "takes", desc := "(I)Z" } : Jvm.MethodName)) ∈ kv_gw := List.mem_filter.mpr ⟨kv_tb7 (List.mem_of_getElem? (i := 47) (by decide +kernel)), by decide +kernel⟩
theorem kw_1557 : (Jvm.Cond.instanceMethod ({ cls := "KeptLumpModel", name := "takes", desc := "(I)Z" } : Jvm.MethodName)) ∈ kv_gw := List.mem_filter.mpr ⟨kv_tb7 (List.mem_of_getElem? (i := 49) (by decide +kernel)), by decide +kernel⟩
theorem kw_1558 : (Jvm.Cond.code ({ cls := "KeptLumpModel", name := "takes", desc := "(I)Z" } : Jvm.MethodName) prog_13_method_51_code (2 : Nat) (Option.some Jvm.ClassFile.FieldType.boolean)) ∈ kv_gw := List.mem_filter.mpr ⟨kv_tb7 (List.mem_of_getElem? (i := 50) (by decide +kernel)), by decide +kernel⟩
theorem kw_1559 : (Jvm.Cond.methodLink "KeptLumpModel" (240 : Nat) ({ cls := "KeptLumpModel", name := "readsSum", desc := "()Z" } : Jvm.MethodName)) ∈ kv_gw := List.mem_filter.mpr ⟨kv_tb7 (List.mem_of_getElem? (i := 51) (by decide +kernel)), by decide +kernel⟩
theorem kw_1561 : (Jvm.Cond.instanceMethod ({ cls := "KeptLumpModel", name := "readsSum", desc := "()Z" } : Jvm.MethodName)) ∈ kv_gw := List.mem_filter.mpr ⟨kv_tb7 (List.mem_of_getElem? (i := 53) (by decide +kernel)), by decide +kernel⟩
theorem kw_1562 : (Jvm.Cond.code ({ cls := "KeptLumpModel", name := "readsSum", desc := "()Z" } : Jvm.MethodName) prog_13_method_53_code (1 : Nat) (Option.some Jvm.ClassFile.FieldType.boolean)) ∈ kv_gw := List.mem_filter.mpr ⟨kv_tb7 (List.mem_of_getElem? (i := 54) (by decide +kernel)), by decide +kernel⟩
theorem kw_1563 : (Jvm.Cond.methodLink "KeptLumpModel" (228 : Nat) ({ cls := "KeptLumpModel", name := "readsProduct", desc := "()Z" } : Jvm.MethodName)) ∈ kv_gw := List.mem_filter.mpr ⟨kv_tb7 (List.mem_of_getElem? (i := 55) (by decide +kernel)), by decide +kernel⟩
theorem kw_1565 : (Jvm.Cond.instanceMethod ({ cls := "KeptLumpModel", name := "readsProduct", desc := "()Z" } : Jvm.MethodName)) ∈ kv_gw := List.mem_filter.mpr ⟨kv_tb7 (List.mem_of_getElem? (i := 57) (by decide +kernel)), by decide +kernel⟩
theorem kw_1566 : (Jvm.Cond.code ({ cls := "KeptLumpModel", name := "readsProduct", desc := "()Z" } : Jvm.MethodName) prog_13_method_54_code (1 : Nat) (Option.some Jvm.ClassFile.FieldType.boolean)) ∈ kv_gw := List.mem_filter.mpr ⟨kv_tb7 (List.mem_of_getElem? (i := 58) (by decide +kernel)), by decide +kernel⟩
theorem kw_1567 : (Jvm.Cond.methodLink "KeptLumpModel" (234 : Nat) ({ cls := "KeptLumpModel", name := "readsAtom", desc := "()Z" } : Jvm.MethodName)) ∈ kv_gw := List.mem_filter.mpr ⟨kv_tb7 (List.mem_of_getElem? (i := 59) (by decide +kernel)), by decide +kernel⟩
theorem kw_1569 : (Jvm.Cond.instanceMethod ({ cls := "KeptLumpModel", name := "readsAtom", desc := "()Z" } : Jvm.MethodName)) ∈ kv_gw := List.mem_filter.mpr ⟨kv_tb7 (List.mem_of_getElem? (i := 61) (by decide +kernel)), by decide +kernel⟩
theorem kw_1570 : (Jvm.Cond.code ({ cls := "KeptLumpModel", name := "readsAtom", desc := "()Z" } : Jvm.MethodName) prog_13_method_56_code (1 : Nat) (Option.some Jvm.ClassFile.FieldType.boolean)) ∈ kv_gw := List.mem_filter.mpr ⟨kv_tb7 (List.mem_of_getElem? (i := 62) (by decide +kernel)), by decide +kernel⟩
theorem kw_1571 : (Jvm.Cond.methodLink "KeptLumpModel" (243 : Nat) ({ cls := "KeptLumpModel", name := "isField", desc := "(I)Z" } : Jvm.MethodName)) ∈ kv_gw := List.mem_filter.mpr ⟨kv_tb7 (List.mem_of_getElem? (i := 63) (by decide +kernel)), by decide +kernel⟩
theorem kw_1572 : (Jvm.Cond.static ({ cls := "KeptLumpModel", name := "isField", desc := "(I)Z" } : Jvm.MethodName)) ∈ kv_gw := List.mem_filter.mpr ⟨kv_tb7 (List.mem_of_getElem? (i := 64) (by decide +kernel)), by decide +kernel⟩
theorem kw_1573 : (Jvm.Cond.code ({ cls := "KeptLumpModel", name := "isField", desc := "(I)Z" } : Jvm.MethodName) prog_13_method_55_code (1 : Nat) (Option.some Jvm.ClassFile.FieldType.boolean)) ∈ kv_gw := List.mem_filter.mpr ⟨kv_tb7 (List.mem_of_getElem? (i := 65) (by decide +kernel)), by decide +kernel⟩
theorem kw_1578 : (Jvm.Cond.methodLink "KeptLumpModel" (274 : Nat) ({ cls := "KeptLumpModel", name := "oneNow", desc := "()I" } : Jvm.MethodName)) ∈ kv_gw := List.mem_filter.mpr ⟨kv_tb7 (List.mem_of_getElem? (i := 70) (by decide +kernel)), by decide +kernel⟩
theorem kw_1580 : (Jvm.Cond.instanceMethod ({ cls := "KeptLumpModel", name := "oneNow", desc := "()I" } : Jvm.MethodName)) ∈ kv_gw := List.mem_filter.mpr ⟨kv_tb7 (List.mem_of_getElem? (i := 72) (by decide +kernel)), by decide +kernel⟩
theorem kw_1581 : (Jvm.Cond.code ({ cls := "KeptLumpModel", name := "oneNow", desc := "()I" } : Jvm.MethodName) prog_13_method_65_code (1 : Nat) (Option.some Jvm.ClassFile.FieldType.int)) ∈ kv_gw := List.mem_filter.mpr ⟨kv_tb7 (List.mem_of_getElem? (i := 73) (by decide +kernel)), by decide +kernel⟩
theorem kw_1582 : (Jvm.Cond.methodLink "KeptLumpModel" (270 : Nat) ({ cls := "KeptLumpModel", name := "oneBy", desc := "([III)I" } : Jvm.MethodName)) ∈ kv_gw := List.mem_filter.mpr ⟨kv_tb7 (List.mem_of_getElem? (i := 74) (by decide +kernel)), by decide +kernel⟩
theorem kw_1584 : (Jvm.Cond.instanceMethod ({ cls := "KeptLumpModel", name := "oneBy", desc := "([III)I" } : Jvm.MethodName)) ∈ kv_gw := List.mem_filter.mpr ⟨kv_tb7 (List.mem_of_getElem? (i := 76) (by decide +kernel)), by decide +kernel⟩
theorem kw_1585 : (Jvm.Cond.code ({ cls := "KeptLumpModel", name := "oneBy", desc := "([III)I" } : Jvm.MethodName) prog_13_method_64_code (9 : Nat) (Option.some Jvm.ClassFile.FieldType.int)) ∈ kv_gw := List.mem_filter.mpr ⟨kv_tb7 (List.mem_of_getElem? (i := 77) (by decide +kernel)), by decide +kernel⟩
theorem kw_1586 : (Jvm.Cond.methodLink "KeptLumpModel" (264 : Nat) ({ cls := "KeptLumpModel", name := "sumOf", desc := "()I" } : Jvm.MethodName)) ∈ kv_gw := List.mem_filter.mpr ⟨kv_tb7 (List.mem_of_getElem? (i := 78) (by decide +kernel)), by decide +kernel⟩
theorem kw_1588 : (Jvm.Cond.instanceMethod ({ cls := "KeptLumpModel", name := "sumOf", desc := "()I" } : Jvm.MethodName)) ∈ kv_gw := List.mem_filter.mpr ⟨kv_tb7 (List.mem_of_getElem? (i := 80) (by decide +kernel)), by decide +kernel⟩
theorem kw_1589 : (Jvm.Cond.code ({ cls := "KeptLumpModel", name := "sumOf", desc := "()I" } : Jvm.MethodName) prog_13_method_61_code (4 : Nat) (Option.some Jvm.ClassFile.FieldType.int)) ∈ kv_gw := List.mem_filter.mpr ⟨kv_tb7 (List.mem_of_getElem? (i := 81) (by decide +kernel)), by decide +kernel⟩
theorem kw_1590 : (Jvm.Cond.methodLink "KeptLumpModel" (258 : Nat) ({ cls := "KeptLumpModel", name := "product", desc := "()I" } : Jvm.MethodName)) ∈ kv_gw := List.mem_filter.mpr ⟨kv_tb7 (List.mem_of_getElem? (i := 82) (by decide +kernel)), by decide +kernel⟩
theorem kw_1592 : (Jvm.Cond.instanceMethod ({ cls := "KeptLumpModel", name := "product", desc := "()I" } : Jvm.MethodName)) ∈ kv_gw := List.mem_filter.mpr ⟨kv_tb7 (List.mem_of_getElem? (i := 84) (by decide +kernel)), by decide +kernel⟩
theorem kw_1593 : (Jvm.Cond.code ({ cls := "KeptLumpModel", name := "product", desc := "()I" } : Jvm.MethodName) prog_13_method_62_code (4 : Nat) (Option.some Jvm.ClassFile.FieldType.int)) ∈ kv_gw := List.mem_filter.mpr ⟨kv_tb7 (List.mem_of_getElem? (i := 85) (by decide +kernel)), by decide +kernel⟩
theorem kw_1594 : (Jvm.Cond.methodLink "KeptLumpModel" (261 : Nat) ({ cls := "KeptLumpModel", name := "atom", desc := "()I" } : Jvm.MethodName)) ∈ kv_gw := List.mem_filter.mpr ⟨kv_tb7 (List.mem_of_getElem? (i := 86) (by decide +kernel)), by decide +kernel⟩
theorem kw_1596 : (Jvm.Cond.instanceMethod ({ cls := "KeptLumpModel", name := "atom", desc := "()I" } : Jvm.MethodName)) ∈ kv_gw := List.mem_filter.mpr ⟨kv_tb7 (List.mem_of_getElem? (i := 88) (by decide +kernel)), by decide +kernel⟩
theorem kw_1597 : (Jvm.Cond.code ({ cls := "KeptLumpModel", name := "atom", desc := "()I" } : Jvm.MethodName) prog_13_method_63_code (3 : Nat) (Option.some Jvm.ClassFile.FieldType.int)) ∈ kv_gw := List.mem_filter.mpr ⟨kv_tb7 (List.mem_of_getElem? (i := 89) (by decide +kernel)), by decide +kernel⟩
theorem kw_1598 : (Jvm.Cond.methodLink "KeptLumpModel" (267 : Nat) ({ cls := "KeptLumpModel", name := "meanOf", desc := "(II)I" } : Jvm.MethodName)) ∈ kv_gw := List.mem_filter.mpr ⟨kv_tb7 (List.mem_of_getElem? (i := 90) (by decide +kernel)), by decide +kernel⟩
theorem kw_1600 : (Jvm.Cond.instanceMethod ({ cls := "KeptLumpModel", name := "meanOf", desc := "(II)I" } : Jvm.MethodName)) ∈ kv_gw := List.mem_filter.mpr ⟨kv_tb7 (List.mem_of_getElem? (i := 92) (by decide +kernel)), by decide +kernel⟩
theorem kw_1601 : (Jvm.Cond.code ({ cls := "KeptLumpModel", name := "meanOf", desc := "(II)I" } : Jvm.MethodName) prog_13_method_60_code (6 : Nat) (Option.some Jvm.ClassFile.FieldType.int)) ∈ kv_gw := List.mem_filter.mpr ⟨kv_tb7 (List.mem_of_getElem? (i := 93) (by decide +kernel)), by decide +kernel⟩
theorem kw_1610 : (Jvm.Cond.constant "KeptLumpModel" (277 : Nat) (-1000000000 : Int32)) ∈ kv_gw := List.mem_filter.mpr ⟨kv_tb7 (List.mem_of_getElem? (i := 102) (by decide +kernel)), by decide +kernel⟩
theorem kw_1615 : (Jvm.Cond.methodLink "KeptLumpModel" (278 : Nat) ({ cls := "KeptLumpModel", name := "isChain", desc := "(I)Z" } : Jvm.MethodName)) ∈ kv_gw := List.mem_filter.mpr ⟨kv_tb7 (List.mem_of_getElem? (i := 107) (by decide +kernel)), by decide +kernel⟩
theorem kw_1616 : (Jvm.Cond.static ({ cls := "KeptLumpModel", name := "isChain", desc := "(I)Z" } : Jvm.MethodName)) ∈ kv_gw := List.mem_filter.mpr ⟨kv_tb7 (List.mem_of_getElem? (i := 108) (by decide +kernel)), by decide +kernel⟩
theorem kw_1617 : (Jvm.Cond.code ({ cls := "KeptLumpModel", name := "isChain", desc := "(I)Z" } : Jvm.MethodName) prog_13_method_70_code (1 : Nat) (Option.some Jvm.ClassFile.FieldType.boolean)) ∈ kv_gw := List.mem_filter.mpr ⟨kv_tb7 (List.mem_of_getElem? (i := 109) (by decide +kernel)), by decide +kernel⟩
theorem kw_1618 : (Jvm.Cond.constantLong "KeptLumpModel" (281 : Nat) (-999 : Int64)) ∈ kv_gw := List.mem_filter.mpr ⟨kv_tb7 (List.mem_of_getElem? (i := 110) (by decide +kernel)), by decide +kernel⟩
theorem kw_1619 : (Jvm.Cond.constantLong "KeptLumpModel" (283 : Nat) (999 : Int64)) ∈ kv_gw := List.mem_filter.mpr ⟨kv_tb7 (List.mem_of_getElem? (i := 111) (by decide +kernel)), by decide +kernel⟩
theorem kw_1620 : (Jvm.Cond.methodLink "KeptLumpModel" (285 : Nat) ({ cls := "KeptLumpModel", name := "links", desc := "(I)I" } : Jvm.MethodName)) ∈ kv_gw := List.mem_filter.mpr ⟨kv_tb7 (List.mem_of_getElem? (i := 112) (by decide +kernel)), by decide +kernel⟩
theorem kw_1622 : (Jvm.Cond.instanceMethod ({ cls := "KeptLumpModel", name := "links", desc := "(I)I" } : Jvm.MethodName)) ∈ kv_gw := List.mem_filter.mpr ⟨kv_tb7 (List.mem_of_getElem? (i := 114) (by decide +kernel)), by decide +kernel⟩
theorem kw_1623 : (Jvm.Cond.code ({ cls := "KeptLumpModel", name := "links", desc := "(I)I" } : Jvm.MethodName) prog_13_method_69_code (2 : Nat) (Option.some Jvm.ClassFile.FieldType.int)) ∈ kv_gw := List.mem_filter.mpr ⟨kv_tb7 (List.mem_of_getElem? (i := 115) (by decide +kernel)), by decide +kernel⟩
theorem kw_1628 : (Jvm.Cond.methodLink "KeptLumpModel" (288 : Nat) ({ cls := "KeptLumpModel", name := "chainOf", desc := "(II)I" } : Jvm.MethodName)) ∈ kv_gw := List.mem_filter.mpr ⟨kv_tb7 (List.mem_of_getElem? (i := 120) (by decide +kernel)), by decide +kernel⟩
theorem kw_1630 : (Jvm.Cond.instanceMethod ({ cls := "KeptLumpModel", name := "chainOf", desc := "(II)I" } : Jvm.MethodName)) ∈ kv_gw := List.mem_filter.mpr ⟨kv_tb7 (List.mem_of_getElem? (i := 122) (by decide +kernel)), by decide +kernel⟩
theorem kw_1631 : (Jvm.Cond.code ({ cls := "KeptLumpModel", name := "chainOf", desc := "(II)I" } : Jvm.MethodName) prog_13_method_72_code (5 : Nat) (Option.some Jvm.ClassFile.FieldType.int)) ∈ kv_gw := List.mem_filter.mpr ⟨kv_tb7 (List.mem_of_getElem? (i := 123) (by decide +kernel)), by decide +kernel⟩
theorem kw_1636 : (Jvm.Cond.methodLink "KeptLumpModel" (291 : Nat) ({ cls := "KeptLumpModel", name := "wrongChains", desc := "(II)I" } : Jvm.MethodName)) ∈ kv_gw := List.mem_filter.mpr ⟨kv_tb7 (List.mem_of_getElem? (i := 128) (by decide +kernel)), by decide +kernel⟩
theorem kw_1638 : (Jvm.Cond.instanceMethod ({ cls := "KeptLumpModel", name := "wrongChains", desc := "(II)I" } : Jvm.MethodName)) ∈ kv_gw := List.mem_filter.mpr ⟨kv_tb7 (List.mem_of_getElem? (i := 130) (by decide +kernel)), by decide +kernel⟩
theorem kw_1639 : (Jvm.Cond.code ({ cls := "KeptLumpModel", name := "wrongChains", desc := "(II)I" } : Jvm.MethodName) prog_13_method_75_code (3 : Nat) (Option.some Jvm.ClassFile.FieldType.int)) ∈ kv_gw := List.mem_filter.mpr ⟨kv_tb7 (List.mem_of_getElem? (i := 131) (by decide +kernel)), by decide +kernel⟩
theorem kw_1640 : (Jvm.Cond.methodLink "KeptLumpModel" (294 : Nat) ({ cls := "KeptLumpModel", name := "agrees", desc := "(III)Z" } : Jvm.MethodName)) ∈ kv_gw := List.mem_filter.mpr ⟨kv_tb7 (List.mem_of_getElem? (i := 132) (by decide +kernel)), by decide +kernel⟩
theorem kw_1642 : (Jvm.Cond.instanceMethod ({ cls := "KeptLumpModel", name := "agrees", desc := "(III)Z" } : Jvm.MethodName)) ∈ kv_gw := List.mem_filter.mpr ⟨kv_tb7 (List.mem_of_getElem? (i := 134) (by decide +kernel)), by decide +kernel⟩
theorem kw_1643 : (Jvm.Cond.code ({ cls := "KeptLumpModel", name := "agrees", desc := "(III)Z" } : Jvm.MethodName) prog_13_method_74_code (5 : Nat) (Option.some Jvm.ClassFile.FieldType.boolean)) ∈ kv_gw := List.mem_filter.mpr ⟨kv_tb7 (List.mem_of_getElem? (i := 135) (by decide +kernel)), by decide +kernel⟩
theorem kw_1656 : (Jvm.Cond.constantLong "KeptLumpModel" (301 : Nat) (4 : Int64)) ∈ kv_gw := List.mem_filter.mpr ⟨kv_tb7 (List.mem_of_getElem? (i := 148) (by decide +kernel)), by decide +kernel⟩
theorem kw_1657 : (Jvm.Cond.methodLink "KeptLumpModel" (298 : Nat) ({ cls := "KeptLumpModel", name := "pairAt", desc := "(II)I" } : Jvm.MethodName)) ∈ kv_gw := List.mem_filter.mpr ⟨kv_tb7 (List.mem_of_getElem? (i := 149) (by decide +kernel)), by decide +kernel⟩
theorem kw_1659 : (Jvm.Cond.instanceMethod ({ cls := "KeptLumpModel", name := "pairAt", desc := "(II)I" } : Jvm.MethodName)) ∈ kv_gw := List.mem_filter.mpr ⟨kv_tb7 (List.mem_of_getElem? (i := 151) (by decide +kernel)), by decide +kernel⟩
theorem kw_1660 : (Jvm.Cond.code ({ cls := "KeptLumpModel", name := "pairAt", desc := "(II)I" } : Jvm.MethodName) prog_13_method_79_code (3 : Nat) (Option.some Jvm.ClassFile.FieldType.int)) ∈ kv_gw := List.mem_filter.mpr ⟨kv_tb7 (List.mem_of_getElem? (i := 152) (by decide +kernel)), by decide +kernel⟩
theorem kw_1661 : (Jvm.Cond.methodLink "KeptLumpModel" (303 : Nat) ({ cls := "KeptLumpModel", name := "primesIn", desc := "(II)I" } : Jvm.MethodName)) ∈ kv_gw := List.mem_filter.mpr ⟨kv_tb7 (List.mem_of_getElem? (i := 153) (by decide +kernel)), by decide +kernel⟩
theorem kw_1663 : (Jvm.Cond.instanceMethod ({ cls := "KeptLumpModel", name := "primesIn", desc := "(II)I" } : Jvm.MethodName)) ∈ kv_gw := List.mem_filter.mpr ⟨kv_tb7 (List.mem_of_getElem? (i := 155) (by decide +kernel)), by decide +kernel⟩
theorem kw_1664 : (Jvm.Cond.code ({ cls := "KeptLumpModel", name := "primesIn", desc := "(II)I" } : Jvm.MethodName) prog_13_method_81_code (5 : Nat) (Option.some Jvm.ClassFile.FieldType.int)) ∈ kv_gw := List.mem_filter.mpr ⟨kv_tb7 (List.mem_of_getElem? (i := 156) (by decide +kernel)), by decide +kernel⟩
theorem kw_1665 : (Jvm.Cond.methodLink "KeptLumpModel" (306 : Nat) ({ cls := "KeptLumpModel", name := "spreadBy", desc := "(III)J" } : Jvm.MethodName)) ∈ kv_gw := List.mem_filter.mpr ⟨kv_tb7 (List.mem_of_getElem? (i := 157) (by decide +kernel)), by decide +kernel⟩
theorem kw_1667 : (Jvm.Cond.instanceMethod ({ cls := "KeptLumpModel", name := "spreadBy", desc := "(III)J" } : Jvm.MethodName)) ∈ kv_gw := List.mem_filter.mpr ⟨kv_tb7 (List.mem_of_getElem? (i := 159) (by decide +kernel)), by decide +kernel⟩
theorem kw_1668 : (Jvm.Cond.code ({ cls := "KeptLumpModel", name := "spreadBy", desc := "(III)J" } : Jvm.MethodName) prog_13_method_80_code (10 : Nat) (Option.some Jvm.ClassFile.FieldType.long)) ∈ kv_gw := List.mem_filter.mpr ⟨kv_tb7 (List.mem_of_getElem? (i := 160) (by decide +kernel)), by decide +kernel⟩
theorem kw_1685 : (Jvm.Cond.methodLink "KeptLumpModel" (314 : Nat) ({ cls := "KeptLumpModel", name := "careOf", desc := "(I)I" } : Jvm.MethodName)) ∈ kv_gw := List.mem_filter.mpr ⟨kv_tb7 (List.mem_of_getElem? (i := 177) (by decide +kernel)), by decide +kernel⟩
theorem kw_1687 : (Jvm.Cond.instanceMethod ({ cls := "KeptLumpModel", name := "careOf", desc := "(I)I" } : Jvm.MethodName)) ∈ kv_gw := List.mem_filter.mpr ⟨kv_tb7 (List.mem_of_getElem? (i := 179) (by decide +kernel)), by decide +kernel⟩
theorem kw_1688 : (Jvm.Cond.code ({ cls := "KeptLumpModel", name := "careOf", desc := "(I)I" } : Jvm.MethodName) prog_13_method_86_code (3 : Nat) (Option.some Jvm.ClassFile.FieldType.int)) ∈ kv_gw := List.mem_filter.mpr ⟨kv_tb7 (List.mem_of_getElem? (i := 180) (by decide +kernel)), by decide +kernel⟩
theorem kw_1709 : (Jvm.Cond.methodLink "KeptLumpModel" (317 : Nat) ({ cls := "KeptLumpModel", name := "wrongKept", desc := "(I)I" } : Jvm.MethodName)) ∈ kv_gw := List.mem_filter.mpr ⟨kv_tb7 (List.mem_of_getElem? (i := 201) (by decide +kernel)), by decide +kernel⟩
theorem kw_1711 : (Jvm.Cond.instanceMethod ({ cls := "KeptLumpModel", name := "wrongKept", desc := "(I)I" } : Jvm.MethodName)) ∈ kv_gw := List.mem_filter.mpr ⟨kv_tb7 (List.mem_of_getElem? (i := 203) (by decide +kernel)), by decide +kernel⟩
theorem kw_1712 : (Jvm.Cond.code ({ cls := "KeptLumpModel", name := "wrongKept", desc := "(I)I" } : Jvm.MethodName) prog_13_method_92_code (2 : Nat) (Option.some Jvm.ClassFile.FieldType.int)) ∈ kv_gw := List.mem_filter.mpr ⟨kv_tb7 (List.mem_of_getElem? (i := 204) (by decide +kernel)), by decide +kernel⟩
theorem kc_0 : kv_okc 0 kv_R0 kv_T0 4 kv_t0 := ⟨kv_lays (fun k hk => by
  match k, hk with
  | 0, _ => exact kw_235
  | 1, _ => exact kw_237
  | 2, _ => exact kw_239
  | 3, _ => exact kw_241
  | k + 4, h => exact absurd h (by omega)), rfl, rfl, by decide, kv_tk0, kv_n0⟩
theorem kc_1 : kv_okc 1 kv_R1 kv_T1 3 kv_t1 := ⟨kv_lays (fun k hk => by
  match k, hk with
  | 0, _ => exact kw_216
  | 1, _ => exact kw_218
  | 2, _ => exact kw_220
  | k + 3, h => exact absurd h (by omega)), rfl, rfl, by decide, kv_tk1, kv_n1⟩
theorem kc_2 : kv_okc 2 kv_R2 kv_T2 6 kv_t2 := ⟨kv_lays (fun k hk => by
  match k, hk with
  | 0, _ => exact kw_372
  | 1, _ => exact kw_374
  | 2, _ => exact kw_376
  | 3, _ => exact kw_378
  | 4, _ => exact kw_380
  | 5, _ => exact kw_382
  | k + 6, h => exact absurd h (by omega)), rfl, rfl, by decide, kv_tk2, kv_n2⟩
theorem kc_3 : kv_okc 3 kv_R3 kv_T3 8 kv_t3 := ⟨kv_lays (fun k hk => by
  match k, hk with
  | 0, _ => exact kw_133
  | 1, _ => exact kw_135
  | 2, _ => exact kw_137
  | 3, _ => exact kw_139
  | 4, _ => exact kw_141
  | 5, _ => exact kw_143
  | 6, _ => exact kw_145
  | 7, _ => exact kw_147
  | k + 8, h => exact absurd h (by omega)), rfl, rfl, by decide, kv_tk3, kv_n3⟩
theorem kc_4 : kv_okc 4 kv_R4 kv_T4 6 kv_t4 := ⟨kv_lays (fun k hk => by
  match k, hk with
  | 0, _ => exact kw_346
  | 1, _ => exact kw_348
  | 2, _ => exact kw_350
  | 3, _ => exact kw_352
  | 4, _ => exact kw_354
  | 5, _ => exact kw_356
  | k + 6, h => exact absurd h (by omega)), rfl, rfl, by decide, kv_tk4, kv_n4⟩
theorem kc_5 : kv_okc 5 kv_R5 kv_T5 13 kv_t5 := ⟨kv_lays (fun k hk => by
  match k, hk with
  | 0, _ => exact kw_453
  | 1, _ => exact kw_455
  | 2, _ => exact kw_457
  | 3, _ => exact kw_459
  | 4, _ => exact kw_461
  | 5, _ => exact kw_463
  | 6, _ => exact kw_465
  | 7, _ => exact kw_467
  | 8, _ => exact kw_469
  | 9, _ => exact kw_471
  | 10, _ => exact kw_473
  | 11, _ => exact kw_475
  | 12, _ => exact kw_477
  | k + 13, h => exact absurd h (by omega)), rfl, rfl, by decide, kv_tk5, kv_n5⟩
theorem kc_6 : kv_okc 6 kv_R6 kv_T6 13 kv_t6 := ⟨kv_lays (fun k hk => by
  match k, hk with
  | 0, _ => exact kw_405
  | 1, _ => exact kw_407
  | 2, _ => exact kw_409
  | 3, _ => exact kw_411
  | 4, _ => exact kw_413
  | 5, _ => exact kw_415
  | 6, _ => exact kw_417
  | 7, _ => exact kw_419
  | 8, _ => exact kw_421
  | 9, _ => exact kw_423
  | 10, _ => exact kw_425
  | 11, _ => exact kw_427
  | 12, _ => exact kw_429
  | k + 13, h => exact absurd h (by omega)), rfl, rfl, by decide, kv_tk6, kv_n6⟩
theorem kc_7 : kv_okc 7 kv_R7 kv_T7 8 kv_t7 := ⟨kv_lays (fun k hk => by
  match k, hk with
  | 0, _ => exact kw_316
  | 1, _ => exact kw_318
  | 2, _ => exact kw_320
  | 3, _ => exact kw_322
  | 4, _ => exact kw_324
  | 5, _ => exact kw_326
  | 6, _ => exact kw_328
  | 7, _ => exact kw_330
  | k + 8, h => exact absurd h (by omega)), rfl, rfl, by decide, kv_tk7, kv_n7⟩
theorem kc_8 : kv_okc 8 kv_R8 kv_T8 9 kv_t8 := ⟨kv_lays (fun k hk => by
  match k, hk with
  | 0, _ => exact kw_273
  | 1, _ => exact kw_275
  | 2, _ => exact kw_277
  | 3, _ => exact kw_279
  | 4, _ => exact kw_281
  | 5, _ => exact kw_283
  | 6, _ => exact kw_285
  | 7, _ => exact kw_287
  | 8, _ => exact kw_289
  | k + 9, h => exact absurd h (by omega)), rfl, rfl, by decide, kv_tk8, kv_n8⟩
theorem kc_9 : kv_okc 9 kv_R9 kv_T9 9 kv_t9 := ⟨kv_lays (fun k hk => by
  match k, hk with
  | 0, _ => exact kw_181
  | 1, _ => exact kw_183
  | 2, _ => exact kw_185
  | 3, _ => exact kw_187
  | 4, _ => exact kw_189
  | 5, _ => exact kw_191
  | 6, _ => exact kw_193
  | 7, _ => exact kw_195
  | 8, _ => exact kw_197
  | k + 9, h => exact absurd h (by omega)), rfl, rfl, by decide, kv_tk9, kv_n9⟩
theorem kc_10 : kv_okc 10 kv_R10 kv_T10 9 kv_t10 := ⟨kv_lays (fun k hk => by
  match k, hk with
  | 0, _ => exact kw_489
  | 1, _ => exact kw_491
  | 2, _ => exact kw_493
  | 3, _ => exact kw_495
  | 4, _ => exact kw_497
  | 5, _ => exact kw_499
  | 6, _ => exact kw_501
  | 7, _ => exact kw_503
  | 8, _ => exact kw_505
  | k + 9, h => exact absurd h (by omega)), rfl, rfl, by decide, kv_tk10, kv_n10⟩
theorem kc_11 : kv_okc 11 kv_R11 kv_T11 25 kv_t11 := ⟨kv_lays (fun k hk => by
  match k, hk with
  | 0, _ => exact kw_1269
  | 1, _ => exact kw_1271
  | 2, _ => exact kw_1273
  | 3, _ => exact kw_1275
  | 4, _ => exact kw_1277
  | 5, _ => exact kw_1279
  | 6, _ => exact kw_1281
  | 7, _ => exact kw_1283
  | 8, _ => exact kw_1285
  | 9, _ => exact kw_1287
  | 10, _ => exact kw_1289
  | 11, _ => exact kw_1291
  | 12, _ => exact kw_1293
  | 13, _ => exact kw_1295
  | 14, _ => exact kw_1297
  | 15, _ => exact kw_1299
  | 16, _ => exact kw_1301
  | 17, _ => exact kw_1303
  | 18, _ => exact kw_1305
  | 19, _ => exact kw_1307
  | 20, _ => exact kw_1309
  | 21, _ => exact kw_1311
  | 22, _ => exact kw_1313
  | 23, _ => exact kw_1315
  | 24, _ => exact kw_1317
  | k + 25, h => exact absurd h (by omega)), rfl, rfl, by decide, kv_tk11, kv_n11⟩
theorem kf_Chains_15 : kv_fl "KeptLump$Chains" 15 0 1 true (.array .int) := ⟨_, _, _, _, kc_0, by decide, kw_230, rfl, rfl⟩
theorem kf_Chains_18 : kv_fl "KeptLump$Chains" 18 0 2 true (.array .int) := ⟨_, _, _, _, kc_0, by decide, kw_231, rfl, rfl⟩
theorem kf_Chains_21 : kv_fl "KeptLump$Chains" 21 0 3 true (.array .int) := ⟨_, _, _, _, kc_0, by decide, kw_233, rfl, rfl⟩
theorem kf_Chains_9 : kv_fl "KeptLump$Chains" 9 0 0 true (.array .int) := ⟨_, _, _, _, kc_0, by decide, kw_229, rfl, rfl⟩
theorem kf_D_13 : kv_fl "KeptLumpModel" 13 11 1 true (.array .int) := ⟨_, _, _, _, kc_11, by decide, kw_1245, rfl, rfl⟩
theorem kf_D_144 : kv_fl "KeptLumpModel" 144 11 13 false .int := ⟨_, _, _, _, kc_11, by decide, kw_1257, rfl, rfl⟩
theorem kf_D_16 : kv_fl "KeptLumpModel" 16 11 2 true (.array .int) := ⟨_, _, _, _, kc_11, by decide, kw_1246, rfl, rfl⟩
theorem kf_D_177 : kv_fl "KeptLumpModel" 177 11 16 false .int := ⟨_, _, _, _, kc_11, by decide, kw_1260, rfl, rfl⟩
theorem kf_D_19 : kv_fl "KeptLumpModel" 19 11 3 true (.array .int) := ⟨_, _, _, _, kc_11, by decide, kw_1247, rfl, rfl⟩
theorem kf_D_209 : kv_fl "KeptLumpModel" 209 11 18 false .int := ⟨_, _, _, _, kc_11, by decide, kw_1262, rfl, rfl⟩
theorem kf_D_212 : kv_fl "KeptLumpModel" 212 11 20 false .int := ⟨_, _, _, _, kc_11, by decide, kw_1264, rfl, rfl⟩
theorem kf_D_215 : kv_fl "KeptLumpModel" 215 11 19 false .int := ⟨_, _, _, _, kc_11, by decide, kw_1263, rfl, rfl⟩
theorem kf_D_22 : kv_fl "KeptLumpModel" 22 11 4 true (.array .int) := ⟨_, _, _, _, kc_11, by decide, kw_1248, rfl, rfl⟩
theorem kf_D_225 : kv_fl "KeptLumpModel" 225 11 22 false .int := ⟨_, _, _, _, kc_11, by decide, kw_1266, rfl, rfl⟩
theorem kf_D_237 : kv_fl "KeptLumpModel" 237 11 21 false .int := ⟨_, _, _, _, kc_11, by decide, kw_1265, rfl, rfl⟩
theorem kf_D_249 : kv_fl "KeptLumpModel" 249 11 24 false .int := ⟨_, _, _, _, kc_11, by decide, kw_1268, rfl, rfl⟩
theorem kf_D_25 : kv_fl "KeptLumpModel" 25 11 5 true (.array .int) := ⟨_, _, _, _, kc_11, by decide, kw_1249, rfl, rfl⟩
theorem kf_D_28 : kv_fl "KeptLumpModel" 28 11 6 true (.array .int) := ⟨_, _, _, _, kc_11, by decide, kw_1250, rfl, rfl⟩
theorem kf_D_31 : kv_fl "KeptLumpModel" 31 11 7 true (.array .int) := ⟨_, _, _, _, kc_11, by decide, kw_1251, rfl, rfl⟩
theorem kf_D_310 : kv_fl "KeptLumpModel" 310 11 8 false .boolean := ⟨_, _, _, _, kc_11, by decide, kw_1252, rfl, rfl⟩
theorem kf_D_34 : kv_fl "KeptLumpModel" 34 11 10 true (.array .long) := ⟨_, _, _, _, kc_11, by decide, kw_1254, rfl, rfl⟩
theorem kf_D_38 : kv_fl "KeptLumpModel" 38 11 11 true (.array .int) := ⟨_, _, _, _, kc_11, by decide, kw_1255, rfl, rfl⟩
theorem kf_D_41 : kv_fl "KeptLumpModel" 41 11 12 true (.array .int) := ⟨_, _, _, _, kc_11, by decide, kw_1256, rfl, rfl⟩
theorem kf_D_44 : kv_fl "KeptLumpModel" 44 11 14 false .int := ⟨_, _, _, _, kc_11, by decide, kw_1258, rfl, rfl⟩
theorem kf_D_48 : kv_fl "KeptLumpModel" 48 11 15 false .int := ⟨_, _, _, _, kc_11, by decide, kw_1259, rfl, rfl⟩
theorem kf_D_51 : kv_fl "KeptLumpModel" 51 11 17 false .int := ⟨_, _, _, _, kc_11, by decide, kw_1261, rfl, rfl⟩
theorem kf_D_54 : kv_fl "KeptLumpModel" 54 11 23 false (.array .int) := ⟨_, _, _, _, kc_11, by decide, kw_1267, rfl, rfl⟩
theorem kf_D_57 : kv_fl "KeptLumpModel" 57 11 9 false .int := ⟨_, _, _, _, kc_11, by decide, kw_1253, rfl, rfl⟩
theorem kf_D_9 : kv_fl "KeptLumpModel" 9 11 0 true (.array .int) := ⟨_, _, _, _, kc_11, by decide, kw_1244, rfl, rfl⟩
theorem kf_K_10 : kv_fl "KeptLump" 10 10 0 true (.object "KeptLump$State") := ⟨_, _, _, _, kc_10, by decide, kw_480, rfl, rfl⟩
theorem kf_K_105 : kv_fl "KeptLump" 105 3 0 true (.array .int) := ⟨_, _, _, _, kc_3, by decide, kw_112, rfl, rfl⟩
theorem kf_K_108 : kv_fl "KeptLump" 108 3 1 true (.array .int) := ⟨_, _, _, _, kc_3, by decide, kw_116, rfl, rfl⟩
theorem kf_K_111 : kv_fl "KeptLump" 111 3 2 true (.array .int) := ⟨_, _, _, _, kc_3, by decide, kw_119, rfl, rfl⟩
theorem kf_K_114 : kv_fl "KeptLump" 114 3 3 true (.array .int) := ⟨_, _, _, _, kc_3, by decide, kw_123, rfl, rfl⟩
theorem kf_K_117 : kv_fl "KeptLump" 117 3 5 true (.array .int) := ⟨_, _, _, _, kc_3, by decide, kw_127, rfl, rfl⟩
theorem kf_K_120 : kv_fl "KeptLump" 120 3 4 true (.array .int) := ⟨_, _, _, _, kc_3, by decide, kw_125, rfl, rfl⟩
theorem kf_K_124 : kv_fl "KeptLump" 124 8 5 false .int := ⟨_, _, _, _, kc_8, by decide, kw_263, rfl, rfl⟩
theorem kf_K_142 : kv_fl "KeptLump" 142 8 6 false .int := ⟨_, _, _, _, kc_8, by decide, kw_266, rfl, rfl⟩
theorem kf_K_152 : kv_fl "KeptLump" 152 8 1 true (.object "KeptLump$Weighings") := ⟨_, _, _, _, kc_8, by decide, kw_254, rfl, rfl⟩
theorem kf_K_156 : kv_fl "KeptLump" 156 9 7 false .int := ⟨_, _, _, _, kc_9, by decide, kw_179, rfl, rfl⟩
theorem kf_K_16 : kv_fl "KeptLump" 16 10 1 true (.object "KeptLump$State") := ⟨_, _, _, _, kc_10, by decide, kw_481, rfl, rfl⟩
theorem kf_K_174 : kv_fl "KeptLump" 174 7 3 false .int := ⟨_, _, _, _, kc_7, by decide, kw_307, rfl, rfl⟩
theorem kf_K_184 : kv_fl "KeptLump" 184 7 0 true (.array .int) := ⟨_, _, _, _, kc_7, by decide, kw_301, rfl, rfl⟩
theorem kf_K_192 : kv_fl "KeptLump" 192 9 0 true (.array .int) := ⟨_, _, _, _, kc_9, by decide, kw_159, rfl, rfl⟩
theorem kf_K_195 : kv_fl "KeptLump" 195 9 1 true (.array .int) := ⟨_, _, _, _, kc_9, by decide, kw_163, rfl, rfl⟩
theorem kf_K_198 : kv_fl "KeptLump" 198 9 2 true (.array .int) := ⟨_, _, _, _, kc_9, by decide, kw_167, rfl, rfl⟩
theorem kf_K_201 : kv_fl "KeptLump" 201 9 3 true (.array .int) := ⟨_, _, _, _, kc_9, by decide, kw_169, rfl, rfl⟩
theorem kf_K_204 : kv_fl "KeptLump" 204 9 4 true (.array .int) := ⟨_, _, _, _, kc_9, by decide, kw_171, rfl, rfl⟩
theorem kf_K_207 : kv_fl "KeptLump" 207 9 5 true (.array .boolean) := ⟨_, _, _, _, kc_9, by decide, kw_174, rfl, rfl⟩
theorem kf_K_21 : kv_fl "KeptLump" 21 10 3 true (.array (.object "KeptLump$Shelf")) := ⟨_, _, _, _, kc_10, by decide, kw_483, rfl, rfl⟩
theorem kf_K_252 : kv_fl "KeptLump" 252 4 5 false .int := ⟨_, _, _, _, kc_4, by decide, kw_345, rfl, rfl⟩
theorem kf_K_275 : kv_fl "KeptLump" 275 8 2 true (.object "KeptLump$Law") := ⟨_, _, _, _, kc_8, by decide, kw_256, rfl, rfl⟩
theorem kf_K_279 : kv_fl "KeptLump" 279 6 5 false .int := ⟨_, _, _, _, kc_6, by decide, kw_397, rfl, rfl⟩
theorem kf_K_288 : kv_fl "KeptLump" 288 1 0 true (.array .int) := ⟨_, _, _, _, kc_1, by decide, kw_209, rfl, rfl⟩
theorem kf_K_29 : kv_fl "KeptLump" 29 10 4 true (.object "KeptLump$Net") := ⟨_, _, _, _, kc_10, by decide, kw_484, rfl, rfl⟩
theorem kf_K_291 : kv_fl "KeptLump" 291 1 1 false .int := ⟨_, _, _, _, kc_1, by decide, kw_212, rfl, rfl⟩
theorem kf_K_296 : kv_fl "KeptLump" 296 8 3 true (.object "KeptLump$Chains") := ⟨_, _, _, _, kc_8, by decide, kw_258, rfl, rfl⟩
theorem kf_K_300 : kv_fl "KeptLump" 300 0 2 true (.array .int) := ⟨_, _, _, _, kc_0, by decide, kw_232, rfl, rfl⟩
theorem kf_K_305 : kv_fl "KeptLump" 305 0 3 true (.array .int) := ⟨_, _, _, _, kc_0, by decide, kw_234, rfl, rfl⟩
theorem kf_K_347 : kv_fl "KeptLump" 347 5 12 false .int := ⟨_, _, _, _, kc_5, by decide, kw_452, rfl, rfl⟩
theorem kf_K_350 : kv_fl "KeptLump" 350 5 10 false .int := ⟨_, _, _, _, kc_5, by decide, kw_449, rfl, rfl⟩
theorem kf_K_357 : kv_fl "KeptLump" 357 10 2 false .boolean := ⟨_, _, _, _, kc_10, by decide, kw_482, rfl, rfl⟩
theorem kf_K_36 : kv_fl "KeptLump" 36 10 5 true (.object "KeptLump$LongNet") := ⟨_, _, _, _, kc_10, by decide, kw_485, rfl, rfl⟩
theorem kf_K_364 : kv_fl "KeptLump" 364 1 2 false .int := ⟨_, _, _, _, kc_1, by decide, kw_215, rfl, rfl⟩
theorem kf_K_402 : kv_fl "KeptLump" 402 7 2 false .int := ⟨_, _, _, _, kc_7, by decide, kw_304, rfl, rfl⟩
theorem kf_K_43 : kv_fl "KeptLump" 43 10 6 true (.object "KeptLump$Reader") := ⟨_, _, _, _, kc_10, by decide, kw_486, rfl, rfl⟩
theorem kf_K_447 : kv_fl "KeptLump" 447 2 2 false .int := ⟨_, _, _, _, kc_2, by decide, kw_368, rfl, rfl⟩
theorem kf_K_50 : kv_fl "KeptLump" 50 10 7 true (.object "KeptLump$Planner") := ⟨_, _, _, _, kc_10, by decide, kw_487, rfl, rfl⟩
theorem kf_K_58 : kv_fl "KeptLump" 58 8 0 true (.object "KeptLump$Lumps") := ⟨_, _, _, _, kc_8, by decide, kw_248, rfl, rfl⟩
theorem kf_K_62 : kv_fl "KeptLump" 62 3 7 false .int := ⟨_, _, _, _, kc_3, by decide, kw_132, rfl, rfl⟩
theorem kf_K_76 : kv_fl "KeptLump" 76 3 6 true (.array .int) := ⟨_, _, _, _, kc_3, by decide, kw_129, rfl, rfl⟩
theorem kf_K_85 : kv_fl "KeptLump" 85 8 4 true (.array .int) := ⟨_, _, _, _, kc_8, by decide, kw_260, rfl, rfl⟩
theorem kf_K_88 : kv_fl "KeptLump" 88 8 8 false .int := ⟨_, _, _, _, kc_8, by decide, kw_271, rfl, rfl⟩
theorem kf_K_95 : kv_fl "KeptLump" 95 8 7 false .int := ⟨_, _, _, _, kc_8, by decide, kw_268, rfl, rfl⟩
theorem kf_Law_15 : kv_fl "KeptLump$Law" 15 1 1 false .int := ⟨_, _, _, _, kc_1, by decide, kw_210, rfl, rfl⟩
theorem kf_Law_19 : kv_fl "KeptLump$Law" 19 1 2 false .int := ⟨_, _, _, _, kc_1, by decide, kw_213, rfl, rfl⟩
theorem kf_Law_9 : kv_fl "KeptLump$Law" 9 1 0 true (.array .int) := ⟨_, _, _, _, kc_1, by decide, kw_207, rfl, rfl⟩
theorem kf_LongNet_106 : kv_fl "KeptLump$LongNet" 106 8 0 true (.object "KeptLump$Lumps") := ⟨_, _, _, _, kc_8, by decide, kw_250, rfl, rfl⟩
theorem kf_LongNet_11 : kv_fl "KeptLump$LongNet" 11 2 0 true (.array .int) := ⟨_, _, _, _, kc_2, by decide, kw_365, rfl, rfl⟩
theorem kf_LongNet_110 : kv_fl "KeptLump$LongNet" 110 3 0 true (.array .int) := ⟨_, _, _, _, kc_3, by decide, kw_114, rfl, rfl⟩
theorem kf_LongNet_115 : kv_fl "KeptLump$LongNet" 115 8 7 false .int := ⟨_, _, _, _, kc_8, by decide, kw_269, rfl, rfl⟩
theorem kf_LongNet_118 : kv_fl "KeptLump$LongNet" 118 8 8 false .int := ⟨_, _, _, _, kc_8, by decide, kw_272, rfl, rfl⟩
theorem kf_LongNet_17 : kv_fl "KeptLump$LongNet" 17 2 1 false .int := ⟨_, _, _, _, kc_2, by decide, kw_366, rfl, rfl⟩
theorem kf_LongNet_21 : kv_fl "KeptLump$LongNet" 21 2 2 false .int := ⟨_, _, _, _, kc_2, by decide, kw_367, rfl, rfl⟩
theorem kf_LongNet_28 : kv_fl "KeptLump$LongNet" 28 2 3 false .int := ⟨_, _, _, _, kc_2, by decide, kw_369, rfl, rfl⟩
theorem kf_LongNet_31 : kv_fl "KeptLump$LongNet" 31 2 4 false .int := ⟨_, _, _, _, kc_2, by decide, kw_370, rfl, rfl⟩
theorem kf_LongNet_34 : kv_fl "KeptLump$LongNet" 34 2 5 false .int := ⟨_, _, _, _, kc_2, by decide, kw_371, rfl, rfl⟩
theorem kf_LongNet_47 : kv_fl "KeptLump$LongNet" 47 8 1 true (.object "KeptLump$Weighings") := ⟨_, _, _, _, kc_8, by decide, kw_253, rfl, rfl⟩
theorem kf_LongNet_53 : kv_fl "KeptLump$LongNet" 53 9 7 false .int := ⟨_, _, _, _, kc_9, by decide, kw_178, rfl, rfl⟩
theorem kf_LongNet_60 : kv_fl "KeptLump$LongNet" 60 9 0 true (.array .int) := ⟨_, _, _, _, kc_9, by decide, kw_158, rfl, rfl⟩
theorem kf_LongNet_63 : kv_fl "KeptLump$LongNet" 63 9 1 true (.array .int) := ⟨_, _, _, _, kc_9, by decide, kw_162, rfl, rfl⟩
theorem kf_LongNet_74 : kv_fl "KeptLump$LongNet" 74 9 2 true (.array .int) := ⟨_, _, _, _, kc_9, by decide, kw_166, rfl, rfl⟩
theorem kf_LongNet_89 : kv_fl "KeptLump$LongNet" 89 9 5 true (.array .boolean) := ⟨_, _, _, _, kc_9, by decide, kw_173, rfl, rfl⟩
theorem kf_Lumps_15 : kv_fl "KeptLump$Lumps" 15 3 1 true (.array .int) := ⟨_, _, _, _, kc_3, by decide, kw_115, rfl, rfl⟩
theorem kf_Lumps_18 : kv_fl "KeptLump$Lumps" 18 3 2 true (.array .int) := ⟨_, _, _, _, kc_3, by decide, kw_118, rfl, rfl⟩
theorem kf_Lumps_21 : kv_fl "KeptLump$Lumps" 21 3 3 true (.array .int) := ⟨_, _, _, _, kc_3, by decide, kw_121, rfl, rfl⟩
theorem kf_Lumps_24 : kv_fl "KeptLump$Lumps" 24 3 4 true (.array .int) := ⟨_, _, _, _, kc_3, by decide, kw_124, rfl, rfl⟩
theorem kf_Lumps_27 : kv_fl "KeptLump$Lumps" 27 3 5 true (.array .int) := ⟨_, _, _, _, kc_3, by decide, kw_126, rfl, rfl⟩
theorem kf_Lumps_30 : kv_fl "KeptLump$Lumps" 30 3 6 true (.array .int) := ⟨_, _, _, _, kc_3, by decide, kw_128, rfl, rfl⟩
theorem kf_Lumps_33 : kv_fl "KeptLump$Lumps" 33 3 7 false .int := ⟨_, _, _, _, kc_3, by decide, kw_130, rfl, rfl⟩
theorem kf_Lumps_9 : kv_fl "KeptLump$Lumps" 9 3 0 true (.array .int) := ⟨_, _, _, _, kc_3, by decide, kw_110, rfl, rfl⟩
theorem kf_Net_11 : kv_fl "KeptLump$Net" 11 4 0 true (.array .int) := ⟨_, _, _, _, kc_4, by decide, kw_339, rfl, rfl⟩
theorem kf_Net_15 : kv_fl "KeptLump$Net" 15 4 1 true (.array .int) := ⟨_, _, _, _, kc_4, by decide, kw_340, rfl, rfl⟩
theorem kf_Net_18 : kv_fl "KeptLump$Net" 18 4 2 true (.array .int) := ⟨_, _, _, _, kc_4, by decide, kw_341, rfl, rfl⟩
theorem kf_Net_21 : kv_fl "KeptLump$Net" 21 4 3 true (.array .int) := ⟨_, _, _, _, kc_4, by decide, kw_342, rfl, rfl⟩
theorem kf_Net_24 : kv_fl "KeptLump$Net" 24 4 4 false .int := ⟨_, _, _, _, kc_4, by decide, kw_343, rfl, rfl⟩
theorem kf_Net_28 : kv_fl "KeptLump$Net" 28 4 5 false .int := ⟨_, _, _, _, kc_4, by decide, kw_344, rfl, rfl⟩
theorem kf_Planner_113 : kv_fl "KeptLump$Planner" 113 5 10 false .int := ⟨_, _, _, _, kc_5, by decide, kw_448, rfl, rfl⟩
theorem kf_Planner_116 : kv_fl "KeptLump$Planner" 116 5 11 false .int := ⟨_, _, _, _, kc_5, by decide, kw_450, rfl, rfl⟩
theorem kf_Planner_119 : kv_fl "KeptLump$Planner" 119 5 12 false .int := ⟨_, _, _, _, kc_5, by decide, kw_451, rfl, rfl⟩
theorem kf_Planner_15 : kv_fl "KeptLump$Planner" 15 5 1 true (.array .int) := ⟨_, _, _, _, kc_5, by decide, kw_439, rfl, rfl⟩
theorem kf_Planner_18 : kv_fl "KeptLump$Planner" 18 5 2 true (.array .int) := ⟨_, _, _, _, kc_5, by decide, kw_440, rfl, rfl⟩
theorem kf_Planner_21 : kv_fl "KeptLump$Planner" 21 5 3 true (.array .int) := ⟨_, _, _, _, kc_5, by decide, kw_441, rfl, rfl⟩
theorem kf_Planner_24 : kv_fl "KeptLump$Planner" 24 5 4 true (.array .int) := ⟨_, _, _, _, kc_5, by decide, kw_442, rfl, rfl⟩
theorem kf_Planner_27 : kv_fl "KeptLump$Planner" 27 5 5 true (.array .boolean) := ⟨_, _, _, _, kc_5, by decide, kw_443, rfl, rfl⟩
theorem kf_Planner_31 : kv_fl "KeptLump$Planner" 31 7 3 false .int := ⟨_, _, _, _, kc_7, by decide, kw_305, rfl, rfl⟩
theorem kf_Planner_43 : kv_fl "KeptLump$Planner" 43 5 6 false .int := ⟨_, _, _, _, kc_5, by decide, kw_444, rfl, rfl⟩
theorem kf_Planner_46 : kv_fl "KeptLump$Planner" 46 3 7 false .int := ⟨_, _, _, _, kc_3, by decide, kw_131, rfl, rfl⟩
theorem kf_Planner_51 : kv_fl "KeptLump$Planner" 51 5 7 false .int := ⟨_, _, _, _, kc_5, by decide, kw_445, rfl, rfl⟩
theorem kf_Planner_54 : kv_fl "KeptLump$Planner" 54 5 8 false .int := ⟨_, _, _, _, kc_5, by decide, kw_446, rfl, rfl⟩
theorem kf_Planner_57 : kv_fl "KeptLump$Planner" 57 5 9 false .int := ⟨_, _, _, _, kc_5, by decide, kw_447, rfl, rfl⟩
theorem kf_Planner_60 : kv_fl "KeptLump$Planner" 60 7 0 true (.array .int) := ⟨_, _, _, _, kc_7, by decide, kw_300, rfl, rfl⟩
theorem kf_Planner_63 : kv_fl "KeptLump$Planner" 63 3 3 true (.array .int) := ⟨_, _, _, _, kc_3, by decide, kw_122, rfl, rfl⟩
theorem kf_Planner_66 : kv_fl "KeptLump$Planner" 66 3 0 true (.array .int) := ⟨_, _, _, _, kc_3, by decide, kw_111, rfl, rfl⟩
theorem kf_Planner_76 : kv_fl "KeptLump$Planner" 76 8 1 true (.object "KeptLump$Weighings") := ⟨_, _, _, _, kc_8, by decide, kw_252, rfl, rfl⟩
theorem kf_Planner_82 : kv_fl "KeptLump$Planner" 82 9 7 false .int := ⟨_, _, _, _, kc_9, by decide, kw_177, rfl, rfl⟩
theorem kf_Planner_85 : kv_fl "KeptLump$Planner" 85 8 5 false .int := ⟨_, _, _, _, kc_8, by decide, kw_262, rfl, rfl⟩
theorem kf_Planner_9 : kv_fl "KeptLump$Planner" 9 5 0 true (.array .int) := ⟨_, _, _, _, kc_5, by decide, kw_438, rfl, rfl⟩
theorem kf_Planner_96 : kv_fl "KeptLump$Planner" 96 9 1 true (.array .int) := ⟨_, _, _, _, kc_9, by decide, kw_161, rfl, rfl⟩
theorem kf_Planner_97 : kv_fl "KeptLump$Planner" 97 9 2 true (.array .int) := ⟨_, _, _, _, kc_9, by decide, kw_165, rfl, rfl⟩
theorem kf_Reader_22 : kv_fl "KeptLump$Reader" 22 6 3 false .int := ⟨_, _, _, _, kc_6, by decide, kw_394, rfl, rfl⟩
theorem kf_Reader_26 : kv_fl "KeptLump$Reader" 26 6 2 false .int := ⟨_, _, _, _, kc_6, by decide, kw_393, rfl, rfl⟩
theorem kf_Reader_29 : kv_fl "KeptLump$Reader" 29 6 1 false .int := ⟨_, _, _, _, kc_6, by decide, kw_392, rfl, rfl⟩
theorem kf_Reader_32 : kv_fl "KeptLump$Reader" 32 6 8 false .int := ⟨_, _, _, _, kc_6, by decide, kw_400, rfl, rfl⟩
theorem kf_Reader_41 : kv_fl "KeptLump$Reader" 41 6 4 false .int := ⟨_, _, _, _, kc_6, by decide, kw_395, rfl, rfl⟩
theorem kf_Reader_44 : kv_fl "KeptLump$Reader" 44 6 5 false .int := ⟨_, _, _, _, kc_6, by decide, kw_396, rfl, rfl⟩
theorem kf_Reader_47 : kv_fl "KeptLump$Reader" 47 8 5 false .int := ⟨_, _, _, _, kc_8, by decide, kw_261, rfl, rfl⟩
theorem kf_Reader_52 : kv_fl "KeptLump$Reader" 52 6 6 false .int := ⟨_, _, _, _, kc_6, by decide, kw_398, rfl, rfl⟩
theorem kf_Reader_53 : kv_fl "KeptLump$Reader" 53 6 7 false .int := ⟨_, _, _, _, kc_6, by decide, kw_399, rfl, rfl⟩
theorem kf_Reader_56 : kv_fl "KeptLump$Reader" 56 8 0 true (.object "KeptLump$Lumps") := ⟨_, _, _, _, kc_8, by decide, kw_249, rfl, rfl⟩
theorem kf_Reader_66 : kv_fl "KeptLump$Reader" 66 6 9 false .int := ⟨_, _, _, _, kc_6, by decide, kw_401, rfl, rfl⟩
theorem kf_Reader_69 : kv_fl "KeptLump$Reader" 69 6 10 false .int := ⟨_, _, _, _, kc_6, by decide, kw_402, rfl, rfl⟩
theorem kf_Reader_72 : kv_fl "KeptLump$Reader" 72 6 11 false .int := ⟨_, _, _, _, kc_6, by decide, kw_403, rfl, rfl⟩
theorem kf_Reader_75 : kv_fl "KeptLump$Reader" 75 6 12 false .int := ⟨_, _, _, _, kc_6, by decide, kw_404, rfl, rfl⟩
theorem kf_Reader_9 : kv_fl "KeptLump$Reader" 9 6 0 true (.array .int) := ⟨_, _, _, _, kc_6, by decide, kw_391, rfl, rfl⟩
theorem kf_Shelf_15 : kv_fl "KeptLump$Shelf" 15 7 1 false .int := ⟨_, _, _, _, kc_7, by decide, kw_302, rfl, rfl⟩
theorem kf_Shelf_19 : kv_fl "KeptLump$Shelf" 19 7 4 false .int := ⟨_, _, _, _, kc_7, by decide, kw_308, rfl, rfl⟩
theorem kf_Shelf_22 : kv_fl "KeptLump$Shelf" 22 3 0 true (.array .int) := ⟨_, _, _, _, kc_3, by decide, kw_113, rfl, rfl⟩
theorem kf_Shelf_27 : kv_fl "KeptLump$Shelf" 27 7 5 false .int := ⟨_, _, _, _, kc_7, by decide, kw_310, rfl, rfl⟩
theorem kf_Shelf_29 : kv_fl "KeptLump$Shelf" 29 3 1 true (.array .int) := ⟨_, _, _, _, kc_3, by decide, kw_117, rfl, rfl⟩
theorem kf_Shelf_32 : kv_fl "KeptLump$Shelf" 32 7 6 false .int := ⟨_, _, _, _, kc_7, by decide, kw_312, rfl, rfl⟩
theorem kf_Shelf_34 : kv_fl "KeptLump$Shelf" 34 3 2 true (.array .int) := ⟨_, _, _, _, kc_3, by decide, kw_120, rfl, rfl⟩
theorem kf_Shelf_37 : kv_fl "KeptLump$Shelf" 37 7 7 false .int := ⟨_, _, _, _, kc_7, by decide, kw_314, rfl, rfl⟩
theorem kf_Shelf_39 : kv_fl "KeptLump$Shelf" 39 7 2 false .int := ⟨_, _, _, _, kc_7, by decide, kw_303, rfl, rfl⟩
theorem kf_Shelf_42 : kv_fl "KeptLump$Shelf" 42 7 3 false .int := ⟨_, _, _, _, kc_7, by decide, kw_306, rfl, rfl⟩
theorem kf_Shelf_9 : kv_fl "KeptLump$Shelf" 9 7 0 true (.array .int) := ⟨_, _, _, _, kc_7, by decide, kw_299, rfl, rfl⟩
theorem kf_State_12 : kv_fl "KeptLump$State" 12 8 0 true (.object "KeptLump$Lumps") := ⟨_, _, _, _, kc_8, by decide, kw_247, rfl, rfl⟩
theorem kf_State_21 : kv_fl "KeptLump$State" 21 8 1 true (.object "KeptLump$Weighings") := ⟨_, _, _, _, kc_8, by decide, kw_251, rfl, rfl⟩
theorem kf_State_28 : kv_fl "KeptLump$State" 28 8 2 true (.object "KeptLump$Law") := ⟨_, _, _, _, kc_8, by decide, kw_255, rfl, rfl⟩
theorem kf_State_35 : kv_fl "KeptLump$State" 35 8 3 true (.object "KeptLump$Chains") := ⟨_, _, _, _, kc_8, by decide, kw_257, rfl, rfl⟩
theorem kf_State_39 : kv_fl "KeptLump$State" 39 8 4 true (.array .int) := ⟨_, _, _, _, kc_8, by decide, kw_259, rfl, rfl⟩
theorem kf_State_43 : kv_fl "KeptLump$State" 43 8 6 false .int := ⟨_, _, _, _, kc_8, by decide, kw_265, rfl, rfl⟩
theorem kf_State_47 : kv_fl "KeptLump$State" 47 8 7 false .int := ⟨_, _, _, _, kc_8, by decide, kw_267, rfl, rfl⟩
theorem kf_State_50 : kv_fl "KeptLump$State" 50 8 8 false .int := ⟨_, _, _, _, kc_8, by decide, kw_270, rfl, rfl⟩
theorem kf_State_69 : kv_fl "KeptLump$State" 69 1 0 true (.array .int) := ⟨_, _, _, _, kc_1, by decide, kw_208, rfl, rfl⟩
theorem kf_State_72 : kv_fl "KeptLump$State" 72 1 1 false .int := ⟨_, _, _, _, kc_1, by decide, kw_211, rfl, rfl⟩
theorem kf_State_75 : kv_fl "KeptLump$State" 75 1 2 false .int := ⟨_, _, _, _, kc_1, by decide, kw_214, rfl, rfl⟩
theorem kf_State_91 : kv_fl "KeptLump$State" 91 8 5 false .int := ⟨_, _, _, _, kc_8, by decide, kw_264, rfl, rfl⟩
theorem kf_Weighings_15 : kv_fl "KeptLump$Weighings" 15 9 1 true (.array .int) := ⟨_, _, _, _, kc_9, by decide, kw_160, rfl, rfl⟩
theorem kf_Weighings_18 : kv_fl "KeptLump$Weighings" 18 9 2 true (.array .int) := ⟨_, _, _, _, kc_9, by decide, kw_164, rfl, rfl⟩
theorem kf_Weighings_21 : kv_fl "KeptLump$Weighings" 21 9 3 true (.array .int) := ⟨_, _, _, _, kc_9, by decide, kw_168, rfl, rfl⟩
theorem kf_Weighings_24 : kv_fl "KeptLump$Weighings" 24 9 4 true (.array .int) := ⟨_, _, _, _, kc_9, by decide, kw_170, rfl, rfl⟩
theorem kf_Weighings_27 : kv_fl "KeptLump$Weighings" 27 9 5 true (.array .boolean) := ⟨_, _, _, _, kc_9, by decide, kw_172, rfl, rfl⟩
theorem kf_Weighings_31 : kv_fl "KeptLump$Weighings" 31 9 6 true (.array .int) := ⟨_, _, _, _, kc_9, by decide, kw_175, rfl, rfl⟩
theorem kf_Weighings_34 : kv_fl "KeptLump$Weighings" 34 9 7 false .int := ⟨_, _, _, _, kc_9, by decide, kw_176, rfl, rfl⟩
theorem kf_Weighings_38 : kv_fl "KeptLump$Weighings" 38 9 8 false .int := ⟨_, _, _, _, kc_9, by decide, kw_180, rfl, rfl⟩
theorem kf_Weighings_9 : kv_fl "KeptLump$Weighings" 9 9 0 true (.array .int) := ⟨_, _, _, _, kc_9, by decide, kw_157, rfl, rfl⟩
abbrev kM_K_agree : kv_MI := (⟨"KeptLump", "agree", "(II)I"⟩, prog_1_method_26_code, 4, (some .int))
abbrev kM_K_apart : kv_MI := (⟨"KeptLump", "apart", "(IIII)I"⟩, prog_1_method_14_code, 6, (some .int))
abbrev kM_K_arePairs : kv_MI := (⟨"KeptLump", "arePairs", "(LKeptLump$Shelf;)Z"⟩, prog_1_method_61_code, 4, (some .boolean))
abbrev kM_K_boundByYear : kv_MI := (⟨"KeptLump", "boundByYear", "(II)V"⟩, prog_1_method_53_code, 7, none)
abbrev kM_K_bounded : kv_MI := (⟨"KeptLump", "bounded", "(III)I"⟩, prog_1_method_54_code, 5, (some .int))
abbrev kM_K_bytesRefusal : kv_MI := (⟨"KeptLump", "bytesRefusal", "(I)I"⟩, prog_1_method_48_code, 3, (some .int))
abbrev kM_K_care : kv_MI := (⟨"KeptLump", "care", "(I)I"⟩, prog_1_method_38_code, 3, (some .int))
abbrev kM_K_chain : kv_MI := (⟨"KeptLump", "chain", "(II)I"⟩, prog_1_method_25_code, 4, (some .int))
abbrev kM_K_chainsRefusal : kv_MI := (⟨"KeptLump", "chainsRefusal", "(II)I"⟩, prog_1_method_50_code, 3, (some .int))
abbrev kM_K_copy : kv_MI := (⟨"KeptLump", "copy", "(IIIII)I"⟩, prog_1_method_37_code, 8, (some .int))
abbrev kM_K_count : kv_MI := (⟨"KeptLump", "count", "(I)I"⟩, prog_1_method_32_code, 2, (some .int))
abbrev kM_K_exchange : kv_MI := (⟨"KeptLump", "exchange", "([III)I"⟩, prog_1_method_45_code, 4, (some .int))
abbrev kM_K_fits : kv_MI := (⟨"KeptLump", "fits", "(I)I"⟩, prog_1_method_16_code, 2, (some .int))
abbrev kM_K_go : kv_MI := (⟨"KeptLump", "go", "(I)I"⟩, prog_1_method_6_code, 3, (some .int))
abbrev kM_K_grows : kv_MI := (⟨"KeptLump", "grows", "(II)I"⟩, prog_1_method_7_code, 3, (some .int))
abbrev kM_K_hear : kv_MI := (⟨"KeptLump", "hear", "(I)I"⟩, prog_1_method_10_code, 6, (some .int))
abbrev kM_K_hearOne : kv_MI := (⟨"KeptLump", "hearOne", "([II)V"⟩, prog_1_method_52_code, 3, none)
abbrev kM_K_image : kv_MI := (⟨"KeptLump", "image", "()I"⟩, prog_1_method_30_code, 1, (some .int))
abbrev kM_K_isChain : kv_MI := (⟨"KeptLump", "isChain", "(I)Z"⟩, prog_1_method_43_code, 1, (some .boolean))
abbrev kM_K_isDoubt : kv_MI := (⟨"KeptLump", "isDoubt", "(I)Z"⟩, prog_1_method_42_code, 1, (some .boolean))
abbrev kM_K_isOrderedPair : kv_MI := (⟨"KeptLump", "isOrderedPair", "(I)Z"⟩, prog_1_method_46_code, 2, (some .boolean))
abbrev kM_K_isShelf : kv_MI := (⟨"KeptLump", "isShelf", "(I)Z"⟩, prog_1_method_44_code, 1, (some .boolean))
abbrev kM_K_isStorySet : kv_MI := (⟨"KeptLump", "isStorySet", "(I)Z"⟩, prog_1_method_58_code, 2, (some .boolean))
abbrev kM_K_isTold : kv_MI := (⟨"KeptLump", "isTold", "(LKeptLump$Shelf;I)Z"⟩, prog_1_method_51_code, 4, (some .boolean))
abbrev kM_K_isWithin : kv_MI := (⟨"KeptLump", "isWithin", "(III)Z"⟩, prog_1_method_40_code, 3, (some .boolean))
abbrev kM_K_isYear : kv_MI := (⟨"KeptLump", "isYear", "(I)Z"⟩, prog_1_method_41_code, 1, (some .boolean))
abbrev kM_K_keep : kv_MI := (⟨"KeptLump", "keep", "(III)I"⟩, prog_1_method_33_code, 4, (some .int))
abbrev kM_K_link : kv_MI := (⟨"KeptLump", "link", "(IIII)I"⟩, prog_1_method_24_code, 5, (some .int))
abbrev kM_K_longApart : kv_MI := (⟨"KeptLump", "longApart", "(IIIII)I"⟩, prog_1_method_15_code, 7, (some .int))
abbrev kM_K_longNetHolds : kv_MI := (⟨"KeptLump", "longNetHolds", "()Z"⟩, prog_1_method_55_code, 1, (some .boolean))
abbrev kM_K_longNetHoldsSwapped : kv_MI := (⟨"KeptLump", "longNetHoldsSwapped", "(III)Z"⟩, prog_1_method_57_code, 4, (some .boolean))
abbrev kM_K_longNetHoldsWithout : kv_MI := (⟨"KeptLump", "longNetHoldsWithout", "(I)Z"⟩, prog_1_method_56_code, 2, (some .boolean))
abbrev kM_K_lump : kv_MI := (⟨"KeptLump", "lump", "(III)I"⟩, prog_1_method_2_code, 7, (some .int))
abbrev kM_K_lumpRefusal : kv_MI := (⟨"KeptLump", "lumpRefusal", "(I)I"⟩, prog_1_method_49_code, 2, (some .int))
abbrev kM_K_moves : kv_MI := (⟨"KeptLump", "moves", "(II)I"⟩, prog_1_method_23_code, 6, (some .int))
abbrev kM_K_needed : kv_MI := (⟨"KeptLump", "needed", "()I"⟩, prog_1_method_17_code, 3, (some .int))
abbrev kM_K_of : kv_MI := (⟨"KeptLump", "of", "(II)I"⟩, prog_1_method_4_code, 4, (some .int))
abbrev kM_K_one : kv_MI := (⟨"KeptLump", "one", "()I"⟩, prog_1_method_21_code, 1, (some .int))
abbrev kM_K_out : kv_MI := (⟨"KeptLump", "out", "(IZ)I"⟩, prog_1_method_12_code, 5, (some .int))
abbrev kM_K_plan : kv_MI := (⟨"KeptLump", "plan", "(IIII)I"⟩, prog_1_method_29_code, 7, (some .int))
abbrev kM_K_put : kv_MI := (⟨"KeptLump", "put", "(III)I"⟩, prog_1_method_35_code, 6, (some .int))
abbrev kM_K_restore : kv_MI := (⟨"KeptLump", "restore", "()I"⟩, prog_1_method_31_code, 1, (some .int))
abbrev kM_K_row : kv_MI := (⟨"KeptLump", "row", "(III)I"⟩, prog_1_method_34_code, 4, (some .int))
abbrev kM_K_rowRefusal : kv_MI := (⟨"KeptLump", "rowRefusal", "(I)I"⟩, prog_1_method_47_code, 2, (some .int))
abbrev kM_K_seed : kv_MI := (⟨"KeptLump", "seed", "(I)I"⟩, prog_1_method_8_code, 3, (some .int))
abbrev kM_K_set : kv_MI := (⟨"KeptLump", "set", "(III)I"⟩, prog_1_method_3_code, 4, (some .int))
abbrev kM_K_stories : kv_MI := (⟨"KeptLump", "stories", "(IIII)I"⟩, prog_1_method_19_code, 11, (some .int))
abbrev kM_K_storiesOf : kv_MI := (⟨"KeptLump", "storiesOf", "(I)I"⟩, prog_1_method_59_code, 3, (some .int))
abbrev kM_K_swapped : kv_MI := (⟨"KeptLump", "swapped", "(II)I"⟩, prog_1_method_18_code, 6, (some .int))
abbrev kM_K_tellStory : kv_MI := (⟨"KeptLump", "tellStory", "(III)V"⟩, prog_1_method_60_code, 9, none)
abbrev kM_K_touches : kv_MI := (⟨"KeptLump", "touches", "()I"⟩, prog_1_method_13_code, 1, (some .int))
abbrev kM_K_wash : kv_MI := (⟨"KeptLump", "wash", "(II)I"⟩, prog_1_method_5_code, 3, (some .int))
abbrev kM_K_weigh : kv_MI := (⟨"KeptLump", "weigh", "(IIII)I"⟩, prog_1_method_9_code, 11, (some .int))
abbrev kM_K_weighing : kv_MI := (⟨"KeptLump", "weighing", "(II)I"⟩, prog_1_method_11_code, 4, (some .int))
abbrev kM_K_when : kv_MI := (⟨"KeptLump", "when", "(I)I"⟩, prog_1_method_28_code, 6, (some .int))
abbrev kM_K_words : kv_MI := (⟨"KeptLump", "words", "(I)I"⟩, prog_1_method_20_code, 4, (some .int))
abbrev kM_K_worth : kv_MI := (⟨"KeptLump", "worth", "(I)I"⟩, prog_1_method_22_code, 2, (some .int))
abbrev kM_K_wrong : kv_MI := (⟨"KeptLump", "wrong", "(III)I"⟩, prog_1_method_27_code, 6, (some .int))
abbrev kM_Chains_add : kv_MI := (⟨"KeptLump$Chains", "add", "(IIII)I"⟩, prog_2_method_2_code, 6, (some .int))
abbrev kM_Chains_allLinks : kv_MI := (⟨"KeptLump$Chains", "allLinks", "()I"⟩, prog_2_method_8_code, 3, (some .int))
abbrev kM_Chains_doubtOf : kv_MI := (⟨"KeptLump$Chains", "doubtOf", "(I)I"⟩, prog_2_method_4_code, 4, (some .int))
abbrev kM_Chains_lack : kv_MI := (⟨"KeptLump$Chains", "lack", "(II)I"⟩, prog_2_method_5_code, 3, (some .int))
abbrev kM_Chains_linksThatMend : kv_MI := (⟨"KeptLump$Chains", "linksThatMend", "(II)I"⟩, prog_2_method_6_code, 5, (some .int))
abbrev kM_Chains_sum : kv_MI := (⟨"KeptLump$Chains", "sum", "(I)I"⟩, prog_2_method_3_code, 4, (some .int))
abbrev kM_Chains_takeFrom : kv_MI := (⟨"KeptLump$Chains", "takeFrom", "(LKeptLump$Chains;)V"⟩, prog_2_method_9_code, 2, none)
abbrev kM_Chains_willDo : kv_MI := (⟨"KeptLump$Chains", "willDo", "(II)Z"⟩, prog_2_method_7_code, 3, (some .boolean))
abbrev kM_Law_write : kv_MI := (⟨"KeptLump$Law", "write", "([III)V"⟩, prog_3_method_2_code, 4, none)
abbrev kM_LongNet_addKnot : kv_MI := (⟨"KeptLump$LongNet", "addKnot", "(II)V"⟩, prog_4_method_7_code, 5, none)
abbrev kM_LongNet_boundByGrowth : kv_MI := (⟨"KeptLump$LongNet", "boundByGrowth", "(LKeptLump$State;LKeptLump$Net;)V"⟩, prog_4_method_11_code, 9, none)
abbrev kM_LongNet_boundByWeighing : kv_MI := (⟨"KeptLump$LongNet", "boundByWeighing", "(LKeptLump$Weighings;ILKeptLump$Net;)V"⟩, prog_4_method_10_code, 7, none)
abbrev kM_LongNet_build : kv_MI := (⟨"KeptLump$LongNet", "build", "(LKeptLump$State;LKeptLump$Net;)V"⟩, prog_4_method_8_code, 6, none)
abbrev kM_LongNet_isSaid : kv_MI := (⟨"KeptLump$LongNet", "isSaid", "(LKeptLump$Weighings;I)Z"⟩, prog_4_method_9_code, 3, (some .boolean))
abbrev kM_LongNet_knotAt : kv_MI := (⟨"KeptLump$LongNet", "knotAt", "(II)I"⟩, prog_4_method_6_code, 3, (some .int))
abbrev kM_LongNet_meant : kv_MI := (⟨"KeptLump$LongNet", "meant", "(II)I"⟩, prog_4_method_4_code, 3, (some .int))
abbrev kM_LongNet_placeOf : kv_MI := (⟨"KeptLump$LongNet", "placeOf", "(I)I"⟩, prog_4_method_5_code, 3, (some .int))
abbrev kM_LongNet_start : kv_MI := (⟨"KeptLump$LongNet", "start", "()V"⟩, prog_4_method_2_code, 1, none)
abbrev kM_LongNet_swapFrom : kv_MI := (⟨"KeptLump$LongNet", "swapFrom", "(III)V"⟩, prog_4_method_3_code, 4, none)
abbrev kM_Lumps_add : kv_MI := (⟨"KeptLump$Lumps", "add", "(IIII)I"⟩, prog_5_method_4_code, 6, (some .int))
abbrev kM_Lumps_growAll : kv_MI := (⟨"KeptLump$Lumps", "growAll", "(I)V"⟩, prog_5_method_7_code, 3, none)
abbrev kM_Lumps_growth : kv_MI := (⟨"KeptLump$Lumps", "growth", "(II)I"⟩, prog_5_method_8_code, 3, (some .int))
abbrev kM_Lumps_has : kv_MI := (⟨"KeptLump$Lumps", "has", "(I)Z"⟩, prog_5_method_2_code, 2, (some .boolean))
abbrev kM_Lumps_hasPair : kv_MI := (⟨"KeptLump$Lumps", "hasPair", "(II)Z"⟩, prog_5_method_3_code, 3, (some .boolean))
abbrev kM_Lumps_isFreshlyWashed : kv_MI := (⟨"KeptLump$Lumps", "isFreshlyWashed", "(II)Z"⟩, prog_5_method_9_code, 3, (some .boolean))
abbrev kM_Lumps_mean : kv_MI := (⟨"KeptLump$Lumps", "mean", "(II)I"⟩, prog_5_method_10_code, 6, (some .int))
abbrev kM_Lumps_primeAt : kv_MI := (⟨"KeptLump$Lumps", "primeAt", "()I"⟩, prog_5_method_5_code, 2, (some .int))
abbrev kM_Lumps_takeFrom : kv_MI := (⟨"KeptLump$Lumps", "takeFrom", "(LKeptLump$Lumps;)V"⟩, prog_5_method_11_code, 2, none)
abbrev kM_Lumps_washOff : kv_MI := (⟨"KeptLump$Lumps", "washOff", "(III)I"⟩, prog_5_method_6_code, 4, (some .int))
abbrev kM_Net_addEdge : kv_MI := (⟨"KeptLump$Net", "addEdge", "(III)V"⟩, prog_6_method_6_code, 4, none)
abbrev kM_Net_bound : kv_MI := (⟨"KeptLump$Net", "bound", "(IIII)V"⟩, prog_6_method_4_code, 5, none)
abbrev kM_Net_cutTo : kv_MI := (⟨"KeptLump$Net", "cutTo", "(I)V"⟩, prog_6_method_3_code, 2, none)
abbrev kM_Net_greatestOf : kv_MI := (⟨"KeptLump$Net", "greatestOf", "(II)I"⟩, prog_6_method_8_code, 3, (some .int))
abbrev kM_Net_holds : kv_MI := (⟨"KeptLump$Net", "holds", "()Z"⟩, prog_6_method_7_code, 1, (some .boolean))
abbrev kM_Net_isKnot : kv_MI := (⟨"KeptLump$Net", "isKnot", "(I)Z"⟩, prog_6_method_5_code, 2, (some .boolean))
abbrev kM_Net_settles : kv_MI := (⟨"KeptLump$Net", "settles", "()Z"⟩, prog_6_method_9_code, 2, (some .boolean))
abbrev kM_Net_shortens : kv_MI := (⟨"KeptLump$Net", "shortens", "()Z"⟩, prog_6_method_10_code, 4, (some .boolean))
abbrev kM_Net_start : kv_MI := (⟨"KeptLump$Net", "start", "(I)V"⟩, prog_6_method_2_code, 2, none)
abbrev kM_Planner_choose : kv_MI := (⟨"KeptLump$Planner", "choose", "()V"⟩, prog_7_method_7_code, 2, none)
abbrev kM_Planner_has : kv_MI := (⟨"KeptLump$Planner", "has", "(II)Z"⟩, prog_7_method_9_code, 3, (some .boolean))
abbrev kM_Planner_isAllowed : kv_MI := (⟨"KeptLump$Planner", "isAllowed", "(I)Z"⟩, prog_7_method_8_code, 4, (some .boolean))
abbrev kM_Planner_judge : kv_MI := (⟨"KeptLump$Planner", "judge", "(I)V"⟩, prog_7_method_12_code, 4, none)
abbrev kM_Planner_learn : kv_MI := (⟨"KeptLump$Planner", "learn", "(LKeptLump$State;)Z"⟩, prog_7_method_3_code, 4, (some .boolean))
abbrev kM_Planner_learnOne : kv_MI := (⟨"KeptLump$Planner", "learnOne", "(LKeptLump$Weighings;I)Z"⟩, prog_7_method_4_code, 5, (some .boolean))
abbrev kM_Planner_narrow : kv_MI := (⟨"KeptLump$Planner", "narrow", "([IIII)Z"⟩, prog_7_method_5_code, 8, (some .boolean))
abbrev kM_Planner_shortenFrom : kv_MI := (⟨"KeptLump$Planner", "shortenFrom", "([IIII)V"⟩, prog_7_method_6_code, 7, none)
abbrev kM_Planner_tell : kv_MI := (⟨"KeptLump$Planner", "tell", "(LKeptLump$Lumps;LKeptLump$Shelf;II)V"⟩, prog_7_method_2_code, 8, none)
abbrev kM_Planner_tries : kv_MI := (⟨"KeptLump$Planner", "tries", "(I)Z"⟩, prog_7_method_10_code, 3, (some .boolean))
abbrev kM_Planner_tryOne : kv_MI := (⟨"KeptLump$Planner", "tryOne", "(I)Z"⟩, prog_7_method_11_code, 2, (some .boolean))
abbrev kM_Planner_widths : kv_MI := (⟨"KeptLump$Planner", "widths", "()I"⟩, prog_7_method_13_code, 7, (some .int))
abbrev kM_Reader_atom : kv_MI := (⟨"KeptLump$Reader", "atom", "(I)I"⟩, prog_8_method_9_code, 3, (some .int))
abbrev kM_Reader_expect : kv_MI := (⟨"KeptLump$Reader", "expect", "(C)V"⟩, prog_8_method_13_code, 2, none)
abbrev kM_Reader_faultTold : kv_MI := (⟨"KeptLump$Reader", "faultTold", "()I"⟩, prog_8_method_4_code, 1, (some .int))
abbrev kM_Reader_isAt : kv_MI := (⟨"KeptLump$Reader", "isAt", "(C)Z"⟩, prog_8_method_11_code, 2, (some .boolean))
abbrev kM_Reader_isAtDigit : kv_MI := (⟨"KeptLump$Reader", "isAtDigit", "()Z"⟩, prog_8_method_12_code, 1, (some .boolean))
abbrev kM_Reader_number : kv_MI := (⟨"KeptLump$Reader", "number", "()I"⟩, prog_8_method_10_code, 4, (some .int))
abbrev kM_Reader_over : kv_MI := (⟨"KeptLump$Reader", "over", "(II)I"⟩, prog_8_method_8_code, 3, (some .int))
abbrev kM_Reader_product : kv_MI := (⟨"KeptLump$Reader", "product", "(I)I"⟩, prog_8_method_7_code, 6, (some .int))
abbrev kM_Reader_read : kv_MI := (⟨"KeptLump$Reader", "read", "([IILKeptLump$State;)I"⟩, prog_8_method_2_code, 5, (some .int))
abbrev kM_Reader_start : kv_MI := (⟨"KeptLump$Reader", "start", "([IILKeptLump$State;)V"⟩, prog_8_method_3_code, 4, none)
abbrev kM_Reader_statement : kv_MI := (⟨"KeptLump$Reader", "statement", "()V"⟩, prog_8_method_5_code, 4, none)
abbrev kM_Reader_stop : kv_MI := (⟨"KeptLump$Reader", "stop", "()V"⟩, prog_8_method_14_code, 1, none)
abbrev kM_Reader_sum : kv_MI := (⟨"KeptLump$Reader", "sum", "(I)I"⟩, prog_8_method_6_code, 6, (some .int))
abbrev kM_Shelf_careWanted : kv_MI := (⟨"KeptLump$Shelf", "careWanted", "()I"⟩, prog_9_method_11_code, 2, (some .int))
abbrev kM_Shelf_clear : kv_MI := (⟨"KeptLump$Shelf", "clear", "()V"⟩, prog_9_method_4_code, 1, none)
abbrev kM_Shelf_hasPart : kv_MI := (⟨"KeptLump$Shelf", "hasPart", "(II)Z"⟩, prog_9_method_10_code, 3, (some .boolean))
abbrev kM_Shelf_holdLump : kv_MI := (⟨"KeptLump$Shelf", "holdLump", "(LKeptLump$Lumps;I)V"⟩, prog_9_method_5_code, 3, none)
abbrev kM_Shelf_holdRow : kv_MI := (⟨"KeptLump$Shelf", "holdRow", "(II)V"⟩, prog_9_method_6_code, 3, none)
abbrev kM_Shelf_isEmpty : kv_MI := (⟨"KeptLump$Shelf", "isEmpty", "()Z"⟩, prog_9_method_2_code, 1, (some .boolean))
abbrev kM_Shelf_isLost : kv_MI := (⟨"KeptLump$Shelf", "isLost", "(I)Z"⟩, prog_9_method_9_code, 3, (some .boolean))
abbrev kM_Shelf_isRow : kv_MI := (⟨"KeptLump$Shelf", "isRow", "()Z"⟩, prog_9_method_3_code, 1, (some .boolean))
abbrev kM_Shelf_leastNumber : kv_MI := (⟨"KeptLump$Shelf", "leastNumber", "()I"⟩, prog_9_method_8_code, 1, (some .int))
abbrev kM_Shelf_narrowed : kv_MI := (⟨"KeptLump$Shelf", "narrowed", "(I)I"⟩, prog_9_method_7_code, 2, (some .int))
abbrev kM_State_draw : kv_MI := (⟨"KeptLump$State", "draw", "(I)I"⟩, prog_10_method_4_code, 2, (some .int))
abbrev kM_State_exchangeHigh : kv_MI := (⟨"KeptLump$State", "exchangeHigh", "(I)I"⟩, prog_10_method_3_code, 3, (some .int))
abbrev kM_State_exchangeLow : kv_MI := (⟨"KeptLump$State", "exchangeLow", "(I)I"⟩, prog_10_method_2_code, 3, (some .int))
abbrev kM_State_takeFrom : kv_MI := (⟨"KeptLump$State", "takeFrom", "(LKeptLump$State;)V"⟩, prog_10_method_5_code, 2, none)
abbrev kM_Weighings_add : kv_MI := (⟨"KeptLump$Weighings", "add", "(IIIII)I"⟩, prog_11_method_3_code, 7, (some .int))
abbrev kM_Weighings_counts : kv_MI := (⟨"KeptLump$Weighings", "counts", "(II)Z"⟩, prog_11_method_4_code, 3, (some .boolean))
abbrev kM_Weighings_greatest : kv_MI := (⟨"KeptLump$Weighings", "greatest", "(I)I"⟩, prog_11_method_6_code, 2, (some .int))
abbrev kM_Weighings_has : kv_MI := (⟨"KeptLump$Weighings", "has", "(I)Z"⟩, prog_11_method_2_code, 2, (some .boolean))
abbrev kM_Weighings_howManyOut : kv_MI := (⟨"KeptLump$Weighings", "howManyOut", "()I"⟩, prog_11_method_9_code, 3, (some .int))
abbrev kM_Weighings_least : kv_MI := (⟨"KeptLump$Weighings", "least", "(I)I"⟩, prog_11_method_5_code, 2, (some .int))
abbrev kM_Weighings_takeFrom : kv_MI := (⟨"KeptLump$Weighings", "takeFrom", "(LKeptLump$Weighings;)V"⟩, prog_11_method_10_code, 3, none)
abbrev kM_Weighings_touch : kv_MI := (⟨"KeptLump$Weighings", "touch", "(I)V"⟩, prog_11_method_7_code, 2, none)
abbrev kM_Weighings_touchesLeft : kv_MI := (⟨"KeptLump$Weighings", "touchesLeft", "(I)I"⟩, prog_11_method_8_code, 4, (some .int))
abbrev kM_D_agree : kv_MI := (⟨"KeptLumpModel", "agree", "(II)I"⟩, prog_13_method_76_code, 4, (some .int))
abbrev kM_D_agrees : kv_MI := (⟨"KeptLumpModel", "agrees", "(III)Z"⟩, prog_13_method_74_code, 5, (some .boolean))
abbrev kM_D_answer : kv_MI := (⟨"KeptLumpModel", "answer", "(III)I"⟩, prog_13_method_35_code, 4, (some .int))
abbrev kM_D_apart : kv_MI := (⟨"KeptLumpModel", "apart", "(IIII)I"⟩, prog_13_method_36_code, 5, (some .int))
abbrev kM_D_atom : kv_MI := (⟨"KeptLumpModel", "atom", "()I"⟩, prog_13_method_63_code, 3, (some .int))
abbrev kM_D_becomes : kv_MI := (⟨"KeptLumpModel", "becomes", "(II)I"⟩, prog_13_method_8_code, 4, (some .int))
abbrev kM_D_begins : kv_MI := (⟨"KeptLumpModel", "begins", "(I)V"⟩, prog_13_method_29_code, 4, none)
abbrev kM_D_binds : kv_MI := (⟨"KeptLumpModel", "binds", "(IIJJ)V"⟩, prog_13_method_30_code, 7, none)
abbrev kM_D_bindsYear : kv_MI := (⟨"KeptLumpModel", "bindsYear", "(II)V"⟩, prog_13_method_33_code, 4, none)
abbrev kM_D_bits : kv_MI := (⟨"KeptLumpModel", "bits", "(I)I"⟩, prog_13_method_47_code, 3, (some .int))
abbrev kM_D_care : kv_MI := (⟨"KeptLumpModel", "care", "(I)I"⟩, prog_13_method_93_code, 3, (some .int))
abbrev kM_D_careOf : kv_MI := (⟨"KeptLumpModel", "careOf", "(I)I"⟩, prog_13_method_86_code, 3, (some .int))
abbrev kM_D_chain : kv_MI := (⟨"KeptLumpModel", "chain", "(II)I"⟩, prog_13_method_73_code, 3, (some .int))
abbrev kM_D_chainOf : kv_MI := (⟨"KeptLumpModel", "chainOf", "(II)I"⟩, prog_13_method_72_code, 5, (some .int))
abbrev kM_D_closes : kv_MI := (⟨"KeptLumpModel", "closes", "()Z"⟩, prog_13_method_31_code, 8, (some .boolean))
abbrev kM_D_copy : kv_MI := (⟨"KeptLumpModel", "copy", "(IIIII)I"⟩, prog_13_method_91_code, 8, (some .int))
abbrev kM_D_count : kv_MI := (⟨"KeptLumpModel", "count", "(I)I"⟩, prog_13_method_85_code, 4, (some .int))
abbrev kM_D_element : kv_MI := (⟨"KeptLumpModel", "element", "(II)J"⟩, prog_13_method_90_code, 3, (some .long))
abbrev kM_D_fits : kv_MI := (⟨"KeptLumpModel", "fits", "(I)I"⟩, prog_13_method_43_code, 2, (some .int))
abbrev kM_D_fitsLong : kv_MI := (⟨"KeptLumpModel", "fitsLong", "(IIII)Z"⟩, prog_13_method_40_code, 11, (some .boolean))
abbrev kM_D_fitsLongNow : kv_MI := (⟨"KeptLumpModel", "fitsLongNow", "()Z"⟩, prog_13_method_41_code, 1, (some .boolean))
abbrev kM_D_fitsYear : kv_MI := (⟨"KeptLumpModel", "fitsYear", "(I)Z"⟩, prog_13_method_34_code, 2, (some .boolean))
abbrev kM_D_get : kv_MI := (⟨"KeptLumpModel", "get", "(II)I"⟩, prog_13_method_7_code, 3, (some .int))
abbrev kM_D_go : kv_MI := (⟨"KeptLumpModel", "go", "(I)I"⟩, prog_13_method_15_code, 4, (some .int))
abbrev kM_D_grows : kv_MI := (⟨"KeptLumpModel", "grows", "(II)I"⟩, prog_13_method_16_code, 3, (some .int))
abbrev kM_D_growth : kv_MI := (⟨"KeptLumpModel", "growth", "(II)I"⟩, prog_13_method_14_code, 5, (some .int))
abbrev kM_D_hear : kv_MI := (⟨"KeptLumpModel", "hear", "(I)I"⟩, prog_13_method_23_code, 8, (some .int))
abbrev kM_D_image : kv_MI := (⟨"KeptLumpModel", "image", "()I"⟩, prog_13_method_83_code, 2, (some .int))
abbrev kM_D_isAsked : kv_MI := (⟨"KeptLumpModel", "isAsked", "(I)Z"⟩, prog_13_method_39_code, 2, (some .boolean))
abbrev kM_D_isChain : kv_MI := (⟨"KeptLumpModel", "isChain", "(I)Z"⟩, prog_13_method_70_code, 1, (some .boolean))
abbrev kM_D_isField : kv_MI := (⟨"KeptLumpModel", "isField", "(I)Z"⟩, prog_13_method_55_code, 1, (some .boolean))
abbrev kM_D_isIn : kv_MI := (⟨"KeptLumpModel", "isIn", "(JJJ)Z"⟩, prog_13_method_3_code, 6, (some .boolean))
abbrev kM_D_isLet : kv_MI := (⟨"KeptLumpModel", "isLet", "(IIIII)Z"⟩, prog_13_method_48_code, 10, (some .boolean))
abbrev kM_D_isLost : kv_MI := (⟨"KeptLumpModel", "isLost", "(II)Z"⟩, prog_13_method_22_code, 5, (some .boolean))
abbrev kM_D_isLump : kv_MI := (⟨"KeptLumpModel", "isLump", "(I)Z"⟩, prog_13_method_4_code, 2, (some .boolean))
abbrev kM_D_isPair : kv_MI := (⟨"KeptLumpModel", "isPair", "(I)Z"⟩, prog_13_method_45_code, 2, (some .boolean))
abbrev kM_D_isShelf : kv_MI := (⟨"KeptLumpModel", "isShelf", "(I)Z"⟩, prog_13_method_6_code, 1, (some .boolean))
abbrev kM_D_isWeighing : kv_MI := (⟨"KeptLumpModel", "isWeighing", "(I)Z"⟩, prog_13_method_24_code, 2, (some .boolean))
abbrev kM_D_isYear : kv_MI := (⟨"KeptLumpModel", "isYear", "(I)Z"⟩, prog_13_method_5_code, 1, (some .boolean))
abbrev kM_D_keep : kv_MI := (⟨"KeptLumpModel", "keep", "(III)I"⟩, prog_13_method_87_code, 5, (some .int))
abbrev kM_D_labelOf : kv_MI := (⟨"KeptLumpModel", "labelOf", "(II)I"⟩, prog_13_method_38_code, 3, (some .int))
abbrev kM_D_link : kv_MI := (⟨"KeptLumpModel", "link", "(IIII)I"⟩, prog_13_method_71_code, 6, (some .int))
abbrev kM_D_links : kv_MI := (⟨"KeptLumpModel", "links", "(I)I"⟩, prog_13_method_69_code, 2, (some .int))
abbrev kM_D_longApart : kv_MI := (⟨"KeptLumpModel", "longApart", "(IIIII)I"⟩, prog_13_method_42_code, 6, (some .int))
abbrev kM_D_lump : kv_MI := (⟨"KeptLumpModel", "lump", "(III)I"⟩, prog_13_method_10_code, 6, (some .int))
abbrev kM_D_meanOf : kv_MI := (⟨"KeptLumpModel", "meanOf", "(II)I"⟩, prog_13_method_60_code, 6, (some .int))
abbrev kM_D_moves : kv_MI := (⟨"KeptLumpModel", "moves", "(II)I"⟩, prog_13_method_68_code, 5, (some .int))
abbrev kM_D_needed : kv_MI := (⟨"KeptLumpModel", "needed", "()I"⟩, prog_13_method_44_code, 3, (some .int))
abbrev kM_D_nodeOf : kv_MI := (⟨"KeptLumpModel", "nodeOf", "(II)I"⟩, prog_13_method_37_code, 4, (some .int))
abbrev kM_D_of : kv_MI := (⟨"KeptLumpModel", "of", "(II)I"⟩, prog_13_method_12_code, 3, (some .int))
abbrev kM_D_one : kv_MI := (⟨"KeptLumpModel", "one", "()I"⟩, prog_13_method_66_code, 1, (some .int))
abbrev kM_D_oneBy : kv_MI := (⟨"KeptLumpModel", "oneBy", "([III)I"⟩, prog_13_method_64_code, 9, (some .int))
abbrev kM_D_oneNow : kv_MI := (⟨"KeptLumpModel", "oneNow", "()I"⟩, prog_13_method_65_code, 1, (some .int))
abbrev kM_D_out : kv_MI := (⟨"KeptLumpModel", "out", "(IZ)I"⟩, prog_13_method_27_code, 4, (some .int))
abbrev kM_D_pairAt : kv_MI := (⟨"KeptLumpModel", "pairAt", "(II)I"⟩, prog_13_method_79_code, 3, (some .int))
abbrev kM_D_plan : kv_MI := (⟨"KeptLumpModel", "plan", "(IIII)I"⟩, prog_13_method_82_code, 12, (some .int))
abbrev kM_D_primeOf : kv_MI := (⟨"KeptLumpModel", "primeOf", "()I"⟩, prog_13_method_9_code, 2, (some .int))
abbrev kM_D_primesIn : kv_MI := (⟨"KeptLumpModel", "primesIn", "(II)I"⟩, prog_13_method_81_code, 5, (some .int))
abbrev kM_D_product : kv_MI := (⟨"KeptLumpModel", "product", "()I"⟩, prog_13_method_62_code, 4, (some .int))
abbrev kM_D_put : kv_MI := (⟨"KeptLumpModel", "put", "(III)I"⟩, prog_13_method_89_code, 5, (some .int))
abbrev kM_D_reads : kv_MI := (⟨"KeptLumpModel", "reads", "(I)I"⟩, prog_13_method_58_code, 5, (some .int))
abbrev kM_D_readsAtom : kv_MI := (⟨"KeptLumpModel", "readsAtom", "()Z"⟩, prog_13_method_56_code, 1, (some .boolean))
abbrev kM_D_readsNumber : kv_MI := (⟨"KeptLumpModel", "readsNumber", "()Z"⟩, prog_13_method_52_code, 2, (some .boolean))
abbrev kM_D_readsProduct : kv_MI := (⟨"KeptLumpModel", "readsProduct", "()Z"⟩, prog_13_method_54_code, 1, (some .boolean))
abbrev kM_D_readsStatement : kv_MI := (⟨"KeptLumpModel", "readsStatement", "()Z"⟩, prog_13_method_57_code, 1, (some .boolean))
abbrev kM_D_readsSum : kv_MI := (⟨"KeptLumpModel", "readsSum", "()Z"⟩, prog_13_method_53_code, 1, (some .boolean))
abbrev kM_D_restore : kv_MI := (⟨"KeptLumpModel", "restore", "()I"⟩, prog_13_method_84_code, 2, (some .int))
abbrev kM_D_row : kv_MI := (⟨"KeptLumpModel", "row", "(III)I"⟩, prog_13_method_88_code, 5, (some .int))
abbrev kM_D_say : kv_MI := (⟨"KeptLumpModel", "say", "(II)I"⟩, prog_13_method_25_code, 3, (some .int))
abbrev kM_D_seed : kv_MI := (⟨"KeptLumpModel", "seed", "(I)I"⟩, prog_13_method_17_code, 2, (some .int))
abbrev kM_D_set : kv_MI := (⟨"KeptLumpModel", "set", "(III)I"⟩, prog_13_method_11_code, 4, (some .int))
abbrev kM_D_sign : kv_MI := (⟨"KeptLumpModel", "sign", "()I"⟩, prog_13_method_50_code, 1, (some .int))
abbrev kM_D_spreadBy : kv_MI := (⟨"KeptLumpModel", "spreadBy", "(III)J"⟩, prog_13_method_80_code, 10, (some .long))
abbrev kM_D_stories : kv_MI := (⟨"KeptLumpModel", "stories", "(IIII)I"⟩, prog_13_method_49_code, 10, (some .int))
abbrev kM_D_sumOf : kv_MI := (⟨"KeptLumpModel", "sumOf", "()I"⟩, prog_13_method_61_code, 4, (some .int))
abbrev kM_D_swapped : kv_MI := (⟨"KeptLumpModel", "swapped", "(II)I"⟩, prog_13_method_46_code, 5, (some .int))
abbrev kM_D_takes : kv_MI := (⟨"KeptLumpModel", "takes", "(I)Z"⟩, prog_13_method_51_code, 2, (some .boolean))
abbrev kM_D_tells : kv_MI := (⟨"KeptLumpModel", "tells", "(IIIII)V"⟩, prog_13_method_19_code, 7, none)
abbrev kM_D_thrown : kv_MI := (⟨"KeptLumpModel", "thrown", "()I"⟩, prog_13_method_2_code, 1, (some .int))
abbrev kM_D_toss : kv_MI := (⟨"KeptLumpModel", "toss", "(I)I"⟩, prog_13_method_94_code, 3, (some .int))
abbrev kM_D_touches : kv_MI := (⟨"KeptLumpModel", "touches", "()I"⟩, prog_13_method_28_code, 1, (some .int))
abbrev kM_D_touchesLeft : kv_MI := (⟨"KeptLumpModel", "touchesLeft", "()I"⟩, prog_13_method_18_code, 3, (some .int))
abbrev kM_D_wash : kv_MI := (⟨"KeptLumpModel", "wash", "(II)I"⟩, prog_13_method_13_code, 4, (some .int))
abbrev kM_D_weigh : kv_MI := (⟨"KeptLumpModel", "weigh", "(IIII)I"⟩, prog_13_method_20_code, 7, (some .int))
abbrev kM_D_weighing : kv_MI := (⟨"KeptLumpModel", "weighing", "(II)I"⟩, prog_13_method_26_code, 3, (some .int))
abbrev kM_D_weighs : kv_MI := (⟨"KeptLumpModel", "weighs", "(III)V"⟩, prog_13_method_32_code, 4, none)
abbrev kM_D_when : kv_MI := (⟨"KeptLumpModel", "when", "(I)I"⟩, prog_13_method_78_code, 6, (some .int))
abbrev kM_D_words : kv_MI := (⟨"KeptLumpModel", "words", "(I)I"⟩, prog_13_method_59_code, 5, (some .int))
abbrev kM_D_worth : kv_MI := (⟨"KeptLumpModel", "worth", "(I)I"⟩, prog_13_method_67_code, 2, (some .int))
abbrev kM_D_wrong : kv_MI := (⟨"KeptLumpModel", "wrong", "(III)I"⟩, prog_13_method_77_code, 8, (some .int))
abbrev kM_D_wrongChains : kv_MI := (⟨"KeptLumpModel", "wrongChains", "(II)I"⟩, prog_13_method_75_code, 3, (some .int))
abbrev kM_D_wrongKept : kv_MI := (⟨"KeptLumpModel", "wrongKept", "(I)I"⟩, prog_13_method_92_code, 2, (some .int))
abbrev kM_D_wrongRow : kv_MI := (⟨"KeptLumpModel", "wrongRow", "(II)I"⟩, prog_13_method_21_code, 3, (some .int))
abbrev kM_Int_bitCount : kv_MI := (⟨"java/lang/Integer", "bitCount", "(I)I"⟩, prog_17_method_49_code, 1, (some .int))
abbrev kM_Arr_fill : kv_MI := (⟨"java/util/Arrays", "fill", "([II)V"⟩, prog_23_method_103_code, 4, none)
theorem ko_K_arePairs : kv_okV kM_K_arePairs 1 := ⟨kw_988, kw_16, kw_69, kw_989, ⟨by decide, by decide⟩, by decide +kernel, by decide⟩
theorem ko_K_boundByYear : kv_okV kM_K_boundByYear 2 := ⟨kw_680, kw_3, kw_69, kw_681, ⟨by decide, by decide⟩, by decide +kernel, by decide⟩
theorem ko_K_bounded : kv_okV kM_K_bounded 3 := ⟨kw_708, kw_4, kw_69, kw_709, ⟨by decide, by decide⟩, by decide +kernel, by decide⟩
theorem ko_K_bytesRefusal : kv_okV kM_K_bytesRefusal 1 := ⟨kw_843, kw_11, kw_69, kw_844, ⟨by decide, by decide⟩, by decide +kernel, by decide⟩
theorem ko_K_chainsRefusal : kv_okV kM_K_chainsRefusal 2 := ⟨kw_949, kw_15, kw_69, kw_950, ⟨by decide, by decide⟩, by decide +kernel, by decide⟩
theorem ko_K_exchange : kv_okS kM_K_exchange 3 := ⟨kw_528, kw_69, kw_529, ⟨by decide, by decide⟩, by decide +kernel, by decide⟩
theorem ko_K_hearOne : kv_okV kM_K_hearOne 2 := ⟨kw_652, kw_2, kw_69, kw_653, ⟨by decide, by decide⟩, by decide +kernel, by decide⟩
theorem ko_K_isChain : kv_okS kM_K_isChain 1 := ⟨kw_925, kw_69, kw_926, ⟨by decide, by decide⟩, by decide +kernel, by decide⟩
theorem ko_K_isDoubt : kv_okS kM_K_isDoubt 1 := ⟨kw_595, kw_69, kw_596, ⟨by decide, by decide⟩, by decide +kernel, by decide⟩
theorem ko_K_isOrderedPair : kv_okV kM_K_isOrderedPair 1 := ⟨kw_805, kw_7, kw_69, kw_806, ⟨by decide, by decide⟩, by decide +kernel, by decide⟩
theorem ko_K_isShelf : kv_okS kM_K_isShelf 1 := ⟨kw_625, kw_69, kw_626, ⟨by decide, by decide⟩, by decide +kernel, by decide⟩
theorem ko_K_isStorySet : kv_okV kM_K_isStorySet 1 := ⟨kw_818, kw_9, kw_69, kw_819, ⟨by decide, by decide⟩, by decide +kernel, by decide⟩
theorem ko_K_isTold : kv_okV kM_K_isTold 2 := ⟨kw_646, kw_1, kw_69, kw_647, ⟨by decide, by decide⟩, by decide +kernel, by decide⟩
theorem ko_K_isWithin : kv_okS kM_K_isWithin 3 := ⟨kw_513, kw_69, kw_514, ⟨by decide, by decide⟩, by decide +kernel, by decide⟩
theorem ko_K_isYear : kv_okS kM_K_isYear 1 := ⟨kw_578, kw_69, kw_579, ⟨by decide, by decide⟩, by decide +kernel, by decide⟩
theorem ko_K_longNetHolds : kv_okV kM_K_longNetHolds 0 := ⟨kw_789, kw_5, kw_69, kw_790, ⟨by decide, by decide⟩, by decide +kernel, by decide⟩
theorem ko_K_longNetHoldsSwapped : kv_okV kM_K_longNetHoldsSwapped 3 := ⟨kw_809, kw_8, kw_69, kw_810, ⟨by decide, by decide⟩, by decide +kernel, by decide⟩
theorem ko_K_longNetHoldsWithout : kv_okV kM_K_longNetHoldsWithout 1 := ⟨kw_797, kw_6, kw_69, kw_798, ⟨by decide, by decide⟩, by decide +kernel, by decide⟩
theorem ko_K_lumpRefusal : kv_okV kM_K_lumpRefusal 1 := ⟨kw_1131, kw_17, kw_69, kw_1132, ⟨by decide, by decide⟩, by decide +kernel, by decide⟩
theorem ko_K_rowRefusal : kv_okV kM_K_rowRefusal 1 := ⟨kw_622, kw_0, kw_69, kw_623, ⟨by decide, by decide⟩, by decide +kernel, by decide⟩
theorem ko_K_storiesOf : kv_okS kM_K_storiesOf 1 := ⟨kw_827, kw_69, kw_828, ⟨by decide, by decide⟩, by decide +kernel, by decide⟩
theorem ko_K_tellStory : kv_okV kM_K_tellStory 3 := ⟨kw_835, kw_10, kw_69, kw_836, ⟨by decide, by decide⟩, by decide +kernel, by decide⟩
theorem ko_Chains_add : kv_okV kM_Chains_add 4 := ⟨kw_928, kw_929, kw_74, kw_930, ⟨by decide, by decide⟩, by decide +kernel, by decide⟩
theorem ko_Chains_allLinks : kv_okV kM_Chains_allLinks 0 := ⟨kw_1084, kw_1085, kw_74, kw_1086, ⟨by decide, by decide⟩, by decide +kernel, by decide⟩
theorem ko_Chains_doubtOf : kv_okV kM_Chains_doubtOf 1 := ⟨kw_940, kw_941, kw_74, kw_942, ⟨by decide, by decide⟩, by decide +kernel, by decide⟩
theorem ko_Chains_lack : kv_okV kM_Chains_lack 2 := ⟨kw_952, kw_953, kw_74, kw_954, ⟨by decide, by decide⟩, by decide +kernel, by decide⟩
theorem ko_Chains_linksThatMend : kv_okV kM_Chains_linksThatMend 2 := ⟨kw_965, kw_966, kw_74, kw_967, ⟨by decide, by decide⟩, by decide +kernel, by decide⟩
theorem ko_Chains_sum : kv_okV kM_Chains_sum 1 := ⟨kw_936, kw_937, kw_74, kw_938, ⟨by decide, by decide⟩, by decide +kernel, by decide⟩
theorem ko_Chains_takeFrom : kv_okV kM_Chains_takeFrom 1 := ⟨kw_1066, kw_1067, kw_74, kw_1068, ⟨by decide, by decide⟩, by decide +kernel, by decide⟩
theorem ko_Chains_willDo : kv_okV kM_Chains_willDo 2 := ⟨kw_973, kw_974, kw_74, kw_975, ⟨by decide, by decide⟩, by decide +kernel, by decide⟩
theorem ko_Law_write : kv_okV kM_Law_write 3 := ⟨kw_903, kw_904, kw_73, kw_905, ⟨by decide, by decide⟩, by decide +kernel, by decide⟩
theorem ko_LongNet_addKnot : kv_okV kM_LongNet_addKnot 2 := ⟨kw_743, kw_744, kw_78, kw_745, ⟨by decide, by decide⟩, by decide +kernel, by decide⟩
theorem ko_LongNet_boundByGrowth : kv_okV kM_LongNet_boundByGrowth 2 := ⟨kw_779, kw_780, kw_78, kw_781, ⟨by decide, by decide⟩, by decide +kernel, by decide⟩
theorem ko_LongNet_boundByWeighing : kv_okV kM_LongNet_boundByWeighing 3 := ⟨kw_768, kw_769, kw_78, kw_770, ⟨by decide, by decide⟩, by decide +kernel, by decide⟩
theorem ko_LongNet_build : kv_okV kM_LongNet_build 2 := ⟨kw_754, kw_755, kw_78, kw_756, ⟨by decide, by decide⟩, by decide +kernel, by decide⟩
theorem ko_LongNet_isSaid : kv_okV kM_LongNet_isSaid 2 := ⟨kw_758, kw_759, kw_78, kw_760, ⟨by decide, by decide⟩, by decide +kernel, by decide⟩
theorem ko_LongNet_knotAt : kv_okV kM_LongNet_knotAt 2 := ⟨kw_772, kw_773, kw_78, kw_774, ⟨by decide, by decide⟩, by decide +kernel, by decide⟩
theorem ko_LongNet_meant : kv_okV kM_LongNet_meant 2 := ⟨kw_762, kw_763, kw_78, kw_764, ⟨by decide, by decide⟩, by decide +kernel, by decide⟩
theorem ko_LongNet_placeOf : kv_okV kM_LongNet_placeOf 1 := ⟨kw_747, kw_748, kw_78, kw_749, ⟨by decide, by decide⟩, by decide +kernel, by decide⟩
theorem ko_LongNet_start : kv_okV kM_LongNet_start 0 := ⟨kw_735, kw_736, kw_78, kw_737, ⟨by decide, by decide⟩, by decide +kernel, by decide⟩
theorem ko_LongNet_swapFrom : kv_okV kM_LongNet_swapFrom 3 := ⟨kw_739, kw_740, kw_78, kw_741, ⟨by decide, by decide⟩, by decide +kernel, by decide⟩
theorem ko_Lumps_add : kv_okV kM_Lumps_add 4 := ⟨kw_520, kw_521, kw_71, kw_522, ⟨by decide, by decide⟩, by decide +kernel, by decide⟩
theorem ko_Lumps_growAll : kv_okV kM_Lumps_growAll 1 := ⟨kw_561, kw_562, kw_71, kw_563, ⟨by decide, by decide⟩, by decide +kernel, by decide⟩
theorem ko_Lumps_growth : kv_okV kM_Lumps_growth 2 := ⟨kw_565, kw_566, kw_71, kw_567, ⟨by decide, by decide⟩, by decide +kernel, by decide⟩
theorem ko_Lumps_has : kv_okV kM_Lumps_has 1 := ⟨kw_544, kw_545, kw_71, kw_546, ⟨by decide, by decide⟩, by decide +kernel, by decide⟩
theorem ko_Lumps_hasPair : kv_okV kM_Lumps_hasPair 2 := ⟨kw_590, kw_591, kw_71, kw_592, ⟨by decide, by decide⟩, by decide +kernel, by decide⟩
theorem ko_Lumps_isFreshlyWashed : kv_okV kM_Lumps_isFreshlyWashed 2 := ⟨kw_569, kw_570, kw_71, kw_571, ⟨by decide, by decide⟩, by decide +kernel, by decide⟩
theorem ko_Lumps_mean : kv_okV kM_Lumps_mean 2 := ⟨kw_855, kw_856, kw_71, kw_857, ⟨by decide, by decide⟩, by decide +kernel, by decide⟩
theorem ko_Lumps_primeAt : kv_okV kM_Lumps_primeAt 0 := ⟨kw_516, kw_517, kw_71, kw_518, ⟨by decide, by decide⟩, by decide +kernel, by decide⟩
theorem ko_Lumps_takeFrom : kv_okV kM_Lumps_takeFrom 1 := ⟨kw_1055, kw_1056, kw_71, kw_1057, ⟨by decide, by decide⟩, by decide +kernel, by decide⟩
theorem ko_Lumps_washOff : kv_okV kM_Lumps_washOff 3 := ⟨kw_553, kw_554, kw_71, kw_555, ⟨by decide, by decide⟩, by decide +kernel, by decide⟩
theorem ko_Net_addEdge : kv_okV kM_Net_addEdge 3 := ⟨kw_699, kw_700, kw_77, kw_701, ⟨by decide, by decide⟩, by decide +kernel, by decide⟩
theorem ko_Net_bound : kv_okV kM_Net_bound 4 := ⟨kw_695, kw_696, kw_77, kw_697, ⟨by decide, by decide⟩, by decide +kernel, by decide⟩
theorem ko_Net_cutTo : kv_okV kM_Net_cutTo 1 := ⟨kw_830, kw_831, kw_77, kw_832, ⟨by decide, by decide⟩, by decide +kernel, by decide⟩
theorem ko_Net_greatestOf : kv_okV kM_Net_greatestOf 2 := ⟨kw_726, kw_727, kw_77, kw_728, ⟨by decide, by decide⟩, by decide +kernel, by decide⟩
theorem ko_Net_holds : kv_okV kM_Net_holds 0 := ⟨kw_711, kw_712, kw_77, kw_713, ⟨by decide, by decide⟩, by decide +kernel, by decide⟩
theorem ko_Net_isKnot : kv_okV kM_Net_isKnot 1 := ⟨kw_703, kw_704, kw_77, kw_705, ⟨by decide, by decide⟩, by decide +kernel, by decide⟩
theorem ko_Net_settles : kv_okV kM_Net_settles 0 := ⟨kw_716, kw_717, kw_77, kw_718, ⟨by decide, by decide⟩, by decide +kernel, by decide⟩
theorem ko_Net_shortens : kv_okV kM_Net_shortens 0 := ⟨kw_720, kw_721, kw_77, kw_722, ⟨by decide, by decide⟩, by decide +kernel, by decide⟩
theorem ko_Net_start : kv_okV kM_Net_start 1 := ⟨kw_675, kw_676, kw_77, kw_677, ⟨by decide, by decide⟩, by decide +kernel, by decide⟩
theorem ko_Planner_choose : kv_okV kM_Planner_choose 0 := ⟨kw_1017, kw_1018, kw_80, kw_1019, ⟨by decide, by decide⟩, by decide +kernel, by decide⟩
theorem ko_Planner_has : kv_okV kM_Planner_has 2 := ⟨kw_1025, kw_1026, kw_80, kw_1027, ⟨by decide, by decide⟩, by decide +kernel, by decide⟩
theorem ko_Planner_isAllowed : kv_okV kM_Planner_isAllowed 1 := ⟨kw_1021, kw_1022, kw_80, kw_1023, ⟨by decide, by decide⟩, by decide +kernel, by decide⟩
theorem ko_Planner_judge : kv_okV kM_Planner_judge 1 := ⟨kw_1039, kw_1040, kw_80, kw_1041, ⟨by decide, by decide⟩, by decide +kernel, by decide⟩
theorem ko_Planner_learn : kv_okV kM_Planner_learn 1 := ⟨kw_996, kw_997, kw_80, kw_998, ⟨by decide, by decide⟩, by decide +kernel, by decide⟩
theorem ko_Planner_learnOne : kv_okV kM_Planner_learnOne 2 := ⟨kw_1003, kw_1004, kw_80, kw_1005, ⟨by decide, by decide⟩, by decide +kernel, by decide⟩
theorem ko_Planner_narrow : kv_okV kM_Planner_narrow 4 := ⟨kw_1008, kw_1009, kw_80, kw_1010, ⟨by decide, by decide⟩, by decide +kernel, by decide⟩
theorem ko_Planner_shortenFrom : kv_okV kM_Planner_shortenFrom 4 := ⟨kw_1012, kw_1013, kw_80, kw_1014, ⟨by decide, by decide⟩, by decide +kernel, by decide⟩
theorem ko_Planner_tell : kv_okV kM_Planner_tell 4 := ⟨kw_991, kw_992, kw_80, kw_993, ⟨by decide, by decide⟩, by decide +kernel, by decide⟩
theorem ko_Planner_tries : kv_okV kM_Planner_tries 1 := ⟨kw_1030, kw_1031, kw_80, kw_1032, ⟨by decide, by decide⟩, by decide +kernel, by decide⟩
theorem ko_Planner_tryOne : kv_okV kM_Planner_tryOne 1 := ⟨kw_1035, kw_1036, kw_80, kw_1037, ⟨by decide, by decide⟩, by decide +kernel, by decide⟩
theorem ko_Planner_widths : kv_okV kM_Planner_widths 0 := ⟨kw_1043, kw_1044, kw_80, kw_1045, ⟨by decide, by decide⟩, by decide +kernel, by decide⟩
theorem ko_Reader_atom : kv_okV kM_Reader_atom 1 := ⟨kw_892, kw_14, kw_79, kw_893, ⟨by decide, by decide⟩, by decide +kernel, by decide⟩
theorem ko_Reader_expect : kv_okV kM_Reader_expect 1 := ⟨kw_879, kw_880, kw_79, kw_881, ⟨by decide, by decide⟩, by decide +kernel, by decide⟩
theorem ko_Reader_faultTold : kv_okV kM_Reader_faultTold 0 := ⟨kw_899, kw_900, kw_79, kw_901, ⟨by decide, by decide⟩, by decide +kernel, by decide⟩
theorem ko_Reader_isAt : kv_okV kM_Reader_isAt 1 := ⟨kw_875, kw_876, kw_79, kw_877, ⟨by decide, by decide⟩, by decide +kernel, by decide⟩
theorem ko_Reader_isAtDigit : kv_okV kM_Reader_isAtDigit 0 := ⟨kw_867, kw_868, kw_79, kw_869, ⟨by decide, by decide⟩, by decide +kernel, by decide⟩
theorem ko_Reader_number : kv_okV kM_Reader_number 0 := ⟨kw_863, kw_864, kw_79, kw_865, ⟨by decide, by decide⟩, by decide +kernel, by decide⟩
theorem ko_Reader_over : kv_okV kM_Reader_over 2 := ⟨kw_895, kw_896, kw_79, kw_897, ⟨by decide, by decide⟩, by decide +kernel, by decide⟩
theorem ko_Reader_product : kv_okV kM_Reader_product 1 := ⟨kw_888, kw_13, kw_79, kw_889, ⟨by decide, by decide⟩, by decide +kernel, by decide⟩
theorem ko_Reader_read : kv_okV kM_Reader_read 3 := ⟨kw_846, kw_847, kw_79, kw_848, ⟨by decide, by decide⟩, by decide +kernel, by decide⟩
theorem ko_Reader_start : kv_okV kM_Reader_start 3 := ⟨kw_850, kw_851, kw_79, kw_852, ⟨by decide, by decide⟩, by decide +kernel, by decide⟩
theorem ko_Reader_statement : kv_okV kM_Reader_statement 0 := ⟨kw_859, kw_860, kw_79, kw_861, ⟨by decide, by decide⟩, by decide +kernel, by decide⟩
theorem ko_Reader_stop : kv_okV kM_Reader_stop 0 := ⟨kw_871, kw_872, kw_79, kw_873, ⟨by decide, by decide⟩, by decide +kernel, by decide⟩
theorem ko_Reader_sum : kv_okV kM_Reader_sum 1 := ⟨kw_884, kw_12, kw_79, kw_885, ⟨by decide, by decide⟩, by decide +kernel, by decide⟩
theorem ko_Shelf_careWanted : kv_okV kM_Shelf_careWanted 0 := ⟨kw_1134, kw_1135, kw_76, kw_1136, ⟨by decide, by decide⟩, by decide +kernel, by decide⟩
theorem ko_Shelf_clear : kv_okV kM_Shelf_clear 0 := ⟨kw_1092, kw_1093, kw_76, kw_1094, ⟨by decide, by decide⟩, by decide +kernel, by decide⟩
theorem ko_Shelf_hasPart : kv_okV kM_Shelf_hasPart 2 := ⟨kw_1121, kw_1122, kw_76, kw_1123, ⟨by decide, by decide⟩, by decide +kernel, by decide⟩
theorem ko_Shelf_holdLump : kv_okV kM_Shelf_holdLump 2 := ⟨kw_1096, kw_1097, kw_76, kw_1098, ⟨by decide, by decide⟩, by decide +kernel, by decide⟩
theorem ko_Shelf_holdRow : kv_okV kM_Shelf_holdRow 2 := ⟨kw_1104, kw_1105, kw_76, kw_1106, ⟨by decide, by decide⟩, by decide +kernel, by decide⟩
theorem ko_Shelf_isEmpty : kv_okV kM_Shelf_isEmpty 0 := ⟨kw_628, kw_629, kw_76, kw_630, ⟨by decide, by decide⟩, by decide +kernel, by decide⟩
theorem ko_Shelf_isLost : kv_okV kM_Shelf_isLost 1 := ⟨kw_636, kw_637, kw_76, kw_638, ⟨by decide, by decide⟩, by decide +kernel, by decide⟩
theorem ko_Shelf_isRow : kv_okV kM_Shelf_isRow 0 := ⟨kw_632, kw_633, kw_76, kw_634, ⟨by decide, by decide⟩, by decide +kernel, by decide⟩
theorem ko_Shelf_leastNumber : kv_okV kM_Shelf_leastNumber 0 := ⟨kw_640, kw_641, kw_76, kw_642, ⟨by decide, by decide⟩, by decide +kernel, by decide⟩
theorem ko_Shelf_narrowed : kv_okV kM_Shelf_narrowed 1 := ⟨kw_1113, kw_1114, kw_76, kw_1115, ⟨by decide, by decide⟩, by decide +kernel, by decide⟩
theorem ko_State_draw : kv_okV kM_State_draw 1 := ⟨kw_602, kw_603, kw_70, kw_604, ⟨by decide, by decide⟩, by decide +kernel, by decide⟩
theorem ko_State_exchangeHigh : kv_okV kM_State_exchangeHigh 1 := ⟨kw_536, kw_537, kw_70, kw_538, ⟨by decide, by decide⟩, by decide +kernel, by decide⟩
theorem ko_State_exchangeLow : kv_okV kM_State_exchangeLow 1 := ⟨kw_532, kw_533, kw_70, kw_534, ⟨by decide, by decide⟩, by decide +kernel, by decide⟩
theorem ko_State_takeFrom : kv_okV kM_State_takeFrom 1 := ⟨kw_1051, kw_1052, kw_70, kw_1053, ⟨by decide, by decide⟩, by decide +kernel, by decide⟩
theorem ko_Weighings_add : kv_okV kM_Weighings_add 5 := ⟨kw_609, kw_610, kw_72, kw_611, ⟨by decide, by decide⟩, by decide +kernel, by decide⟩
theorem ko_Weighings_counts : kv_okV kM_Weighings_counts 2 := ⟨kw_683, kw_684, kw_72, kw_685, ⟨by decide, by decide⟩, by decide +kernel, by decide⟩
theorem ko_Weighings_greatest : kv_okV kM_Weighings_greatest 1 := ⟨kw_691, kw_692, kw_72, kw_693, ⟨by decide, by decide⟩, by decide +kernel, by decide⟩
theorem ko_Weighings_has : kv_okV kM_Weighings_has 1 := ⟨kw_659, kw_660, kw_72, kw_661, ⟨by decide, by decide⟩, by decide +kernel, by decide⟩
theorem ko_Weighings_howManyOut : kv_okV kM_Weighings_howManyOut 0 := ⟨kw_1080, kw_1081, kw_72, kw_1082, ⟨by decide, by decide⟩, by decide +kernel, by decide⟩
theorem ko_Weighings_least : kv_okV kM_Weighings_least 1 := ⟨kw_687, kw_688, kw_72, kw_689, ⟨by decide, by decide⟩, by decide +kernel, by decide⟩
theorem ko_Weighings_takeFrom : kv_okV kM_Weighings_takeFrom 1 := ⟨kw_1060, kw_1061, kw_72, kw_1062, ⟨by decide, by decide⟩, by decide +kernel, by decide⟩
theorem ko_Weighings_touch : kv_okV kM_Weighings_touch 1 := ⟨kw_613, kw_614, kw_72, kw_615, ⟨by decide, by decide⟩, by decide +kernel, by decide⟩
theorem ko_Weighings_touchesLeft : kv_okV kM_Weighings_touchesLeft 1 := ⟨kw_598, kw_599, kw_72, kw_600, ⟨by decide, by decide⟩, by decide +kernel, by decide⟩
theorem ko_D_agrees : kv_okV kM_D_agrees 3 := ⟨kw_1642, kw_62, kw_81, kw_1643, ⟨by decide, by decide⟩, by decide +kernel, by decide⟩
theorem ko_D_answer : kv_okV kM_D_answer 3 := ⟨kw_1478, kw_37, kw_81, kw_1479, ⟨by decide, by decide⟩, by decide +kernel, by decide⟩
theorem ko_D_atom : kv_okV kM_D_atom 0 := ⟨kw_1596, kw_57, kw_81, kw_1597, ⟨by decide, by decide⟩, by decide +kernel, by decide⟩
theorem ko_D_becomes : kv_okV kM_D_becomes 2 := ⟨kw_1352, kw_22, kw_81, kw_1353, ⟨by decide, by decide⟩, by decide +kernel, by decide⟩
theorem ko_D_begins : kv_okV kM_D_begins 1 := ⟨kw_1457, kw_32, kw_81, kw_1458, ⟨by decide, by decide⟩, by decide +kernel, by decide⟩
theorem ko_D_binds : kv_okV kM_D_binds 4 := ⟨kw_1470, kw_35, kw_81, kw_1471, ⟨by decide, by decide⟩, by decide +kernel, by decide⟩
theorem ko_D_bindsYear : kv_okV kM_D_bindsYear 2 := ⟨kw_1462, kw_33, kw_81, kw_1463, ⟨by decide, by decide⟩, by decide +kernel, by decide⟩
theorem ko_D_bits : kv_okS kM_D_bits 1 := ⟨kw_1526, kw_81, kw_1527, ⟨by decide, by decide⟩, by decide +kernel, by decide⟩
theorem ko_D_careOf : kv_okV kM_D_careOf 1 := ⟨kw_1687, kw_66, kw_81, kw_1688, ⟨by decide, by decide⟩, by decide +kernel, by decide⟩
theorem ko_D_chainOf : kv_okV kM_D_chainOf 2 := ⟨kw_1630, kw_60, kw_81, kw_1631, ⟨by decide, by decide⟩, by decide +kernel, by decide⟩
theorem ko_D_closes : kv_okV kM_D_closes 0 := ⟨kw_1474, kw_36, kw_81, kw_1475, ⟨by decide, by decide⟩, by decide +kernel, by decide⟩
theorem ko_D_fitsLong : kv_okV kM_D_fitsLong 4 := ⟨kw_1487, kw_38, kw_81, kw_1488, ⟨by decide, by decide⟩, by decide +kernel, by decide⟩
theorem ko_D_fitsLongNow : kv_okV kM_D_fitsLongNow 0 := ⟨kw_1507, kw_42, kw_81, kw_1508, ⟨by decide, by decide⟩, by decide +kernel, by decide⟩
theorem ko_D_fitsYear : kv_okV kM_D_fitsYear 1 := ⟨kw_1453, kw_31, kw_81, kw_1454, ⟨by decide, by decide⟩, by decide +kernel, by decide⟩
theorem ko_D_get : kv_okV kM_D_get 2 := ⟨kw_1343, kw_21, kw_81, kw_1344, ⟨by decide, by decide⟩, by decide +kernel, by decide⟩
theorem ko_D_growth : kv_okV kM_D_growth 2 := ⟨kw_1378, kw_24, kw_81, kw_1379, ⟨by decide, by decide⟩, by decide +kernel, by decide⟩
theorem ko_D_isAsked : kv_okV kM_D_isAsked 1 := ⟨kw_1495, kw_40, kw_81, kw_1496, ⟨by decide, by decide⟩, by decide +kernel, by decide⟩
theorem ko_D_isChain : kv_okS kM_D_isChain 1 := ⟨kw_1616, kw_81, kw_1617, ⟨by decide, by decide⟩, by decide +kernel, by decide⟩
theorem ko_D_isField : kv_okS kM_D_isField 1 := ⟨kw_1572, kw_81, kw_1573, ⟨by decide, by decide⟩, by decide +kernel, by decide⟩
theorem ko_D_isIn : kv_okS kM_D_isIn 3 := ⟨kw_1331, kw_81, kw_1332, ⟨by decide, by decide⟩, by decide +kernel, by decide⟩
theorem ko_D_isLet : kv_okV kM_D_isLet 5 := ⟨kw_1530, kw_44, kw_81, kw_1531, ⟨by decide, by decide⟩, by decide +kernel, by decide⟩
theorem ko_D_isLost : kv_okV kM_D_isLost 2 := ⟨kw_1422, kw_28, kw_81, kw_1423, ⟨by decide, by decide⟩, by decide +kernel, by decide⟩
theorem ko_D_isLump : kv_okV kM_D_isLump 1 := ⟨kw_1364, kw_23, kw_81, kw_1365, ⟨by decide, by decide⟩, by decide +kernel, by decide⟩
theorem ko_D_isPair : kv_okV kM_D_isPair 1 := ⟨kw_1519, kw_43, kw_81, kw_1520, ⟨by decide, by decide⟩, by decide +kernel, by decide⟩
theorem ko_D_isShelf : kv_okS kM_D_isShelf 1 := ⟨kw_1417, kw_81, kw_1418, ⟨by decide, by decide⟩, by decide +kernel, by decide⟩
theorem ko_D_isWeighing : kv_okV kM_D_isWeighing 1 := ⟨kw_1433, kw_29, kw_81, kw_1434, ⟨by decide, by decide⟩, by decide +kernel, by decide⟩
theorem ko_D_isYear : kv_okS kM_D_isYear 1 := ⟨kw_1386, kw_81, kw_1387, ⟨by decide, by decide⟩, by decide +kernel, by decide⟩
theorem ko_D_labelOf : kv_okV kM_D_labelOf 2 := ⟨kw_1499, kw_41, kw_81, kw_1500, ⟨by decide, by decide⟩, by decide +kernel, by decide⟩
theorem ko_D_links : kv_okV kM_D_links 1 := ⟨kw_1622, kw_59, kw_81, kw_1623, ⟨by decide, by decide⟩, by decide +kernel, by decide⟩
theorem ko_D_meanOf : kv_okV kM_D_meanOf 2 := ⟨kw_1600, kw_58, kw_81, kw_1601, ⟨by decide, by decide⟩, by decide +kernel, by decide⟩
theorem ko_D_nodeOf : kv_okV kM_D_nodeOf 2 := ⟨kw_1491, kw_39, kw_81, kw_1492, ⟨by decide, by decide⟩, by decide +kernel, by decide⟩
theorem ko_D_oneBy : kv_okV kM_D_oneBy 3 := ⟨kw_1584, kw_54, kw_81, kw_1585, ⟨by decide, by decide⟩, by decide +kernel, by decide⟩
theorem ko_D_oneNow : kv_okV kM_D_oneNow 0 := ⟨kw_1580, kw_53, kw_81, kw_1581, ⟨by decide, by decide⟩, by decide +kernel, by decide⟩
theorem ko_D_pairAt : kv_okV kM_D_pairAt 2 := ⟨kw_1659, kw_63, kw_81, kw_1660, ⟨by decide, by decide⟩, by decide +kernel, by decide⟩
theorem ko_D_primeOf : kv_okV kM_D_primeOf 0 := ⟨kw_1339, kw_20, kw_81, kw_1340, ⟨by decide, by decide⟩, by decide +kernel, by decide⟩
theorem ko_D_primesIn : kv_okV kM_D_primesIn 2 := ⟨kw_1663, kw_64, kw_81, kw_1664, ⟨by decide, by decide⟩, by decide +kernel, by decide⟩
theorem ko_D_product : kv_okV kM_D_product 0 := ⟨kw_1592, kw_56, kw_81, kw_1593, ⟨by decide, by decide⟩, by decide +kernel, by decide⟩
theorem ko_D_reads : kv_okV kM_D_reads 1 := ⟨kw_1539, kw_45, kw_81, kw_1540, ⟨by decide, by decide⟩, by decide +kernel, by decide⟩
theorem ko_D_readsAtom : kv_okV kM_D_readsAtom 0 := ⟨kw_1569, kw_52, kw_81, kw_1570, ⟨by decide, by decide⟩, by decide +kernel, by decide⟩
theorem ko_D_readsNumber : kv_okV kM_D_readsNumber 0 := ⟨kw_1547, kw_47, kw_81, kw_1548, ⟨by decide, by decide⟩, by decide +kernel, by decide⟩
theorem ko_D_readsProduct : kv_okV kM_D_readsProduct 0 := ⟨kw_1565, kw_51, kw_81, kw_1566, ⟨by decide, by decide⟩, by decide +kernel, by decide⟩
theorem ko_D_readsStatement : kv_okV kM_D_readsStatement 0 := ⟨kw_1543, kw_46, kw_81, kw_1544, ⟨by decide, by decide⟩, by decide +kernel, by decide⟩
theorem ko_D_readsSum : kv_okV kM_D_readsSum 0 := ⟨kw_1561, kw_50, kw_81, kw_1562, ⟨by decide, by decide⟩, by decide +kernel, by decide⟩
theorem ko_D_say : kv_okV kM_D_say 2 := ⟨kw_1437, kw_30, kw_81, kw_1438, ⟨by decide, by decide⟩, by decide +kernel, by decide⟩
theorem ko_D_sign : kv_okV kM_D_sign 0 := ⟨kw_1551, kw_48, kw_81, kw_1552, ⟨by decide, by decide⟩, by decide +kernel, by decide⟩
theorem ko_D_spreadBy : kv_okV kM_D_spreadBy 3 := ⟨kw_1667, kw_65, kw_81, kw_1668, ⟨by decide, by decide⟩, by decide +kernel, by decide⟩
theorem ko_D_sumOf : kv_okV kM_D_sumOf 0 := ⟨kw_1588, kw_55, kw_81, kw_1589, ⟨by decide, by decide⟩, by decide +kernel, by decide⟩
theorem ko_D_takes : kv_okV kM_D_takes 1 := ⟨kw_1557, kw_49, kw_81, kw_1558, ⟨by decide, by decide⟩, by decide +kernel, by decide⟩
theorem ko_D_tells : kv_okV kM_D_tells 5 := ⟨kw_1406, kw_26, kw_81, kw_1407, ⟨by decide, by decide⟩, by decide +kernel, by decide⟩
theorem ko_D_touchesLeft : kv_okV kM_D_touchesLeft 0 := ⟨kw_1399, kw_25, kw_81, kw_1400, ⟨by decide, by decide⟩, by decide +kernel, by decide⟩
theorem ko_D_weighs : kv_okV kM_D_weighs 3 := ⟨kw_1466, kw_34, kw_81, kw_1467, ⟨by decide, by decide⟩, by decide +kernel, by decide⟩
theorem ko_D_wrongChains : kv_okV kM_D_wrongChains 2 := ⟨kw_1638, kw_61, kw_81, kw_1639, ⟨by decide, by decide⟩, by decide +kernel, by decide⟩
theorem ko_D_wrongKept : kv_okV kM_D_wrongKept 1 := ⟨kw_1711, kw_67, kw_81, kw_1712, ⟨by decide, by decide⟩, by decide +kernel, by decide⟩
theorem ko_D_wrongRow : kv_okV kM_D_wrongRow 2 := ⟨kw_1414, kw_27, kw_81, kw_1415, ⟨by decide, by decide⟩, by decide +kernel, by decide⟩
theorem ko_Int_bitCount : kv_okS kM_Int_bitCount 1 := ⟨kw_821, kw_83, kw_822, ⟨by decide, by decide⟩, by decide +kernel, by decide⟩
theorem ko_Arr_fill : kv_okS kM_Arr_fill 2 := ⟨kw_245, kw_75, kw_246, ⟨by decide, by decide⟩, by decide +kernel, by decide⟩
theorem kr_0 : kv_kd 0 = 10 := rfl
theorem kn_0 : 0 < kv_NC := by decide
theorem kl_0 : kv_ln 0 = 0 := rfl
theorem kr_1 : kv_kd 1 = 8 := rfl
theorem kn_1 : 1 < kv_NC := by decide
theorem kl_1 : kv_ln 1 = 0 := rfl
theorem kr_2 : kv_kd 2 = 3 := rfl
theorem kn_2 : 2 < kv_NC := by decide
theorem kl_2 : kv_ln 2 = 0 := rfl
theorem kr_3 : kv_kd 3 = 12 := rfl
theorem kn_3 : 3 < kv_NC := by decide
theorem kl_3 : kv_ln 3 = 10 := rfl
theorem kr_4 : kv_kd 4 = 12 := rfl
theorem kn_4 : 4 < kv_NC := by decide
theorem kl_4 : kv_ln 4 = 10 := rfl
theorem kr_5 : kv_kd 5 = 12 := rfl
theorem kn_5 : 5 < kv_NC := by decide
theorem kl_5 : kv_ln 5 = 10 := rfl
theorem kr_6 : kv_kd 6 = 12 := rfl
theorem kn_6 : 6 < kv_NC := by decide
theorem kl_6 : kv_ln 6 = 10 := rfl
theorem kr_7 : kv_kd 7 = 12 := rfl
theorem kn_7 : 7 < kv_NC := by decide
theorem kl_7 : kv_ln 7 = 10 := rfl
theorem kr_8 : kv_kd 8 = 12 := rfl
theorem kn_8 : 8 < kv_NC := by decide
theorem kl_8 : kv_ln 8 = 10 := rfl
theorem kr_9 : kv_kd 9 = 12 := rfl
theorem kn_9 : 9 < kv_NC := by decide
theorem kl_9 : kv_ln 9 = 6 := rfl
theorem kr_10 : kv_kd 10 = 9 := rfl
theorem kn_10 : 10 < kv_NC := by decide
theorem kl_10 : kv_ln 10 = 0 := rfl
theorem kr_11 : kv_kd 11 = 12 := rfl
theorem kn_11 : 11 < kv_NC := by decide
theorem kl_11 : kv_ln 11 = 20 := rfl
theorem kr_12 : kv_kd 12 = 12 := rfl
theorem kn_12 : 12 < kv_NC := by decide
theorem kl_12 : kv_ln 12 = 20 := rfl
theorem kr_13 : kv_kd 13 = 12 := rfl
theorem kn_13 : 13 < kv_NC := by decide
theorem kl_13 : kv_ln 13 = 20 := rfl
theorem kr_14 : kv_kd 14 = 12 := rfl
theorem kn_14 : 14 < kv_NC := by decide
theorem kl_14 : kv_ln 14 = 20 := rfl
theorem kr_15 : kv_kd 15 = 12 := rfl
theorem kn_15 : 15 < kv_NC := by decide
theorem kl_15 : kv_ln 15 = 20 := rfl
theorem kr_16 : kv_kd 16 = 14 := rfl
theorem kn_16 : 16 < kv_NC := by decide
theorem kl_16 : kv_ln 16 = 20 := rfl
theorem kr_17 : kv_kd 17 = 12 := rfl
theorem kn_17 : 17 < kv_NC := by decide
theorem kl_17 : kv_ln 17 = 20 := rfl
theorem kr_18 : kv_kd 18 = 1 := rfl
theorem kn_18 : 18 < kv_NC := by decide
theorem kl_18 : kv_ln 18 = 0 := rfl
theorem kr_19 : kv_kd 19 = 12 := rfl
theorem kn_19 : 19 < kv_NC := by decide
theorem kl_19 : kv_ln 19 = 100 := rfl
theorem kr_20 : kv_kd 20 = 0 := rfl
theorem kn_20 : 20 < kv_NC := by decide
theorem kl_20 : kv_ln 20 = 0 := rfl
theorem kr_21 : kv_kd 21 = 12 := rfl
theorem kn_21 : 21 < kv_NC := by decide
theorem kl_21 : kv_ln 21 = 48 := rfl
theorem kr_22 : kv_kd 22 = 12 := rfl
theorem kn_22 : 22 < kv_NC := by decide
theorem kl_22 : kv_ln 22 = 48 := rfl
theorem kr_23 : kv_kd 23 = 12 := rfl
theorem kn_23 : 23 < kv_NC := by decide
theorem kl_23 : kv_ln 23 = 4 := rfl
theorem kr_24 : kv_kd 24 = 12 := rfl
theorem kn_24 : 24 < kv_NC := by decide
theorem kl_24 : kv_ln 24 = 4 := rfl
theorem kr_25 : kv_kd 25 = 12 := rfl
theorem kn_25 : 25 < kv_NC := by decide
theorem kl_25 : kv_ln 25 = 4 := rfl
theorem kr_26 : kv_kd 26 = 8 := rfl
theorem kn_26 : 26 < kv_NC := by decide
theorem kl_26 : kv_ln 26 = 0 := rfl
theorem kr_27 : kv_kd 27 = 3 := rfl
theorem kn_27 : 27 < kv_NC := by decide
theorem kl_27 : kv_ln 27 = 0 := rfl
theorem kr_28 : kv_kd 28 = 12 := rfl
theorem kn_28 : 28 < kv_NC := by decide
theorem kl_28 : kv_ln 28 = 10 := rfl
theorem kr_29 : kv_kd 29 = 12 := rfl
theorem kn_29 : 29 < kv_NC := by decide
theorem kl_29 : kv_ln 29 = 10 := rfl
theorem kr_30 : kv_kd 30 = 12 := rfl
theorem kn_30 : 30 < kv_NC := by decide
theorem kl_30 : kv_ln 30 = 10 := rfl
theorem kr_31 : kv_kd 31 = 12 := rfl
theorem kn_31 : 31 < kv_NC := by decide
theorem kl_31 : kv_ln 31 = 10 := rfl
theorem kr_32 : kv_kd 32 = 12 := rfl
theorem kn_32 : 32 < kv_NC := by decide
theorem kl_32 : kv_ln 32 = 10 := rfl
theorem kr_33 : kv_kd 33 = 12 := rfl
theorem kn_33 : 33 < kv_NC := by decide
theorem kl_33 : kv_ln 33 = 10 := rfl
theorem kr_34 : kv_kd 34 = 12 := rfl
theorem kn_34 : 34 < kv_NC := by decide
theorem kl_34 : kv_ln 34 = 6 := rfl
theorem kr_35 : kv_kd 35 = 9 := rfl
theorem kn_35 : 35 < kv_NC := by decide
theorem kl_35 : kv_ln 35 = 0 := rfl
theorem kr_36 : kv_kd 36 = 12 := rfl
theorem kn_36 : 36 < kv_NC := by decide
theorem kl_36 : kv_ln 36 = 20 := rfl
theorem kr_37 : kv_kd 37 = 12 := rfl
theorem kn_37 : 37 < kv_NC := by decide
theorem kl_37 : kv_ln 37 = 20 := rfl
theorem kr_38 : kv_kd 38 = 12 := rfl
theorem kn_38 : 38 < kv_NC := by decide
theorem kl_38 : kv_ln 38 = 20 := rfl
theorem kr_39 : kv_kd 39 = 12 := rfl
theorem kn_39 : 39 < kv_NC := by decide
theorem kl_39 : kv_ln 39 = 20 := rfl
theorem kr_40 : kv_kd 40 = 12 := rfl
theorem kn_40 : 40 < kv_NC := by decide
theorem kl_40 : kv_ln 40 = 20 := rfl
theorem kr_41 : kv_kd 41 = 14 := rfl
theorem kn_41 : 41 < kv_NC := by decide
theorem kl_41 : kv_ln 41 = 20 := rfl
theorem kr_42 : kv_kd 42 = 12 := rfl
theorem kn_42 : 42 < kv_NC := by decide
theorem kl_42 : kv_ln 42 = 20 := rfl
theorem kr_43 : kv_kd 43 = 1 := rfl
theorem kn_43 : 43 < kv_NC := by decide
theorem kl_43 : kv_ln 43 = 0 := rfl
theorem kr_44 : kv_kd 44 = 12 := rfl
theorem kn_44 : 44 < kv_NC := by decide
theorem kl_44 : kv_ln 44 = 100 := rfl
theorem kr_45 : kv_kd 45 = 0 := rfl
theorem kn_45 : 45 < kv_NC := by decide
theorem kl_45 : kv_ln 45 = 0 := rfl
theorem kr_46 : kv_kd 46 = 12 := rfl
theorem kn_46 : 46 < kv_NC := by decide
theorem kl_46 : kv_ln 46 = 48 := rfl
theorem kr_47 : kv_kd 47 = 12 := rfl
theorem kn_47 : 47 < kv_NC := by decide
theorem kl_47 : kv_ln 47 = 48 := rfl
theorem kr_48 : kv_kd 48 = 12 := rfl
theorem kn_48 : 48 < kv_NC := by decide
theorem kl_48 : kv_ln 48 = 4 := rfl
theorem kr_49 : kv_kd 49 = 12 := rfl
theorem kn_49 : 49 < kv_NC := by decide
theorem kl_49 : kv_ln 49 = 4 := rfl
theorem kr_50 : kv_kd 50 = 12 := rfl
theorem kn_50 : 50 < kv_NC := by decide
theorem kl_50 : kv_ln 50 = 4 := rfl
theorem kr_51 : kv_kd 51 = 15 := rfl
theorem kn_51 : 51 < kv_NC := by decide
theorem kl_51 : kv_ln 51 = 8 := rfl
theorem kr_68 : kv_kd 68 = 4 := rfl
theorem kn_68 : 68 < kv_NC := by decide
theorem kl_68 : kv_ln 68 = 0 := rfl
theorem kr_69 : kv_kd 69 = 12 := rfl
theorem kn_69 : 69 < kv_NC := by decide
theorem kl_69 : kv_ln 69 = 124 := rfl
theorem kr_70 : kv_kd 70 = 12 := rfl
theorem kn_70 : 70 < kv_NC := by decide
theorem kl_70 : kv_ln 70 = 124 := rfl
theorem kr_71 : kv_kd 71 = 12 := rfl
theorem kn_71 : 71 < kv_NC := by decide
theorem kl_71 : kv_ln 71 = 124 := rfl
theorem kr_72 : kv_kd 72 = 12 := rfl
theorem kn_72 : 72 < kv_NC := by decide
theorem kl_72 : kv_ln 72 = 42 := rfl
theorem kr_73 : kv_kd 73 = 2 := rfl
theorem kn_73 : 73 < kv_NC := by decide
theorem kl_73 : kv_ln 73 = 0 := rfl
theorem kr_74 : kv_kd 74 = 12 := rfl
theorem kn_74 : 74 < kv_NC := by decide
theorem kl_74 : kv_ln 74 = 42 := rfl
theorem kr_75 : kv_kd 75 = 6 := rfl
theorem kn_75 : 75 < kv_NC := by decide
theorem kl_75 : kv_ln 75 = 0 := rfl
theorem kr_76 : kv_kd 76 = 12 := rfl
theorem kn_76 : 76 < kv_NC := by decide
theorem kl_76 : kv_ln 76 = 100 := rfl
theorem kr_77 : kv_kd 77 = 5 := rfl
theorem kn_77 : 77 < kv_NC := by decide
theorem kl_77 : kv_ln 77 = 0 := rfl
theorem kr_78 : kv_kd 78 = 12 := rfl
theorem kn_78 : 78 < kv_NC := by decide
theorem kl_78 : kv_ln 78 = 100 := rfl
theorem kr_79 : kv_kd 79 = 12 := rfl
theorem kn_79 : 79 < kv_NC := by decide
theorem kl_79 : kv_ln 79 = 100 := rfl
theorem kr_80 : kv_kd 80 = 12 := rfl
theorem kn_80 : 80 < kv_NC := by decide
theorem kl_80 : kv_ln 80 = 8 := rfl
theorem kr_81 : kv_kd 81 = 12 := rfl
theorem kn_81 : 81 < kv_NC := by decide
theorem kl_81 : kv_ln 81 = 8 := rfl
theorem kr_82 : kv_kd 82 = 12 := rfl
theorem kn_82 : 82 < kv_NC := by decide
theorem kl_82 : kv_ln 82 = 8 := rfl
theorem kr_83 : kv_kd 83 = 14 := rfl
theorem kn_83 : 83 < kv_NC := by decide
theorem kl_83 : kv_ln 83 = 8 := rfl
theorem kr_84 : kv_kd 84 = 11 := rfl
theorem kn_84 : ¬ 84 < kv_NC := by decide
theorem kl_84 : kv_ln 84 = 0 := rfl
theorem kr_85 : kv_kd 85 = 12 := rfl
theorem kn_85 : ¬ 85 < kv_NC := by decide
theorem kl_85 : kv_ln 85 = 444 := rfl
theorem kr_86 : kv_kd 86 = 12 := rfl
theorem kn_86 : ¬ 86 < kv_NC := by decide
theorem kl_86 : kv_ln 86 = 444 := rfl
theorem kr_87 : kv_kd 87 = 12 := rfl
theorem kn_87 : ¬ 87 < kv_NC := by decide
theorem kl_87 : kv_ln 87 = 8 := rfl
theorem kr_88 : kv_kd 88 = 12 := rfl
theorem kn_88 : ¬ 88 < kv_NC := by decide
theorem kl_88 : kv_ln 88 = 8 := rfl
theorem kr_89 : kv_kd 89 = 12 := rfl
theorem kn_89 : ¬ 89 < kv_NC := by decide
theorem kl_89 : kv_ln 89 = 8 := rfl
theorem kr_90 : kv_kd 90 = 12 := rfl
theorem kn_90 : ¬ 90 < kv_NC := by decide
theorem kl_90 : kv_ln 90 = 800 := rfl
theorem kr_91 : kv_kd 91 = 12 := rfl
theorem kn_91 : ¬ 91 < kv_NC := by decide
theorem kl_91 : kv_ln 91 = 8 := rfl
theorem kr_92 : kv_kd 92 = 12 := rfl
theorem kn_92 : ¬ 92 < kv_NC := by decide
theorem kl_92 : kv_ln 92 = 8 := rfl
theorem kr_93 : kv_kd 93 = 13 := rfl
theorem kn_93 : ¬ 93 < kv_NC := by decide
theorem kl_93 : kv_ln 93 = 1936 := rfl
theorem kr_94 : kv_kd 94 = 12 := rfl
theorem kn_94 : ¬ 94 < kv_NC := by decide
theorem kl_94 : kv_ln 94 = 44 := rfl
theorem kr_95 : kv_kd 95 = 12 := rfl
theorem kn_95 : ¬ 95 < kv_NC := by decide
theorem kl_95 : kv_ln 95 = 44 := rfl
theorem kt_0_0 : kv_tg 0 0 = 1 := rfl
theorem kt_0_1 : kv_tg 0 1 = 26 := rfl
theorem kt_0_3 : kv_tg 0 3 = 51 := rfl
theorem kt_0_4 : kv_tg 0 4 = 68 := rfl
theorem kt_0_5 : kv_tg 0 5 = 73 := rfl
theorem kt_0_6 : kv_tg 0 6 = 75 := rfl
theorem kt_0_7 : kv_tg 0 7 = 77 := rfl
theorem kt_1_0 : kv_tg 1 0 = 2 := rfl
theorem kt_1_1 : kv_tg 1 1 = 10 := rfl
theorem kt_1_2 : kv_tg 1 2 = 18 := rfl
theorem kt_1_3 : kv_tg 1 3 = 20 := rfl
theorem kt_1_4 : kv_tg 1 4 = 25 := rfl
theorem kt_2_0 : kv_tg 2 0 = 3 := rfl
theorem kt_2_1 : kv_tg 2 1 = 4 := rfl
theorem kt_2_2 : kv_tg 2 2 = 5 := rfl
theorem kt_2_3 : kv_tg 2 3 = 6 := rfl
theorem kt_2_4 : kv_tg 2 4 = 7 := rfl
theorem kt_2_5 : kv_tg 2 5 = 8 := rfl
theorem kt_2_6 : kv_tg 2 6 = 9 := rfl
theorem kt_10_0 : kv_tg 10 0 = 11 := rfl
theorem kt_10_1 : kv_tg 10 1 = 12 := rfl
theorem kt_10_2 : kv_tg 10 2 = 13 := rfl
theorem kt_10_3 : kv_tg 10 3 = 14 := rfl
theorem kt_10_4 : kv_tg 10 4 = 15 := rfl
theorem kt_10_5 : kv_tg 10 5 = 16 := rfl
theorem kt_10_6 : kv_tg 10 6 = 17 := rfl
theorem kt_18_0 : kv_tg 18 0 = 19 := rfl
theorem kt_20_0 : kv_tg 20 0 = 21 := rfl
theorem kt_20_1 : kv_tg 20 1 = 22 := rfl
theorem kt_20_2 : kv_tg 20 2 = 23 := rfl
theorem kt_20_3 : kv_tg 20 3 = 24 := rfl
theorem kt_26_0 : kv_tg 26 0 = 27 := rfl
theorem kt_26_1 : kv_tg 26 1 = 35 := rfl
theorem kt_26_2 : kv_tg 26 2 = 43 := rfl
theorem kt_26_3 : kv_tg 26 3 = 45 := rfl
theorem kt_26_4 : kv_tg 26 4 = 50 := rfl
theorem kt_27_0 : kv_tg 27 0 = 28 := rfl
theorem kt_27_1 : kv_tg 27 1 = 29 := rfl
theorem kt_27_2 : kv_tg 27 2 = 30 := rfl
theorem kt_27_3 : kv_tg 27 3 = 31 := rfl
theorem kt_27_4 : kv_tg 27 4 = 32 := rfl
theorem kt_27_5 : kv_tg 27 5 = 33 := rfl
theorem kt_27_6 : kv_tg 27 6 = 34 := rfl
theorem kt_35_0 : kv_tg 35 0 = 36 := rfl
theorem kt_35_1 : kv_tg 35 1 = 37 := rfl
theorem kt_35_2 : kv_tg 35 2 = 38 := rfl
theorem kt_35_3 : kv_tg 35 3 = 39 := rfl
theorem kt_35_4 : kv_tg 35 4 = 40 := rfl
theorem kt_35_5 : kv_tg 35 5 = 41 := rfl
theorem kt_35_6 : kv_tg 35 6 = 42 := rfl
theorem kt_43_0 : kv_tg 43 0 = 44 := rfl
theorem kt_45_0 : kv_tg 45 0 = 46 := rfl
theorem kt_45_1 : kv_tg 45 1 = 47 := rfl
theorem kt_45_2 : kv_tg 45 2 = 48 := rfl
theorem kt_45_3 : kv_tg 45 3 = 49 := rfl
theorem kt_68_0 : kv_tg 68 0 = 69 := rfl
theorem kt_68_1 : kv_tg 68 1 = 70 := rfl
theorem kt_68_2 : kv_tg 68 2 = 71 := rfl
theorem kt_68_3 : kv_tg 68 3 = 72 := rfl
theorem kt_73_0 : kv_tg 73 0 = 74 := rfl
theorem kt_75_0 : kv_tg 75 0 = 76 := rfl
theorem kt_77_0 : kv_tg 77 0 = 78 := rfl
theorem kt_77_1 : kv_tg 77 1 = 79 := rfl
theorem kt_77_2 : kv_tg 77 2 = 80 := rfl
theorem kt_77_3 : kv_tg 77 3 = 81 := rfl
theorem kt_77_4 : kv_tg 77 4 = 82 := rfl
theorem kt_77_5 : kv_tg 77 5 = 83 := rfl
theorem kt_84_0 : kv_tg 84 0 = 85 := rfl
theorem kt_84_1 : kv_tg 84 1 = 86 := rfl
theorem kt_84_2 : kv_tg 84 2 = 87 := rfl
theorem kt_84_3 : kv_tg 84 3 = 88 := rfl
theorem kt_84_4 : kv_tg 84 4 = 89 := rfl
theorem kt_84_5 : kv_tg 84 5 = 90 := rfl
theorem kt_84_6 : kv_tg 84 6 = 91 := rfl
theorem kt_84_7 : kv_tg 84 7 = 92 := rfl
theorem kt_84_10 : kv_tg 84 10 = 93 := rfl
theorem kt_84_11 : kv_tg 84 11 = 94 := rfl
theorem kt_84_12 : kv_tg 84 12 = 95 := rfl
theorem kv_cN_cZ {α : Type} {M N : kv_MI} {d : Nat} {o : Option Value × kv_W} {P : α → Prop} {x0 : Option Bool} {K : Bool → Option α} {pc : Nat} {lv : List (Nat × Value)} {st as stk : List Value} {n idx : Nat} {c : Nat → Nat → Int32} {y : (Nat → Nat → Int32) × (Nat → Int64) × (Nat → Int64)} {host : String} (hok : kv_okS N n) (hn : as.length = n) (hl0 : Cond.methodLinkNest M.1.cls idx N.1 host ∈ lw_tbl) (hst : (st.map fun v => v.category).sum ≤ 8) (hs : as.reverse ++ st = stk) (hd : decode M.2.1 pc = .ok (.invokestatic idx, 3)) (hN : ∀ a, x0 = some a → kv_C N d as (c, y) ((fun a : Bool => (some (.int (kv_b a)), (c, y))) a)) (kk : ∀ (b0 : Bool), kv_X M (d + 1) o P (K b0) (pc + 3) lv (.int (kv_b b0) :: st) (c, y)) : kv_X M (d + 1) o P (kv_bind1 x0 K) pc lv stk (c, y) := by
  subst hs
  exact kv_callSN (E := (fun a : Bool => (some (.int (kv_b a)), (c, y)))) hok hn hl0 hst hd hN (fun a => kk a)
theorem kv_cS_cI {α : Type} {M N : kv_MI} {d : Nat} {o : Option Value × kv_W} {P : α → Prop} {x0 : Option Int32} {K : Int32 → Option α} {pc : Nat} {lv : List (Nat × Value)} {st as stk : List Value} {n idx : Nat} {c : Nat → Nat → Int32} {y : (Nat → Nat → Int32) × (Nat → Int64) × (Nat → Int64)} (hok : kv_okS N n) (hn : as.length = n) (hl0 : Cond.methodLink M.1.cls idx N.1 ∈ kv_gw) (hst : (st.map fun v => v.category).sum ≤ 8) (hs : as.reverse ++ st = stk) (hd : decode M.2.1 pc = .ok (.invokestatic idx, 3)) (hN : ∀ a, x0 = some a → kv_C N d as (c, y) ((fun a : Int32 => (some (.int a), (c, y))) a)) (kk : ∀ (b0 : Int32), kv_X M (d + 1) o P (K b0) (pc + 3) lv (.int b0 :: st) (c, y)) : kv_X M (d + 1) o P (kv_bind1 x0 K) pc lv stk (c, y) := by
  subst hs
  exact kv_callS (E := (fun a : Int32 => (some (.int a), (c, y)))) hok hn hl0 hst hd hN (fun a => kk a)
theorem kv_cS_cIc {α : Type} {M N : kv_MI} {d : Nat} {o : Option Value × kv_W} {P : α → Prop} {x0 : Option (Int32 × (Nat → Nat → Int32))} {K : Int32 → (Nat → Nat → Int32) → Option α} {pc : Nat} {lv : List (Nat × Value)} {st as stk : List Value} {n idx : Nat} {c : Nat → Nat → Int32} {y : (Nat → Nat → Int32) × (Nat → Int64) × (Nat → Int64)} (hok : kv_okS N n) (hn : as.length = n) (hl0 : Cond.methodLink M.1.cls idx N.1 ∈ kv_gw) (hst : (st.map fun v => v.category).sum ≤ 8) (hs : as.reverse ++ st = stk) (hd : decode M.2.1 pc = .ok (.invokestatic idx, 3)) (hN : ∀ a, x0 = some a → kv_C N d as (c, y) ((fun a : (Int32 × (Nat → Nat → Int32)) => (some (.int a.1), (a.2, y))) a)) (kk : ∀ (b0 : Int32) (b1 : (Nat → Nat → Int32)), kv_X M (d + 1) o P (K b0 b1) (pc + 3) lv (.int b0 :: st) (b1, y)) : kv_X M (d + 1) o P (kv_bind2 x0 K) pc lv stk (c, y) := by
  subst hs
  exact kv_callS (E := (fun a : (Int32 × (Nat → Nat → Int32)) => (some (.int a.1), (a.2, y)))) hok hn hl0 hst hd hN (fun a => kk a.1 a.2)
theorem kv_cS_cZ {α : Type} {M N : kv_MI} {d : Nat} {o : Option Value × kv_W} {P : α → Prop} {x0 : Option Bool} {K : Bool → Option α} {pc : Nat} {lv : List (Nat × Value)} {st as stk : List Value} {n idx : Nat} {c : Nat → Nat → Int32} {y : (Nat → Nat → Int32) × (Nat → Int64) × (Nat → Int64)} (hok : kv_okS N n) (hn : as.length = n) (hl0 : Cond.methodLink M.1.cls idx N.1 ∈ kv_gw) (hst : (st.map fun v => v.category).sum ≤ 8) (hs : as.reverse ++ st = stk) (hd : decode M.2.1 pc = .ok (.invokestatic idx, 3)) (hN : ∀ a, x0 = some a → kv_C N d as (c, y) ((fun a : Bool => (some (.int (kv_b a)), (c, y))) a)) (kk : ∀ (b0 : Bool), kv_X M (d + 1) o P (K b0) (pc + 3) lv (.int (kv_b b0) :: st) (c, y)) : kv_X M (d + 1) o P (kv_bind1 x0 K) pc lv stk (c, y) := by
  subst hs
  exact kv_callS (E := (fun a : Bool => (some (.int (kv_b a)), (c, y)))) hok hn hl0 hst hd hN (fun a => kk a)
theorem kv_cS_cc {α : Type} {M N : kv_MI} {d : Nat} {o : Option Value × kv_W} {P : α → Prop} {x0 : Option (Nat → Nat → Int32)} {K : (Nat → Nat → Int32) → Option α} {pc : Nat} {lv : List (Nat × Value)} {st as stk : List Value} {n idx : Nat} {c : Nat → Nat → Int32} {y : (Nat → Nat → Int32) × (Nat → Int64) × (Nat → Int64)} (hok : kv_okS N n) (hn : as.length = n) (hl0 : Cond.methodLink M.1.cls idx N.1 ∈ kv_gw) (hst : (st.map fun v => v.category).sum ≤ 8) (hs : as.reverse ++ st = stk) (hd : decode M.2.1 pc = .ok (.invokestatic idx, 3)) (hN : ∀ a, x0 = some a → kv_C N d as (c, y) ((fun a : (Nat → Nat → Int32) => (none, (a, y))) a)) (kk : ∀ (b0 : (Nat → Nat → Int32)), kv_X M (d + 1) o P (K b0) (pc + 3) lv (st) (b0, y)) : kv_X M (d + 1) o P (kv_bind1 x0 K) pc lv stk (c, y) := by
  subst hs
  exact kv_callS (E := (fun a : (Nat → Nat → Int32) => (none, (a, y)))) hok hn hl0 hst hd hN (fun a => kk a)
theorem kv_cS_mI {α : Type} {M N : kv_MI} {d : Nat} {o : Option Value × kv_W} {P : α → Prop} {x0 : Option Int32} {K : Int32 → Option α} {pc : Nat} {lv : List (Nat × Value)} {st as stk : List Value} {n idx : Nat} {c m : Nat → Nat → Int32} {f u : Nat → Int64} (hok : kv_okS N n) (hn : as.length = n) (hl0 : Cond.methodLink M.1.cls idx N.1 ∈ kv_gw) (hst : (st.map fun v => v.category).sum ≤ 8) (hs : as.reverse ++ st = stk) (hd : decode M.2.1 pc = .ok (.invokestatic idx, 3)) (hN : ∀ a, x0 = some a → kv_C N d as (c, m, f, u) ((fun a : Int32 => (some (.int a), (c, m, f, u))) a)) (kk : ∀ (b0 : Int32), kv_X M (d + 1) o P (K b0) (pc + 3) lv (.int b0 :: st) (c, m, f, u)) : kv_X M (d + 1) o P (kv_bind1 x0 K) pc lv stk (c, m, f, u) := by
  subst hs
  exact kv_callS (E := (fun a : Int32 => (some (.int a), (c, m, f, u)))) hok hn hl0 hst hd hN (fun a => kk a)
theorem kv_cS_mZ {α : Type} {M N : kv_MI} {d : Nat} {o : Option Value × kv_W} {P : α → Prop} {x0 : Option Bool} {K : Bool → Option α} {pc : Nat} {lv : List (Nat × Value)} {st as stk : List Value} {n idx : Nat} {c m : Nat → Nat → Int32} {f u : Nat → Int64} (hok : kv_okS N n) (hn : as.length = n) (hl0 : Cond.methodLink M.1.cls idx N.1 ∈ kv_gw) (hst : (st.map fun v => v.category).sum ≤ 8) (hs : as.reverse ++ st = stk) (hd : decode M.2.1 pc = .ok (.invokestatic idx, 3)) (hN : ∀ a, x0 = some a → kv_C N d as (c, m, f, u) ((fun a : Bool => (some (.int (kv_b a)), (c, m, f, u))) a)) (kk : ∀ (b0 : Bool), kv_X M (d + 1) o P (K b0) (pc + 3) lv (.int (kv_b b0) :: st) (c, m, f, u)) : kv_X M (d + 1) o P (kv_bind1 x0 K) pc lv stk (c, m, f, u) := by
  subst hs
  exact kv_callS (E := (fun a : Bool => (some (.int (kv_b a)), (c, m, f, u)))) hok hn hl0 hst hd hN (fun a => kk a)
theorem kv_cV_cI {α : Type} {M N : kv_MI} {d : Nat} {o : Option Value × kv_W} {P : α → Prop} {x0 : Option Int32} {K : Int32 → Option α} {pc : Nat} {lv : List (Nat × Value)} {st as stk : List Value} {n idx : Nat} {c : Nat → Nat → Int32} {y : (Nat → Nat → Int32) × (Nat → Int64) × (Nat → Int64)} {r ci Nf : Nat} {C : String} {T : u_T} {ty : Nat → FieldType} (hok : kv_okV N n) (hoc : kv_okc ci C T Nf ty) (hcn : C = N.1.cls) (hn : as.length = n) (hr : kv_kd r = ci) (hl0 : Cond.methodLink M.1.cls idx N.1 ∈ kv_gw) (hst : (st.map fun v => v.category).sum ≤ 8) (hs : as.reverse ++ .ref r :: st = stk) (hd : decode M.2.1 pc = .ok (.invokevirtual idx, 3)) (hN : ∀ a, x0 = some a → kv_C N d (.ref r :: as) (c, y) ((fun a : Int32 => (some (.int a), (c, y))) a)) (kk : ∀ (b0 : Int32), kv_X M (d + 1) o P (K b0) (pc + 3) lv (.int b0 :: st) (c, y)) : kv_X M (d + 1) o P (kv_bind1 x0 K) pc lv stk (c, y) := by
  subst hs
  exact kv_callV (E := (fun a : Int32 => (some (.int a), (c, y)))) hok hoc hcn hn hr hl0 hst hd hN (fun a => kk a)
theorem kv_cV_cIc {α : Type} {M N : kv_MI} {d : Nat} {o : Option Value × kv_W} {P : α → Prop} {x0 : Option (Int32 × (Nat → Nat → Int32))} {K : Int32 → (Nat → Nat → Int32) → Option α} {pc : Nat} {lv : List (Nat × Value)} {st as stk : List Value} {n idx : Nat} {c : Nat → Nat → Int32} {y : (Nat → Nat → Int32) × (Nat → Int64) × (Nat → Int64)} {r ci Nf : Nat} {C : String} {T : u_T} {ty : Nat → FieldType} (hok : kv_okV N n) (hoc : kv_okc ci C T Nf ty) (hcn : C = N.1.cls) (hn : as.length = n) (hr : kv_kd r = ci) (hl0 : Cond.methodLink M.1.cls idx N.1 ∈ kv_gw) (hst : (st.map fun v => v.category).sum ≤ 8) (hs : as.reverse ++ .ref r :: st = stk) (hd : decode M.2.1 pc = .ok (.invokevirtual idx, 3)) (hN : ∀ a, x0 = some a → kv_C N d (.ref r :: as) (c, y) ((fun a : (Int32 × (Nat → Nat → Int32)) => (some (.int a.1), (a.2, y))) a)) (kk : ∀ (b0 : Int32) (b1 : (Nat → Nat → Int32)), kv_X M (d + 1) o P (K b0 b1) (pc + 3) lv (.int b0 :: st) (b1, y)) : kv_X M (d + 1) o P (kv_bind2 x0 K) pc lv stk (c, y) := by
  subst hs
  exact kv_callV (E := (fun a : (Int32 × (Nat → Nat → Int32)) => (some (.int a.1), (a.2, y)))) hok hoc hcn hn hr hl0 hst hd hN (fun a => kk a.1 a.2)
theorem kv_cV_cZ {α : Type} {M N : kv_MI} {d : Nat} {o : Option Value × kv_W} {P : α → Prop} {x0 : Option Bool} {K : Bool → Option α} {pc : Nat} {lv : List (Nat × Value)} {st as stk : List Value} {n idx : Nat} {c : Nat → Nat → Int32} {y : (Nat → Nat → Int32) × (Nat → Int64) × (Nat → Int64)} {r ci Nf : Nat} {C : String} {T : u_T} {ty : Nat → FieldType} (hok : kv_okV N n) (hoc : kv_okc ci C T Nf ty) (hcn : C = N.1.cls) (hn : as.length = n) (hr : kv_kd r = ci) (hl0 : Cond.methodLink M.1.cls idx N.1 ∈ kv_gw) (hst : (st.map fun v => v.category).sum ≤ 8) (hs : as.reverse ++ .ref r :: st = stk) (hd : decode M.2.1 pc = .ok (.invokevirtual idx, 3)) (hN : ∀ a, x0 = some a → kv_C N d (.ref r :: as) (c, y) ((fun a : Bool => (some (.int (kv_b a)), (c, y))) a)) (kk : ∀ (b0 : Bool), kv_X M (d + 1) o P (K b0) (pc + 3) lv (.int (kv_b b0) :: st) (c, y)) : kv_X M (d + 1) o P (kv_bind1 x0 K) pc lv stk (c, y) := by
  subst hs
  exact kv_callV (E := (fun a : Bool => (some (.int (kv_b a)), (c, y)))) hok hoc hcn hn hr hl0 hst hd hN (fun a => kk a)
theorem kv_cV_cZc {α : Type} {M N : kv_MI} {d : Nat} {o : Option Value × kv_W} {P : α → Prop} {x0 : Option (Bool × (Nat → Nat → Int32))} {K : Bool → (Nat → Nat → Int32) → Option α} {pc : Nat} {lv : List (Nat × Value)} {st as stk : List Value} {n idx : Nat} {c : Nat → Nat → Int32} {y : (Nat → Nat → Int32) × (Nat → Int64) × (Nat → Int64)} {r ci Nf : Nat} {C : String} {T : u_T} {ty : Nat → FieldType} (hok : kv_okV N n) (hoc : kv_okc ci C T Nf ty) (hcn : C = N.1.cls) (hn : as.length = n) (hr : kv_kd r = ci) (hl0 : Cond.methodLink M.1.cls idx N.1 ∈ kv_gw) (hst : (st.map fun v => v.category).sum ≤ 8) (hs : as.reverse ++ .ref r :: st = stk) (hd : decode M.2.1 pc = .ok (.invokevirtual idx, 3)) (hN : ∀ a, x0 = some a → kv_C N d (.ref r :: as) (c, y) ((fun a : (Bool × (Nat → Nat → Int32)) => (some (.int (kv_b a.1)), (a.2, y))) a)) (kk : ∀ (b0 : Bool) (b1 : (Nat → Nat → Int32)), kv_X M (d + 1) o P (K b0 b1) (pc + 3) lv (.int (kv_b b0) :: st) (b1, y)) : kv_X M (d + 1) o P (kv_bind2 x0 K) pc lv stk (c, y) := by
  subst hs
  exact kv_callV (E := (fun a : (Bool × (Nat → Nat → Int32)) => (some (.int (kv_b a.1)), (a.2, y)))) hok hoc hcn hn hr hl0 hst hd hN (fun a => kk a.1 a.2)
theorem kv_cV_cc {α : Type} {M N : kv_MI} {d : Nat} {o : Option Value × kv_W} {P : α → Prop} {x0 : Option (Nat → Nat → Int32)} {K : (Nat → Nat → Int32) → Option α} {pc : Nat} {lv : List (Nat × Value)} {st as stk : List Value} {n idx : Nat} {c : Nat → Nat → Int32} {y : (Nat → Nat → Int32) × (Nat → Int64) × (Nat → Int64)} {r ci Nf : Nat} {C : String} {T : u_T} {ty : Nat → FieldType} (hok : kv_okV N n) (hoc : kv_okc ci C T Nf ty) (hcn : C = N.1.cls) (hn : as.length = n) (hr : kv_kd r = ci) (hl0 : Cond.methodLink M.1.cls idx N.1 ∈ kv_gw) (hst : (st.map fun v => v.category).sum ≤ 8) (hs : as.reverse ++ .ref r :: st = stk) (hd : decode M.2.1 pc = .ok (.invokevirtual idx, 3)) (hN : ∀ a, x0 = some a → kv_C N d (.ref r :: as) (c, y) ((fun a : (Nat → Nat → Int32) => (none, (a, y))) a)) (kk : ∀ (b0 : (Nat → Nat → Int32)), kv_X M (d + 1) o P (K b0) (pc + 3) lv (st) (b0, y)) : kv_X M (d + 1) o P (kv_bind1 x0 K) pc lv stk (c, y) := by
  subst hs
  exact kv_callV (E := (fun a : (Nat → Nat → Int32) => (none, (a, y)))) hok hoc hcn hn hr hl0 hst hd hN (fun a => kk a)
theorem kv_cV_mI {α : Type} {M N : kv_MI} {d : Nat} {o : Option Value × kv_W} {P : α → Prop} {x0 : Option Int32} {K : Int32 → Option α} {pc : Nat} {lv : List (Nat × Value)} {st as stk : List Value} {n idx : Nat} {c m : Nat → Nat → Int32} {f u : Nat → Int64} {r ci Nf : Nat} {C : String} {T : u_T} {ty : Nat → FieldType} (hok : kv_okV N n) (hoc : kv_okc ci C T Nf ty) (hcn : C = N.1.cls) (hn : as.length = n) (hr : kv_kd r = ci) (hl0 : Cond.methodLink M.1.cls idx N.1 ∈ kv_gw) (hst : (st.map fun v => v.category).sum ≤ 8) (hs : as.reverse ++ .ref r :: st = stk) (hd : decode M.2.1 pc = .ok (.invokevirtual idx, 3)) (hN : ∀ a, x0 = some a → kv_C N d (.ref r :: as) (c, m, f, u) ((fun a : Int32 => (some (.int a), (c, m, f, u))) a)) (kk : ∀ (b0 : Int32), kv_X M (d + 1) o P (K b0) (pc + 3) lv (.int b0 :: st) (c, m, f, u)) : kv_X M (d + 1) o P (kv_bind1 x0 K) pc lv stk (c, m, f, u) := by
  subst hs
  exact kv_callV (E := (fun a : Int32 => (some (.int a), (c, m, f, u)))) hok hoc hcn hn hr hl0 hst hd hN (fun a => kk a)
theorem kv_cV_mIm {α : Type} {M N : kv_MI} {d : Nat} {o : Option Value × kv_W} {P : α → Prop} {x0 : Option (Int32 × (Nat → Nat → Int32))} {K : Int32 → (Nat → Nat → Int32) → Option α} {pc : Nat} {lv : List (Nat × Value)} {st as stk : List Value} {n idx : Nat} {c m : Nat → Nat → Int32} {f u : Nat → Int64} {r ci Nf : Nat} {C : String} {T : u_T} {ty : Nat → FieldType} (hok : kv_okV N n) (hoc : kv_okc ci C T Nf ty) (hcn : C = N.1.cls) (hn : as.length = n) (hr : kv_kd r = ci) (hl0 : Cond.methodLink M.1.cls idx N.1 ∈ kv_gw) (hst : (st.map fun v => v.category).sum ≤ 8) (hs : as.reverse ++ .ref r :: st = stk) (hd : decode M.2.1 pc = .ok (.invokevirtual idx, 3)) (hN : ∀ a, x0 = some a → kv_C N d (.ref r :: as) (c, m, f, u) ((fun a : (Int32 × (Nat → Nat → Int32)) => (some (.int a.1), (c, a.2, f, u))) a)) (kk : ∀ (b0 : Int32) (b1 : (Nat → Nat → Int32)), kv_X M (d + 1) o P (K b0 b1) (pc + 3) lv (.int b0 :: st) (c, b1, f, u)) : kv_X M (d + 1) o P (kv_bind2 x0 K) pc lv stk (c, m, f, u) := by
  subst hs
  exact kv_callV (E := (fun a : (Int32 × (Nat → Nat → Int32)) => (some (.int a.1), (c, a.2, f, u)))) hok hoc hcn hn hr hl0 hst hd hN (fun a => kk a.1 a.2)
theorem kv_cV_mJmf {α : Type} {M N : kv_MI} {d : Nat} {o : Option Value × kv_W} {P : α → Prop} {x0 : Option (Int64 × (Nat → Nat → Int32) × (Nat → Int64))} {K : Int64 → (Nat → Nat → Int32) → (Nat → Int64) → Option α} {pc : Nat} {lv : List (Nat × Value)} {st as stk : List Value} {n idx : Nat} {c m : Nat → Nat → Int32} {f u : Nat → Int64} {r ci Nf : Nat} {C : String} {T : u_T} {ty : Nat → FieldType} (hok : kv_okV N n) (hoc : kv_okc ci C T Nf ty) (hcn : C = N.1.cls) (hn : as.length = n) (hr : kv_kd r = ci) (hl0 : Cond.methodLink M.1.cls idx N.1 ∈ kv_gw) (hst : (st.map fun v => v.category).sum ≤ 8) (hs : as.reverse ++ .ref r :: st = stk) (hd : decode M.2.1 pc = .ok (.invokevirtual idx, 3)) (hN : ∀ a, x0 = some a → kv_C N d (.ref r :: as) (c, m, f, u) ((fun a : (Int64 × (Nat → Nat → Int32) × (Nat → Int64)) => (some (.long a.1), (c, a.2.1, a.2.2, u))) a)) (kk : ∀ (b0 : Int64) (b1 : (Nat → Nat → Int32)) (b2 : (Nat → Int64)), kv_X M (d + 1) o P (K b0 b1 b2) (pc + 3) lv (.long b0 :: st) (c, b1, b2, u)) : kv_X M (d + 1) o P (kv_bind3 x0 K) pc lv stk (c, m, f, u) := by
  subst hs
  exact kv_callV (E := (fun a : (Int64 × (Nat → Nat → Int32) × (Nat → Int64)) => (some (.long a.1), (c, a.2.1, a.2.2, u)))) hok hoc hcn hn hr hl0 hst hd hN (fun a => kk a.1 a.2.1 a.2.2)
theorem kv_cV_mZ {α : Type} {M N : kv_MI} {d : Nat} {o : Option Value × kv_W} {P : α → Prop} {x0 : Option Bool} {K : Bool → Option α} {pc : Nat} {lv : List (Nat × Value)} {st as stk : List Value} {n idx : Nat} {c m : Nat → Nat → Int32} {f u : Nat → Int64} {r ci Nf : Nat} {C : String} {T : u_T} {ty : Nat → FieldType} (hok : kv_okV N n) (hoc : kv_okc ci C T Nf ty) (hcn : C = N.1.cls) (hn : as.length = n) (hr : kv_kd r = ci) (hl0 : Cond.methodLink M.1.cls idx N.1 ∈ kv_gw) (hst : (st.map fun v => v.category).sum ≤ 8) (hs : as.reverse ++ .ref r :: st = stk) (hd : decode M.2.1 pc = .ok (.invokevirtual idx, 3)) (hN : ∀ a, x0 = some a → kv_C N d (.ref r :: as) (c, m, f, u) ((fun a : Bool => (some (.int (kv_b a)), (c, m, f, u))) a)) (kk : ∀ (b0 : Bool), kv_X M (d + 1) o P (K b0) (pc + 3) lv (.int (kv_b b0) :: st) (c, m, f, u)) : kv_X M (d + 1) o P (kv_bind1 x0 K) pc lv stk (c, m, f, u) := by
  subst hs
  exact kv_callV (E := (fun a : Bool => (some (.int (kv_b a)), (c, m, f, u)))) hok hoc hcn hn hr hl0 hst hd hN (fun a => kk a)
theorem kv_cV_mZf {α : Type} {M N : kv_MI} {d : Nat} {o : Option Value × kv_W} {P : α → Prop} {x0 : Option (Bool × (Nat → Int64))} {K : Bool → (Nat → Int64) → Option α} {pc : Nat} {lv : List (Nat × Value)} {st as stk : List Value} {n idx : Nat} {c m : Nat → Nat → Int32} {f u : Nat → Int64} {r ci Nf : Nat} {C : String} {T : u_T} {ty : Nat → FieldType} (hok : kv_okV N n) (hoc : kv_okc ci C T Nf ty) (hcn : C = N.1.cls) (hn : as.length = n) (hr : kv_kd r = ci) (hl0 : Cond.methodLink M.1.cls idx N.1 ∈ kv_gw) (hst : (st.map fun v => v.category).sum ≤ 8) (hs : as.reverse ++ .ref r :: st = stk) (hd : decode M.2.1 pc = .ok (.invokevirtual idx, 3)) (hN : ∀ a, x0 = some a → kv_C N d (.ref r :: as) (c, m, f, u) ((fun a : (Bool × (Nat → Int64)) => (some (.int (kv_b a.1)), (c, m, a.2, u))) a)) (kk : ∀ (b0 : Bool) (b1 : (Nat → Int64)), kv_X M (d + 1) o P (K b0 b1) (pc + 3) lv (.int (kv_b b0) :: st) (c, m, b1, u)) : kv_X M (d + 1) o P (kv_bind2 x0 K) pc lv stk (c, m, f, u) := by
  subst hs
  exact kv_callV (E := (fun a : (Bool × (Nat → Int64)) => (some (.int (kv_b a.1)), (c, m, a.2, u)))) hok hoc hcn hn hr hl0 hst hd hN (fun a => kk a.1 a.2)
theorem kv_cV_mZm {α : Type} {M N : kv_MI} {d : Nat} {o : Option Value × kv_W} {P : α → Prop} {x0 : Option (Bool × (Nat → Nat → Int32))} {K : Bool → (Nat → Nat → Int32) → Option α} {pc : Nat} {lv : List (Nat × Value)} {st as stk : List Value} {n idx : Nat} {c m : Nat → Nat → Int32} {f u : Nat → Int64} {r ci Nf : Nat} {C : String} {T : u_T} {ty : Nat → FieldType} (hok : kv_okV N n) (hoc : kv_okc ci C T Nf ty) (hcn : C = N.1.cls) (hn : as.length = n) (hr : kv_kd r = ci) (hl0 : Cond.methodLink M.1.cls idx N.1 ∈ kv_gw) (hst : (st.map fun v => v.category).sum ≤ 8) (hs : as.reverse ++ .ref r :: st = stk) (hd : decode M.2.1 pc = .ok (.invokevirtual idx, 3)) (hN : ∀ a, x0 = some a → kv_C N d (.ref r :: as) (c, m, f, u) ((fun a : (Bool × (Nat → Nat → Int32)) => (some (.int (kv_b a.1)), (c, a.2, f, u))) a)) (kk : ∀ (b0 : Bool) (b1 : (Nat → Nat → Int32)), kv_X M (d + 1) o P (K b0 b1) (pc + 3) lv (.int (kv_b b0) :: st) (c, b1, f, u)) : kv_X M (d + 1) o P (kv_bind2 x0 K) pc lv stk (c, m, f, u) := by
  subst hs
  exact kv_callV (E := (fun a : (Bool × (Nat → Nat → Int32)) => (some (.int (kv_b a.1)), (c, a.2, f, u)))) hok hoc hcn hn hr hl0 hst hd hN (fun a => kk a.1 a.2)
theorem kv_cV_mZmf {α : Type} {M N : kv_MI} {d : Nat} {o : Option Value × kv_W} {P : α → Prop} {x0 : Option (Bool × (Nat → Nat → Int32) × (Nat → Int64))} {K : Bool → (Nat → Nat → Int32) → (Nat → Int64) → Option α} {pc : Nat} {lv : List (Nat × Value)} {st as stk : List Value} {n idx : Nat} {c m : Nat → Nat → Int32} {f u : Nat → Int64} {r ci Nf : Nat} {C : String} {T : u_T} {ty : Nat → FieldType} (hok : kv_okV N n) (hoc : kv_okc ci C T Nf ty) (hcn : C = N.1.cls) (hn : as.length = n) (hr : kv_kd r = ci) (hl0 : Cond.methodLink M.1.cls idx N.1 ∈ kv_gw) (hst : (st.map fun v => v.category).sum ≤ 8) (hs : as.reverse ++ .ref r :: st = stk) (hd : decode M.2.1 pc = .ok (.invokevirtual idx, 3)) (hN : ∀ a, x0 = some a → kv_C N d (.ref r :: as) (c, m, f, u) ((fun a : (Bool × (Nat → Nat → Int32) × (Nat → Int64)) => (some (.int (kv_b a.1)), (c, a.2.1, a.2.2, u))) a)) (kk : ∀ (b0 : Bool) (b1 : (Nat → Nat → Int32)) (b2 : (Nat → Int64)), kv_X M (d + 1) o P (K b0 b1 b2) (pc + 3) lv (.int (kv_b b0) :: st) (c, b1, b2, u)) : kv_X M (d + 1) o P (kv_bind3 x0 K) pc lv stk (c, m, f, u) := by
  subst hs
  exact kv_callV (E := (fun a : (Bool × (Nat → Nat → Int32) × (Nat → Int64)) => (some (.int (kv_b a.1)), (c, a.2.1, a.2.2, u)))) hok hoc hcn hn hr hl0 hst hd hN (fun a => kk a.1 a.2.1 a.2.2)
theorem kv_cV_mf {α : Type} {M N : kv_MI} {d : Nat} {o : Option Value × kv_W} {P : α → Prop} {x0 : Option (Nat → Int64)} {K : (Nat → Int64) → Option α} {pc : Nat} {lv : List (Nat × Value)} {st as stk : List Value} {n idx : Nat} {c m : Nat → Nat → Int32} {f u : Nat → Int64} {r ci Nf : Nat} {C : String} {T : u_T} {ty : Nat → FieldType} (hok : kv_okV N n) (hoc : kv_okc ci C T Nf ty) (hcn : C = N.1.cls) (hn : as.length = n) (hr : kv_kd r = ci) (hl0 : Cond.methodLink M.1.cls idx N.1 ∈ kv_gw) (hst : (st.map fun v => v.category).sum ≤ 8) (hs : as.reverse ++ .ref r :: st = stk) (hd : decode M.2.1 pc = .ok (.invokevirtual idx, 3)) (hN : ∀ a, x0 = some a → kv_C N d (.ref r :: as) (c, m, f, u) ((fun a : (Nat → Int64) => (none, (c, m, a, u))) a)) (kk : ∀ (b0 : (Nat → Int64)), kv_X M (d + 1) o P (K b0) (pc + 3) lv (st) (c, m, b0, u)) : kv_X M (d + 1) o P (kv_bind1 x0 K) pc lv stk (c, m, f, u) := by
  subst hs
  exact kv_callV (E := (fun a : (Nat → Int64) => (none, (c, m, a, u)))) hok hoc hcn hn hr hl0 hst hd hN (fun a => kk a)
theorem kv_cV_mm {α : Type} {M N : kv_MI} {d : Nat} {o : Option Value × kv_W} {P : α → Prop} {x0 : Option (Nat → Nat → Int32)} {K : (Nat → Nat → Int32) → Option α} {pc : Nat} {lv : List (Nat × Value)} {st as stk : List Value} {n idx : Nat} {c m : Nat → Nat → Int32} {f u : Nat → Int64} {r ci Nf : Nat} {C : String} {T : u_T} {ty : Nat → FieldType} (hok : kv_okV N n) (hoc : kv_okc ci C T Nf ty) (hcn : C = N.1.cls) (hn : as.length = n) (hr : kv_kd r = ci) (hl0 : Cond.methodLink M.1.cls idx N.1 ∈ kv_gw) (hst : (st.map fun v => v.category).sum ≤ 8) (hs : as.reverse ++ .ref r :: st = stk) (hd : decode M.2.1 pc = .ok (.invokevirtual idx, 3)) (hN : ∀ a, x0 = some a → kv_C N d (.ref r :: as) (c, m, f, u) ((fun a : (Nat → Nat → Int32) => (none, (c, a, f, u))) a)) (kk : ∀ (b0 : (Nat → Nat → Int32)), kv_X M (d + 1) o P (K b0) (pc + 3) lv (st) (c, b0, f, u)) : kv_X M (d + 1) o P (kv_bind1 x0 K) pc lv stk (c, m, f, u) := by
  subst hs
  exact kv_callV (E := (fun a : (Nat → Nat → Int32) => (none, (c, a, f, u)))) hok hoc hcn hn hr hl0 hst hd hN (fun a => kk a)
theorem kv_cV_mmf {α : Type} {M N : kv_MI} {d : Nat} {o : Option Value × kv_W} {P : α → Prop} {x0 : Option ((Nat → Nat → Int32) × (Nat → Int64))} {K : (Nat → Nat → Int32) → (Nat → Int64) → Option α} {pc : Nat} {lv : List (Nat × Value)} {st as stk : List Value} {n idx : Nat} {c m : Nat → Nat → Int32} {f u : Nat → Int64} {r ci Nf : Nat} {C : String} {T : u_T} {ty : Nat → FieldType} (hok : kv_okV N n) (hoc : kv_okc ci C T Nf ty) (hcn : C = N.1.cls) (hn : as.length = n) (hr : kv_kd r = ci) (hl0 : Cond.methodLink M.1.cls idx N.1 ∈ kv_gw) (hst : (st.map fun v => v.category).sum ≤ 8) (hs : as.reverse ++ .ref r :: st = stk) (hd : decode M.2.1 pc = .ok (.invokevirtual idx, 3)) (hN : ∀ a, x0 = some a → kv_C N d (.ref r :: as) (c, m, f, u) ((fun a : ((Nat → Nat → Int32) × (Nat → Int64)) => (none, (c, a.1, a.2, u))) a)) (kk : ∀ (b0 : (Nat → Nat → Int32)) (b1 : (Nat → Int64)), kv_X M (d + 1) o P (K b0 b1) (pc + 3) lv (st) (c, b0, b1, u)) : kv_X M (d + 1) o P (kv_bind2 x0 K) pc lv stk (c, m, f, u) := by
  subst hs
  exact kv_callV (E := (fun a : ((Nat → Nat → Int32) × (Nat → Int64)) => (none, (c, a.1, a.2, u)))) hok hoc hcn hn hr hl0 hst hd hN (fun a => kk a.1 a.2)
def kv_u0 {β : Type} (K : β) (e : Unit) : β := K
def kv_u1 {A0 β : Type} (K : A0 → β) (e : A0) : β := K e
def kv_u2 {A0 A1 β : Type} (K : A0 → A1 → β) (e : A0 × A1) : β := K e.1 e.2
def kv_u3 {A0 A1 A2 β : Type} (K : A0 → A1 → A2 → β) (e : A0 × A1 × A2) : β := K e.1 e.2.1 e.2.2
def kv_u4 {A0 A1 A2 A3 β : Type} (K : A0 → A1 → A2 → A3 → β) (e : A0 × A1 × A2 × A3) : β := K e.1 e.2.1 e.2.2.1 e.2.2.2
def kv_u5 {A0 A1 A2 A3 A4 β : Type} (K : A0 → A1 → A2 → A3 → A4 → β) (e : A0 × A1 × A2 × A3 × A4) : β := K e.1 e.2.1 e.2.2.1 e.2.2.2.1 e.2.2.2.2
theorem kv_cut_0 {α : Type} {M : kv_MI} {d : Nat} {o : Option Value × kv_W} {P : α → Prop} {x : Option α} {pc : Nat} {lv : List (Nat × Value)} {st : List Value} {w : kv_W} {J : Option α} {pcj : Nat} {LJ : List (Nat × Value)} {SJ : List Value} {WJ : kv_W} (hj : kv_X M d o P (J) pcj (LJ) (SJ) (WJ)) (k : (kv_X M d o P (J) pcj (LJ) (SJ) (WJ)) → kv_X M d o P x pc lv st w) : kv_X M d o P x pc lv st w := k hj
theorem kv_cut_1 {α G0 : Type} {M : kv_MI} {d : Nat} {o : Option Value × kv_W} {P : α → Prop} {x : Option α} {pc : Nat} {lv : List (Nat × Value)} {st : List Value} {w : kv_W} {J : G0 → Option α} {pcj : Nat} {LJ : G0 → List (Nat × Value)} {SJ : G0 → List Value} {WJ : G0 → kv_W} (hj : ∀ g0, kv_X M d o P (J g0) pcj (LJ g0) (SJ g0) (WJ g0)) (k : (∀ g0, kv_X M d o P (J g0) pcj (LJ g0) (SJ g0) (WJ g0)) → kv_X M d o P x pc lv st w) : kv_X M d o P x pc lv st w := k hj
theorem kv_cut_2 {α G0 G1 : Type} {M : kv_MI} {d : Nat} {o : Option Value × kv_W} {P : α → Prop} {x : Option α} {pc : Nat} {lv : List (Nat × Value)} {st : List Value} {w : kv_W} {J : G0 → G1 → Option α} {pcj : Nat} {LJ : G0 → G1 → List (Nat × Value)} {SJ : G0 → G1 → List Value} {WJ : G0 → G1 → kv_W} (hj : ∀ g0 g1, kv_X M d o P (J g0 g1) pcj (LJ g0 g1) (SJ g0 g1) (WJ g0 g1)) (k : (∀ g0 g1, kv_X M d o P (J g0 g1) pcj (LJ g0 g1) (SJ g0 g1) (WJ g0 g1)) → kv_X M d o P x pc lv st w) : kv_X M d o P x pc lv st w := k hj
theorem kv_cut_3 {α G0 G1 G2 : Type} {M : kv_MI} {d : Nat} {o : Option Value × kv_W} {P : α → Prop} {x : Option α} {pc : Nat} {lv : List (Nat × Value)} {st : List Value} {w : kv_W} {J : G0 → G1 → G2 → Option α} {pcj : Nat} {LJ : G0 → G1 → G2 → List (Nat × Value)} {SJ : G0 → G1 → G2 → List Value} {WJ : G0 → G1 → G2 → kv_W} (hj : ∀ g0 g1 g2, kv_X M d o P (J g0 g1 g2) pcj (LJ g0 g1 g2) (SJ g0 g1 g2) (WJ g0 g1 g2)) (k : (∀ g0 g1 g2, kv_X M d o P (J g0 g1 g2) pcj (LJ g0 g1 g2) (SJ g0 g1 g2) (WJ g0 g1 g2)) → kv_X M d o P x pc lv st w) : kv_X M d o P x pc lv st w := k hj
theorem kv_cut_4 {α G0 G1 G2 G3 : Type} {M : kv_MI} {d : Nat} {o : Option Value × kv_W} {P : α → Prop} {x : Option α} {pc : Nat} {lv : List (Nat × Value)} {st : List Value} {w : kv_W} {J : G0 → G1 → G2 → G3 → Option α} {pcj : Nat} {LJ : G0 → G1 → G2 → G3 → List (Nat × Value)} {SJ : G0 → G1 → G2 → G3 → List Value} {WJ : G0 → G1 → G2 → G3 → kv_W} (hj : ∀ g0 g1 g2 g3, kv_X M d o P (J g0 g1 g2 g3) pcj (LJ g0 g1 g2 g3) (SJ g0 g1 g2 g3) (WJ g0 g1 g2 g3)) (k : (∀ g0 g1 g2 g3, kv_X M d o P (J g0 g1 g2 g3) pcj (LJ g0 g1 g2 g3) (SJ g0 g1 g2 g3) (WJ g0 g1 g2 g3)) → kv_X M d o P x pc lv st w) : kv_X M d o P x pc lv st w := k hj
theorem kv_lp_1_0_0 {α A0 : Type} {M : kv_MI} {d : Nat} {o : Option Value × kv_W} {P : α → Prop} {body : A0 → Option ((A0) ⊕ (Unit ⊕ Unit))} {pc : Nat} {LV : A0 → List (Nat × Value)} {WW : A0 → kv_W} {a0 : A0} {K1 : Option α} {pe1 : Nat} {LE1 : List (Nat × Value)} {WE1 : kv_W} {K2 : Option α} {pe2 : Nat} {LE2 : List (Nat × Value)} {WE2 : kv_W} (hk1 : kv_X M d o P (K1) pe1 (LE1) [] (WE1)) (hk2 : kv_X M d o P (K2) pe2 (LE2) [] (WE2)) (hb : ((∃ a, (Sum.elim (kv_u0 K1) (kv_u0 K2)) (.inl ()) = some a ∧ P a) → kv_B M d o pe1 (LE1) [] (WE1)) → ((∃ a, (Sum.elim (kv_u0 K1) (kv_u0 K2)) (.inr ()) = some a ∧ P a) → kv_B M d o pe2 (LE2) [] (WE2)) → ∀ a0, kv_X M d o (Sum.elim (fun s2 => kv_B M d o pc (kv_u1 LV s2) [] (kv_u1 WW s2)) (fun r => ∃ a, (Sum.elim (kv_u0 K1) (kv_u0 K2)) r = some a ∧ P a)) (body a0) pc (LV a0) [] (WW a0)) : kv_X M d o P ((kv_loop (kv_u1 body) a0).bind (Sum.elim (kv_u0 K1) (kv_u0 K2))) pc (LV a0) [] (WW a0) :=
  kv_loopR (kv_u1 LV) (kv_u1 WW) a0 (fun s => hb (kv_exit (K := (Sum.elim (kv_u0 K1) (kv_u0 K2))) (r := (.inl ())) (hk1)) (kv_exit (K := (Sum.elim (kv_u0 K1) (kv_u0 K2))) (r := (.inr ())) (hk2)) s)
theorem kv_lp_1_1_0 {α A0 B0 : Type} {M : kv_MI} {d : Nat} {o : Option Value × kv_W} {P : α → Prop} {body : A0 → Option ((A0) ⊕ ((B0) ⊕ Unit))} {pc : Nat} {LV : A0 → List (Nat × Value)} {WW : A0 → kv_W} {a0 : A0} {K1 : B0 → Option α} {pe1 : Nat} {LE1 : B0 → List (Nat × Value)} {WE1 : B0 → kv_W} {K2 : Option α} {pe2 : Nat} {LE2 : List (Nat × Value)} {WE2 : kv_W} (hk1 : ∀ b0, kv_X M d o P (K1 b0) pe1 (LE1 b0) [] (WE1 b0)) (hk2 : kv_X M d o P (K2) pe2 (LE2) [] (WE2)) (hb : (∀ b0, (∃ a, (Sum.elim (kv_u1 K1) (kv_u0 K2)) (.inl b0) = some a ∧ P a) → kv_B M d o pe1 (LE1 b0) [] (WE1 b0)) → ((∃ a, (Sum.elim (kv_u1 K1) (kv_u0 K2)) (.inr ()) = some a ∧ P a) → kv_B M d o pe2 (LE2) [] (WE2)) → ∀ a0, kv_X M d o (Sum.elim (fun s2 => kv_B M d o pc (kv_u1 LV s2) [] (kv_u1 WW s2)) (fun r => ∃ a, (Sum.elim (kv_u1 K1) (kv_u0 K2)) r = some a ∧ P a)) (body a0) pc (LV a0) [] (WW a0)) : kv_X M d o P ((kv_loop (kv_u1 body) a0).bind (Sum.elim (kv_u1 K1) (kv_u0 K2))) pc (LV a0) [] (WW a0) :=
  kv_loopR (kv_u1 LV) (kv_u1 WW) a0 (fun s => hb (fun b0 => kv_exit (K := (Sum.elim (kv_u1 K1) (kv_u0 K2))) (r := (.inl b0)) (hk1 b0)) (kv_exit (K := (Sum.elim (kv_u1 K1) (kv_u0 K2))) (r := (.inr ())) (hk2)) s)
theorem kv_lp_1_1_1 {α A0 B0 C0 : Type} {M : kv_MI} {d : Nat} {o : Option Value × kv_W} {P : α → Prop} {body : A0 → Option ((A0) ⊕ ((B0) ⊕ (C0)))} {pc : Nat} {LV : A0 → List (Nat × Value)} {WW : A0 → kv_W} {a0 : A0} {K1 : B0 → Option α} {pe1 : Nat} {LE1 : B0 → List (Nat × Value)} {WE1 : B0 → kv_W} {K2 : C0 → Option α} {pe2 : Nat} {LE2 : C0 → List (Nat × Value)} {WE2 : C0 → kv_W} (hk1 : ∀ b0, kv_X M d o P (K1 b0) pe1 (LE1 b0) [] (WE1 b0)) (hk2 : ∀ c0, kv_X M d o P (K2 c0) pe2 (LE2 c0) [] (WE2 c0)) (hb : (∀ b0, (∃ a, (Sum.elim (kv_u1 K1) (kv_u1 K2)) (.inl b0) = some a ∧ P a) → kv_B M d o pe1 (LE1 b0) [] (WE1 b0)) → (∀ c0, (∃ a, (Sum.elim (kv_u1 K1) (kv_u1 K2)) (.inr c0) = some a ∧ P a) → kv_B M d o pe2 (LE2 c0) [] (WE2 c0)) → ∀ a0, kv_X M d o (Sum.elim (fun s2 => kv_B M d o pc (kv_u1 LV s2) [] (kv_u1 WW s2)) (fun r => ∃ a, (Sum.elim (kv_u1 K1) (kv_u1 K2)) r = some a ∧ P a)) (body a0) pc (LV a0) [] (WW a0)) : kv_X M d o P ((kv_loop (kv_u1 body) a0).bind (Sum.elim (kv_u1 K1) (kv_u1 K2))) pc (LV a0) [] (WW a0) :=
  kv_loopR (kv_u1 LV) (kv_u1 WW) a0 (fun s => hb (fun b0 => kv_exit (K := (Sum.elim (kv_u1 K1) (kv_u1 K2))) (r := (.inl b0)) (hk1 b0)) (fun c0 => kv_exit (K := (Sum.elim (kv_u1 K1) (kv_u1 K2))) (r := (.inr c0)) (hk2 c0)) s)
theorem kv_lp_2_1 {α A0 A1 B0 : Type} {M : kv_MI} {d : Nat} {o : Option Value × kv_W} {P : α → Prop} {body : A0 → A1 → Option ((A0 × A1) ⊕ (B0))} {pc : Nat} {LV : A0 → A1 → List (Nat × Value)} {WW : A0 → A1 → kv_W} {a0 : A0} {a1 : A1} {K1 : B0 → Option α} {pe1 : Nat} {LE1 : B0 → List (Nat × Value)} {WE1 : B0 → kv_W} (hk1 : ∀ b0, kv_X M d o P (K1 b0) pe1 (LE1 b0) [] (WE1 b0)) (hb : (∀ b0, (∃ a, (kv_u1 K1) b0 = some a ∧ P a) → kv_B M d o pe1 (LE1 b0) [] (WE1 b0)) → ∀ a0 a1, kv_X M d o (Sum.elim (fun s2 => kv_B M d o pc (kv_u2 LV s2) [] (kv_u2 WW s2)) (fun r => ∃ a, (kv_u1 K1) r = some a ∧ P a)) (body a0 a1) pc (LV a0 a1) [] (WW a0 a1)) : kv_X M d o P ((kv_loop (kv_u2 body) (a0, a1)).bind (kv_u1 K1)) pc (LV a0 a1) [] (WW a0 a1) :=
  kv_loopR (kv_u2 LV) (kv_u2 WW) (a0, a1) (fun s => hb (fun b0 => kv_exit (K := (kv_u1 K1)) (r := b0) (hk1 b0)) s.1 s.2)
theorem kv_lp_2_1_1 {α A0 A1 B0 C0 : Type} {M : kv_MI} {d : Nat} {o : Option Value × kv_W} {P : α → Prop} {body : A0 → A1 → Option ((A0 × A1) ⊕ ((B0) ⊕ (C0)))} {pc : Nat} {LV : A0 → A1 → List (Nat × Value)} {WW : A0 → A1 → kv_W} {a0 : A0} {a1 : A1} {K1 : B0 → Option α} {pe1 : Nat} {LE1 : B0 → List (Nat × Value)} {WE1 : B0 → kv_W} {K2 : C0 → Option α} {pe2 : Nat} {LE2 : C0 → List (Nat × Value)} {WE2 : C0 → kv_W} (hk1 : ∀ b0, kv_X M d o P (K1 b0) pe1 (LE1 b0) [] (WE1 b0)) (hk2 : ∀ c0, kv_X M d o P (K2 c0) pe2 (LE2 c0) [] (WE2 c0)) (hb : (∀ b0, (∃ a, (Sum.elim (kv_u1 K1) (kv_u1 K2)) (.inl b0) = some a ∧ P a) → kv_B M d o pe1 (LE1 b0) [] (WE1 b0)) → (∀ c0, (∃ a, (Sum.elim (kv_u1 K1) (kv_u1 K2)) (.inr c0) = some a ∧ P a) → kv_B M d o pe2 (LE2 c0) [] (WE2 c0)) → ∀ a0 a1, kv_X M d o (Sum.elim (fun s2 => kv_B M d o pc (kv_u2 LV s2) [] (kv_u2 WW s2)) (fun r => ∃ a, (Sum.elim (kv_u1 K1) (kv_u1 K2)) r = some a ∧ P a)) (body a0 a1) pc (LV a0 a1) [] (WW a0 a1)) : kv_X M d o P ((kv_loop (kv_u2 body) (a0, a1)).bind (Sum.elim (kv_u1 K1) (kv_u1 K2))) pc (LV a0 a1) [] (WW a0 a1) :=
  kv_loopR (kv_u2 LV) (kv_u2 WW) (a0, a1) (fun s => hb (fun b0 => kv_exit (K := (Sum.elim (kv_u1 K1) (kv_u1 K2))) (r := (.inl b0)) (hk1 b0)) (fun c0 => kv_exit (K := (Sum.elim (kv_u1 K1) (kv_u1 K2))) (r := (.inr c0)) (hk2 c0)) s.1 s.2)
theorem kv_lp_2_2 {α A0 A1 B0 B1 : Type} {M : kv_MI} {d : Nat} {o : Option Value × kv_W} {P : α → Prop} {body : A0 → A1 → Option ((A0 × A1) ⊕ (B0 × B1))} {pc : Nat} {LV : A0 → A1 → List (Nat × Value)} {WW : A0 → A1 → kv_W} {a0 : A0} {a1 : A1} {K1 : B0 → B1 → Option α} {pe1 : Nat} {LE1 : B0 → B1 → List (Nat × Value)} {WE1 : B0 → B1 → kv_W} (hk1 : ∀ b0 b1, kv_X M d o P (K1 b0 b1) pe1 (LE1 b0 b1) [] (WE1 b0 b1)) (hb : (∀ b0 b1, (∃ a, (kv_u2 K1) (b0, b1) = some a ∧ P a) → kv_B M d o pe1 (LE1 b0 b1) [] (WE1 b0 b1)) → ∀ a0 a1, kv_X M d o (Sum.elim (fun s2 => kv_B M d o pc (kv_u2 LV s2) [] (kv_u2 WW s2)) (fun r => ∃ a, (kv_u2 K1) r = some a ∧ P a)) (body a0 a1) pc (LV a0 a1) [] (WW a0 a1)) : kv_X M d o P ((kv_loop (kv_u2 body) (a0, a1)).bind (kv_u2 K1)) pc (LV a0 a1) [] (WW a0 a1) :=
  kv_loopR (kv_u2 LV) (kv_u2 WW) (a0, a1) (fun s => hb (fun b0 b1 => kv_exit (K := (kv_u2 K1)) (r := (b0, b1)) (hk1 b0 b1)) s.1 s.2)
theorem kv_lp_2_2_1 {α A0 A1 B0 B1 C0 : Type} {M : kv_MI} {d : Nat} {o : Option Value × kv_W} {P : α → Prop} {body : A0 → A1 → Option ((A0 × A1) ⊕ ((B0 × B1) ⊕ (C0)))} {pc : Nat} {LV : A0 → A1 → List (Nat × Value)} {WW : A0 → A1 → kv_W} {a0 : A0} {a1 : A1} {K1 : B0 → B1 → Option α} {pe1 : Nat} {LE1 : B0 → B1 → List (Nat × Value)} {WE1 : B0 → B1 → kv_W} {K2 : C0 → Option α} {pe2 : Nat} {LE2 : C0 → List (Nat × Value)} {WE2 : C0 → kv_W} (hk1 : ∀ b0 b1, kv_X M d o P (K1 b0 b1) pe1 (LE1 b0 b1) [] (WE1 b0 b1)) (hk2 : ∀ c0, kv_X M d o P (K2 c0) pe2 (LE2 c0) [] (WE2 c0)) (hb : (∀ b0 b1, (∃ a, (Sum.elim (kv_u2 K1) (kv_u1 K2)) (.inl (b0, b1)) = some a ∧ P a) → kv_B M d o pe1 (LE1 b0 b1) [] (WE1 b0 b1)) → (∀ c0, (∃ a, (Sum.elim (kv_u2 K1) (kv_u1 K2)) (.inr c0) = some a ∧ P a) → kv_B M d o pe2 (LE2 c0) [] (WE2 c0)) → ∀ a0 a1, kv_X M d o (Sum.elim (fun s2 => kv_B M d o pc (kv_u2 LV s2) [] (kv_u2 WW s2)) (fun r => ∃ a, (Sum.elim (kv_u2 K1) (kv_u1 K2)) r = some a ∧ P a)) (body a0 a1) pc (LV a0 a1) [] (WW a0 a1)) : kv_X M d o P ((kv_loop (kv_u2 body) (a0, a1)).bind (Sum.elim (kv_u2 K1) (kv_u1 K2))) pc (LV a0 a1) [] (WW a0 a1) :=
  kv_loopR (kv_u2 LV) (kv_u2 WW) (a0, a1) (fun s => hb (fun b0 b1 => kv_exit (K := (Sum.elim (kv_u2 K1) (kv_u1 K2))) (r := (.inl (b0, b1))) (hk1 b0 b1)) (fun c0 => kv_exit (K := (Sum.elim (kv_u2 K1) (kv_u1 K2))) (r := (.inr c0)) (hk2 c0)) s.1 s.2)
theorem kv_lp_2_3_1 {α A0 A1 B0 B1 B2 C0 : Type} {M : kv_MI} {d : Nat} {o : Option Value × kv_W} {P : α → Prop} {body : A0 → A1 → Option ((A0 × A1) ⊕ ((B0 × B1 × B2) ⊕ (C0)))} {pc : Nat} {LV : A0 → A1 → List (Nat × Value)} {WW : A0 → A1 → kv_W} {a0 : A0} {a1 : A1} {K1 : B0 → B1 → B2 → Option α} {pe1 : Nat} {LE1 : B0 → B1 → B2 → List (Nat × Value)} {WE1 : B0 → B1 → B2 → kv_W} {K2 : C0 → Option α} {pe2 : Nat} {LE2 : C0 → List (Nat × Value)} {WE2 : C0 → kv_W} (hk1 : ∀ b0 b1 b2, kv_X M d o P (K1 b0 b1 b2) pe1 (LE1 b0 b1 b2) [] (WE1 b0 b1 b2)) (hk2 : ∀ c0, kv_X M d o P (K2 c0) pe2 (LE2 c0) [] (WE2 c0)) (hb : (∀ b0 b1 b2, (∃ a, (Sum.elim (kv_u3 K1) (kv_u1 K2)) (.inl (b0, b1, b2)) = some a ∧ P a) → kv_B M d o pe1 (LE1 b0 b1 b2) [] (WE1 b0 b1 b2)) → (∀ c0, (∃ a, (Sum.elim (kv_u3 K1) (kv_u1 K2)) (.inr c0) = some a ∧ P a) → kv_B M d o pe2 (LE2 c0) [] (WE2 c0)) → ∀ a0 a1, kv_X M d o (Sum.elim (fun s2 => kv_B M d o pc (kv_u2 LV s2) [] (kv_u2 WW s2)) (fun r => ∃ a, (Sum.elim (kv_u3 K1) (kv_u1 K2)) r = some a ∧ P a)) (body a0 a1) pc (LV a0 a1) [] (WW a0 a1)) : kv_X M d o P ((kv_loop (kv_u2 body) (a0, a1)).bind (Sum.elim (kv_u3 K1) (kv_u1 K2))) pc (LV a0 a1) [] (WW a0 a1) :=
  kv_loopR (kv_u2 LV) (kv_u2 WW) (a0, a1) (fun s => hb (fun b0 b1 b2 => kv_exit (K := (Sum.elim (kv_u3 K1) (kv_u1 K2))) (r := (.inl (b0, b1, b2))) (hk1 b0 b1 b2)) (fun c0 => kv_exit (K := (Sum.elim (kv_u3 K1) (kv_u1 K2))) (r := (.inr c0)) (hk2 c0)) s.1 s.2)
theorem kv_lp_3_1 {α A0 A1 A2 B0 : Type} {M : kv_MI} {d : Nat} {o : Option Value × kv_W} {P : α → Prop} {body : A0 → A1 → A2 → Option ((A0 × A1 × A2) ⊕ (B0))} {pc : Nat} {LV : A0 → A1 → A2 → List (Nat × Value)} {WW : A0 → A1 → A2 → kv_W} {a0 : A0} {a1 : A1} {a2 : A2} {K1 : B0 → Option α} {pe1 : Nat} {LE1 : B0 → List (Nat × Value)} {WE1 : B0 → kv_W} (hk1 : ∀ b0, kv_X M d o P (K1 b0) pe1 (LE1 b0) [] (WE1 b0)) (hb : (∀ b0, (∃ a, (kv_u1 K1) b0 = some a ∧ P a) → kv_B M d o pe1 (LE1 b0) [] (WE1 b0)) → ∀ a0 a1 a2, kv_X M d o (Sum.elim (fun s2 => kv_B M d o pc (kv_u3 LV s2) [] (kv_u3 WW s2)) (fun r => ∃ a, (kv_u1 K1) r = some a ∧ P a)) (body a0 a1 a2) pc (LV a0 a1 a2) [] (WW a0 a1 a2)) : kv_X M d o P ((kv_loop (kv_u3 body) (a0, a1, a2)).bind (kv_u1 K1)) pc (LV a0 a1 a2) [] (WW a0 a1 a2) :=
  kv_loopR (kv_u3 LV) (kv_u3 WW) (a0, a1, a2) (fun s => hb (fun b0 => kv_exit (K := (kv_u1 K1)) (r := b0) (hk1 b0)) s.1 s.2.1 s.2.2)
theorem kv_lp_3_1_3 {α A0 A1 A2 B0 C0 C1 C2 : Type} {M : kv_MI} {d : Nat} {o : Option Value × kv_W} {P : α → Prop} {body : A0 → A1 → A2 → Option ((A0 × A1 × A2) ⊕ ((B0) ⊕ (C0 × C1 × C2)))} {pc : Nat} {LV : A0 → A1 → A2 → List (Nat × Value)} {WW : A0 → A1 → A2 → kv_W} {a0 : A0} {a1 : A1} {a2 : A2} {K1 : B0 → Option α} {pe1 : Nat} {LE1 : B0 → List (Nat × Value)} {WE1 : B0 → kv_W} {K2 : C0 → C1 → C2 → Option α} {pe2 : Nat} {LE2 : C0 → C1 → C2 → List (Nat × Value)} {WE2 : C0 → C1 → C2 → kv_W} (hk1 : ∀ b0, kv_X M d o P (K1 b0) pe1 (LE1 b0) [] (WE1 b0)) (hk2 : ∀ c0 c1 c2, kv_X M d o P (K2 c0 c1 c2) pe2 (LE2 c0 c1 c2) [] (WE2 c0 c1 c2)) (hb : (∀ b0, (∃ a, (Sum.elim (kv_u1 K1) (kv_u3 K2)) (.inl b0) = some a ∧ P a) → kv_B M d o pe1 (LE1 b0) [] (WE1 b0)) → (∀ c0 c1 c2, (∃ a, (Sum.elim (kv_u1 K1) (kv_u3 K2)) (.inr (c0, c1, c2)) = some a ∧ P a) → kv_B M d o pe2 (LE2 c0 c1 c2) [] (WE2 c0 c1 c2)) → ∀ a0 a1 a2, kv_X M d o (Sum.elim (fun s2 => kv_B M d o pc (kv_u3 LV s2) [] (kv_u3 WW s2)) (fun r => ∃ a, (Sum.elim (kv_u1 K1) (kv_u3 K2)) r = some a ∧ P a)) (body a0 a1 a2) pc (LV a0 a1 a2) [] (WW a0 a1 a2)) : kv_X M d o P ((kv_loop (kv_u3 body) (a0, a1, a2)).bind (Sum.elim (kv_u1 K1) (kv_u3 K2))) pc (LV a0 a1 a2) [] (WW a0 a1 a2) :=
  kv_loopR (kv_u3 LV) (kv_u3 WW) (a0, a1, a2) (fun s => hb (fun b0 => kv_exit (K := (Sum.elim (kv_u1 K1) (kv_u3 K2))) (r := (.inl b0)) (hk1 b0)) (fun c0 c1 c2 => kv_exit (K := (Sum.elim (kv_u1 K1) (kv_u3 K2))) (r := (.inr (c0, c1, c2))) (hk2 c0 c1 c2)) s.1 s.2.1 s.2.2)
theorem kv_lp_3_2 {α A0 A1 A2 B0 B1 : Type} {M : kv_MI} {d : Nat} {o : Option Value × kv_W} {P : α → Prop} {body : A0 → A1 → A2 → Option ((A0 × A1 × A2) ⊕ (B0 × B1))} {pc : Nat} {LV : A0 → A1 → A2 → List (Nat × Value)} {WW : A0 → A1 → A2 → kv_W} {a0 : A0} {a1 : A1} {a2 : A2} {K1 : B0 → B1 → Option α} {pe1 : Nat} {LE1 : B0 → B1 → List (Nat × Value)} {WE1 : B0 → B1 → kv_W} (hk1 : ∀ b0 b1, kv_X M d o P (K1 b0 b1) pe1 (LE1 b0 b1) [] (WE1 b0 b1)) (hb : (∀ b0 b1, (∃ a, (kv_u2 K1) (b0, b1) = some a ∧ P a) → kv_B M d o pe1 (LE1 b0 b1) [] (WE1 b0 b1)) → ∀ a0 a1 a2, kv_X M d o (Sum.elim (fun s2 => kv_B M d o pc (kv_u3 LV s2) [] (kv_u3 WW s2)) (fun r => ∃ a, (kv_u2 K1) r = some a ∧ P a)) (body a0 a1 a2) pc (LV a0 a1 a2) [] (WW a0 a1 a2)) : kv_X M d o P ((kv_loop (kv_u3 body) (a0, a1, a2)).bind (kv_u2 K1)) pc (LV a0 a1 a2) [] (WW a0 a1 a2) :=
  kv_loopR (kv_u3 LV) (kv_u3 WW) (a0, a1, a2) (fun s => hb (fun b0 b1 => kv_exit (K := (kv_u2 K1)) (r := (b0, b1)) (hk1 b0 b1)) s.1 s.2.1 s.2.2)
theorem kv_lp_3_2_2 {α A0 A1 A2 B0 B1 C0 C1 : Type} {M : kv_MI} {d : Nat} {o : Option Value × kv_W} {P : α → Prop} {body : A0 → A1 → A2 → Option ((A0 × A1 × A2) ⊕ ((B0 × B1) ⊕ (C0 × C1)))} {pc : Nat} {LV : A0 → A1 → A2 → List (Nat × Value)} {WW : A0 → A1 → A2 → kv_W} {a0 : A0} {a1 : A1} {a2 : A2} {K1 : B0 → B1 → Option α} {pe1 : Nat} {LE1 : B0 → B1 → List (Nat × Value)} {WE1 : B0 → B1 → kv_W} {K2 : C0 → C1 → Option α} {pe2 : Nat} {LE2 : C0 → C1 → List (Nat × Value)} {WE2 : C0 → C1 → kv_W} (hk1 : ∀ b0 b1, kv_X M d o P (K1 b0 b1) pe1 (LE1 b0 b1) [] (WE1 b0 b1)) (hk2 : ∀ c0 c1, kv_X M d o P (K2 c0 c1) pe2 (LE2 c0 c1) [] (WE2 c0 c1)) (hb : (∀ b0 b1, (∃ a, (Sum.elim (kv_u2 K1) (kv_u2 K2)) (.inl (b0, b1)) = some a ∧ P a) → kv_B M d o pe1 (LE1 b0 b1) [] (WE1 b0 b1)) → (∀ c0 c1, (∃ a, (Sum.elim (kv_u2 K1) (kv_u2 K2)) (.inr (c0, c1)) = some a ∧ P a) → kv_B M d o pe2 (LE2 c0 c1) [] (WE2 c0 c1)) → ∀ a0 a1 a2, kv_X M d o (Sum.elim (fun s2 => kv_B M d o pc (kv_u3 LV s2) [] (kv_u3 WW s2)) (fun r => ∃ a, (Sum.elim (kv_u2 K1) (kv_u2 K2)) r = some a ∧ P a)) (body a0 a1 a2) pc (LV a0 a1 a2) [] (WW a0 a1 a2)) : kv_X M d o P ((kv_loop (kv_u3 body) (a0, a1, a2)).bind (Sum.elim (kv_u2 K1) (kv_u2 K2))) pc (LV a0 a1 a2) [] (WW a0 a1 a2) :=
  kv_loopR (kv_u3 LV) (kv_u3 WW) (a0, a1, a2) (fun s => hb (fun b0 b1 => kv_exit (K := (Sum.elim (kv_u2 K1) (kv_u2 K2))) (r := (.inl (b0, b1))) (hk1 b0 b1)) (fun c0 c1 => kv_exit (K := (Sum.elim (kv_u2 K1) (kv_u2 K2))) (r := (.inr (c0, c1))) (hk2 c0 c1)) s.1 s.2.1 s.2.2)
theorem kv_lp_4_3 {α A0 A1 A2 A3 B0 B1 B2 : Type} {M : kv_MI} {d : Nat} {o : Option Value × kv_W} {P : α → Prop} {body : A0 → A1 → A2 → A3 → Option ((A0 × A1 × A2 × A3) ⊕ (B0 × B1 × B2))} {pc : Nat} {LV : A0 → A1 → A2 → A3 → List (Nat × Value)} {WW : A0 → A1 → A2 → A3 → kv_W} {a0 : A0} {a1 : A1} {a2 : A2} {a3 : A3} {K1 : B0 → B1 → B2 → Option α} {pe1 : Nat} {LE1 : B0 → B1 → B2 → List (Nat × Value)} {WE1 : B0 → B1 → B2 → kv_W} (hk1 : ∀ b0 b1 b2, kv_X M d o P (K1 b0 b1 b2) pe1 (LE1 b0 b1 b2) [] (WE1 b0 b1 b2)) (hb : (∀ b0 b1 b2, (∃ a, (kv_u3 K1) (b0, b1, b2) = some a ∧ P a) → kv_B M d o pe1 (LE1 b0 b1 b2) [] (WE1 b0 b1 b2)) → ∀ a0 a1 a2 a3, kv_X M d o (Sum.elim (fun s2 => kv_B M d o pc (kv_u4 LV s2) [] (kv_u4 WW s2)) (fun r => ∃ a, (kv_u3 K1) r = some a ∧ P a)) (body a0 a1 a2 a3) pc (LV a0 a1 a2 a3) [] (WW a0 a1 a2 a3)) : kv_X M d o P ((kv_loop (kv_u4 body) (a0, a1, a2, a3)).bind (kv_u3 K1)) pc (LV a0 a1 a2 a3) [] (WW a0 a1 a2 a3) :=
  kv_loopR (kv_u4 LV) (kv_u4 WW) (a0, a1, a2, a3) (fun s => hb (fun b0 b1 b2 => kv_exit (K := (kv_u3 K1)) (r := (b0, b1, b2)) (hk1 b0 b1 b2)) s.1 s.2.1 s.2.2.1 s.2.2.2)
theorem kv_lp_4_3_3 {α A0 A1 A2 A3 B0 B1 B2 C0 C1 C2 : Type} {M : kv_MI} {d : Nat} {o : Option Value × kv_W} {P : α → Prop} {body : A0 → A1 → A2 → A3 → Option ((A0 × A1 × A2 × A3) ⊕ ((B0 × B1 × B2) ⊕ (C0 × C1 × C2)))} {pc : Nat} {LV : A0 → A1 → A2 → A3 → List (Nat × Value)} {WW : A0 → A1 → A2 → A3 → kv_W} {a0 : A0} {a1 : A1} {a2 : A2} {a3 : A3} {K1 : B0 → B1 → B2 → Option α} {pe1 : Nat} {LE1 : B0 → B1 → B2 → List (Nat × Value)} {WE1 : B0 → B1 → B2 → kv_W} {K2 : C0 → C1 → C2 → Option α} {pe2 : Nat} {LE2 : C0 → C1 → C2 → List (Nat × Value)} {WE2 : C0 → C1 → C2 → kv_W} (hk1 : ∀ b0 b1 b2, kv_X M d o P (K1 b0 b1 b2) pe1 (LE1 b0 b1 b2) [] (WE1 b0 b1 b2)) (hk2 : ∀ c0 c1 c2, kv_X M d o P (K2 c0 c1 c2) pe2 (LE2 c0 c1 c2) [] (WE2 c0 c1 c2)) (hb : (∀ b0 b1 b2, (∃ a, (Sum.elim (kv_u3 K1) (kv_u3 K2)) (.inl (b0, b1, b2)) = some a ∧ P a) → kv_B M d o pe1 (LE1 b0 b1 b2) [] (WE1 b0 b1 b2)) → (∀ c0 c1 c2, (∃ a, (Sum.elim (kv_u3 K1) (kv_u3 K2)) (.inr (c0, c1, c2)) = some a ∧ P a) → kv_B M d o pe2 (LE2 c0 c1 c2) [] (WE2 c0 c1 c2)) → ∀ a0 a1 a2 a3, kv_X M d o (Sum.elim (fun s2 => kv_B M d o pc (kv_u4 LV s2) [] (kv_u4 WW s2)) (fun r => ∃ a, (Sum.elim (kv_u3 K1) (kv_u3 K2)) r = some a ∧ P a)) (body a0 a1 a2 a3) pc (LV a0 a1 a2 a3) [] (WW a0 a1 a2 a3)) : kv_X M d o P ((kv_loop (kv_u4 body) (a0, a1, a2, a3)).bind (Sum.elim (kv_u3 K1) (kv_u3 K2))) pc (LV a0 a1 a2 a3) [] (WW a0 a1 a2 a3) :=
  kv_loopR (kv_u4 LV) (kv_u4 WW) (a0, a1, a2, a3) (fun s => hb (fun b0 b1 b2 => kv_exit (K := (Sum.elim (kv_u3 K1) (kv_u3 K2))) (r := (.inl (b0, b1, b2))) (hk1 b0 b1 b2)) (fun c0 c1 c2 => kv_exit (K := (Sum.elim (kv_u3 K1) (kv_u3 K2))) (r := (.inr (c0, c1, c2))) (hk2 c0 c1 c2)) s.1 s.2.1 s.2.2.1 s.2.2.2)
theorem kv_lp_5_4 {α A0 A1 A2 A3 A4 B0 B1 B2 B3 : Type} {M : kv_MI} {d : Nat} {o : Option Value × kv_W} {P : α → Prop} {body : A0 → A1 → A2 → A3 → A4 → Option ((A0 × A1 × A2 × A3 × A4) ⊕ (B0 × B1 × B2 × B3))} {pc : Nat} {LV : A0 → A1 → A2 → A3 → A4 → List (Nat × Value)} {WW : A0 → A1 → A2 → A3 → A4 → kv_W} {a0 : A0} {a1 : A1} {a2 : A2} {a3 : A3} {a4 : A4} {K1 : B0 → B1 → B2 → B3 → Option α} {pe1 : Nat} {LE1 : B0 → B1 → B2 → B3 → List (Nat × Value)} {WE1 : B0 → B1 → B2 → B3 → kv_W} (hk1 : ∀ b0 b1 b2 b3, kv_X M d o P (K1 b0 b1 b2 b3) pe1 (LE1 b0 b1 b2 b3) [] (WE1 b0 b1 b2 b3)) (hb : (∀ b0 b1 b2 b3, (∃ a, (kv_u4 K1) (b0, b1, b2, b3) = some a ∧ P a) → kv_B M d o pe1 (LE1 b0 b1 b2 b3) [] (WE1 b0 b1 b2 b3)) → ∀ a0 a1 a2 a3 a4, kv_X M d o (Sum.elim (fun s2 => kv_B M d o pc (kv_u5 LV s2) [] (kv_u5 WW s2)) (fun r => ∃ a, (kv_u4 K1) r = some a ∧ P a)) (body a0 a1 a2 a3 a4) pc (LV a0 a1 a2 a3 a4) [] (WW a0 a1 a2 a3 a4)) : kv_X M d o P ((kv_loop (kv_u5 body) (a0, a1, a2, a3, a4)).bind (kv_u4 K1)) pc (LV a0 a1 a2 a3 a4) [] (WW a0 a1 a2 a3 a4) :=
  kv_loopR (kv_u5 LV) (kv_u5 WW) (a0, a1, a2, a3, a4) (fun s => hb (fun b0 b1 b2 b3 => kv_exit (K := (kv_u4 K1)) (r := (b0, b1, b2, b3)) (hk1 b0 b1 b2 b3)) s.1 s.2.1 s.2.2.1 s.2.2.2.1 s.2.2.2.2)
theorem kkb_m11 : (Int8.ofInt (-11)).toInt32 = (-11 : Int32) := by decide
theorem kkb_m12 : (Int8.ofInt (-12)).toInt32 = (-12 : Int32) := by decide
theorem kkb_m128 : (Int8.ofInt (-128)).toInt32 = (-128 : Int32) := by decide
theorem kkb_m13 : (Int8.ofInt (-13)).toInt32 = (-13 : Int32) := by decide
theorem kkb_m14 : (Int8.ofInt (-14)).toInt32 = (-14 : Int32) := by decide
theorem kkb_m15 : (Int8.ofInt (-15)).toInt32 = (-15 : Int32) := by decide
theorem kkb_m2 : (Int8.ofInt (-2)).toInt32 = (-2 : Int32) := by decide
theorem kkb_m3 : (Int8.ofInt (-3)).toInt32 = (-3 : Int32) := by decide
theorem kkb_m4 : (Int8.ofInt (-4)).toInt32 = (-4 : Int32) := by decide
theorem kkb_m9 : (Int8.ofInt (-9)).toInt32 = (-9 : Int32) := by decide
theorem kkb_m99 : (Int8.ofInt (-99)).toInt32 = (-99 : Int32) := by decide
theorem kkb_10 : (Int8.ofInt (10)).toInt32 = (10 : Int32) := by decide
theorem kkb_100 : (Int8.ofInt (100)).toInt32 = (100 : Int32) := by decide
theorem kkb_109 : (Int8.ofInt (109)).toInt32 = (109 : Int32) := by decide
theorem kkb_111 : (Int8.ofInt (111)).toInt32 = (111 : Int32) := by decide
theorem kkb_12 : (Int8.ofInt (12)).toInt32 = (12 : Int32) := by decide
theorem kkb_124 : (Int8.ofInt (124)).toInt32 = (124 : Int32) := by decide
theorem kkb_13 : (Int8.ofInt (13)).toInt32 = (13 : Int32) := by decide
theorem kkb_16 : (Int8.ofInt (16)).toInt32 = (16 : Int32) := by decide
theorem kkb_20 : (Int8.ofInt (20)).toInt32 = (20 : Int32) := by decide
theorem kkb_26 : (Int8.ofInt (26)).toInt32 = (26 : Int32) := by decide
theorem kkb_40 : (Int8.ofInt (40)).toInt32 = (40 : Int32) := by decide
theorem kkb_41 : (Int8.ofInt (41)).toInt32 = (41 : Int32) := by decide
theorem kkb_42 : (Int8.ofInt (42)).toInt32 = (42 : Int32) := by decide
theorem kkb_43 : (Int8.ofInt (43)).toInt32 = (43 : Int32) := by decide
theorem kkb_44 : (Int8.ofInt (44)).toInt32 = (44 : Int32) := by decide
theorem kkb_45 : (Int8.ofInt (45)).toInt32 = (45 : Int32) := by decide
theorem kkb_47 : (Int8.ofInt (47)).toInt32 = (47 : Int32) := by decide
theorem kkb_48 : (Int8.ofInt (48)).toInt32 = (48 : Int32) := by decide
theorem kkb_50 : (Int8.ofInt (50)).toInt32 = (50 : Int32) := by decide
theorem kkb_57 : (Int8.ofInt (57)).toInt32 = (57 : Int32) := by decide
theorem kkb_58 : (Int8.ofInt (58)).toInt32 = (58 : Int32) := by decide
theorem kkb_59 : (Int8.ofInt (59)).toInt32 = (59 : Int32) := by decide
theorem kkb_6 : (Int8.ofInt (6)).toInt32 = (6 : Int32) := by decide
theorem kkb_63 : (Int8.ofInt (63)).toInt32 = (63 : Int32) := by decide
theorem kkb_7 : (Int8.ofInt (7)).toInt32 = (7 : Int32) := by decide
theorem kkb_70 : (Int8.ofInt (70)).toInt32 = (70 : Int32) := by decide
theorem kkb_76 : (Int8.ofInt (76)).toInt32 = (76 : Int32) := by decide
theorem kkb_8 : (Int8.ofInt (8)).toInt32 = (8 : Int32) := by decide
theorem kkb_80 : (Int8.ofInt (80)).toInt32 = (80 : Int32) := by decide
theorem kkb_9 : (Int8.ofInt (9)).toInt32 = (9 : Int32) := by decide
theorem kkb_99 : (Int8.ofInt (99)).toInt32 = (99 : Int32) := by decide
theorem kkg_0_444 : kv_in (0 : Int32) 444 = true := by decide
theorem kkg_1_444 : kv_in (1 : Int32) 444 = true := by decide
theorem kkg_2_444 : kv_in (2 : Int32) 444 = true := by decide
theorem kkg_3_444 : kv_in (3 : Int32) 444 = true := by decide
theorem kkg_4_444 : kv_in (4 : Int32) 444 = true := by decide
theorem kkg_5_444 : kv_in (5 : Int32) 444 = true := by decide
theorem kkg_6_444 : kv_in (6 : Int32) 444 = true := by decide
theorem kkg_7_444 : kv_in (7 : Int32) 444 = true := by decide
theorem kkg_8_444 : kv_in (8 : Int32) 444 = true := by decide
theorem kki_m1 : Int32.ofInt (-1) = (-1 : Int32) := by decide
theorem kki_0 : Int32.ofInt (0) = (0 : Int32) := by decide
theorem kki_1 : Int32.ofInt (1) = (1 : Int32) := by decide
theorem kki_2 : Int32.ofInt (2) = (2 : Int32) := by decide
theorem kki_3 : Int32.ofInt (3) = (3 : Int32) := by decide
theorem kki_4 : Int32.ofInt (4) = (4 : Int32) := by decide
theorem kki_5 : Int32.ofInt (5) = (5 : Int32) := by decide
theorem kkl_0 : Int64.ofNat ((0 : Fin 2) : Nat) = (0 : Int64) := by decide
theorem kkl_1 : Int64.ofNat ((1 : Fin 2) : Nat) = (1 : Int64) := by decide
theorem kkn_10 : ¬ (10 : Int32) = 0 := by decide
theorem kkn_1000 : ¬ (1000 : Int32) = 0 := by decide
theorem kkn_141 : ¬ (141 : Int32) = 0 := by decide
theorem kkn_3 : ¬ (3 : Int32) = 0 := by decide
theorem kkn_4 : ¬ (4 : Int32) = 0 := by decide
theorem kkn_40 : ¬ (40 : Int32) = 0 := by decide
theorem kkn_65536 : ¬ (65536 : Int32) = 0 := by decide
theorem kks_m1000 : (Int16.ofInt (-1000)).toInt32 = (-1000 : Int32) := by decide
theorem kks_m2000 : (Int16.ofInt (-2000)).toInt32 = (-2000 : Int32) := by decide
theorem kks_m32768 : (Int16.ofInt (-32768)).toInt32 = (-32768 : Int32) := by decide
theorem kks_m999 : (Int16.ofInt (-999)).toInt32 = (-999 : Int32) := by decide
theorem kks_m9999 : (Int16.ofInt (-9999)).toInt32 = (-9999 : Int32) := by decide
theorem kks_1000 : (Int16.ofInt (1000)).toInt32 = (1000 : Int32) := by decide
theorem kks_12345 : (Int16.ofInt (12345)).toInt32 = (12345 : Int32) := by decide
theorem kks_140 : (Int16.ofInt (140)).toInt32 = (140 : Int32) := by decide
theorem kks_141 : (Int16.ofInt (141)).toInt32 = (141 : Int32) := by decide
theorem kks_200 : (Int16.ofInt (200)).toInt32 = (200 : Int32) := by decide
theorem kks_240 : (Int16.ofInt (240)).toInt32 = (240 : Int32) := by decide
theorem kks_340 : (Int16.ofInt (340)).toInt32 = (340 : Int32) := by decide
theorem kks_444 : (Int16.ofInt (444)).toInt32 = (444 : Int32) := by decide
theorem kks_999 : (Int16.ofInt (999)).toInt32 = (999 : Int32) := by decide
theorem kks_9999 : (Int16.ofInt (9999)).toInt32 = (9999 : Int32) := by decide
theorem kkx_0 : ((0 : Int32)).toNatClampNeg = 0 := by decide
theorem kkx_1 : ((1 : Int32)).toNatClampNeg = 1 := by decide
theorem kkx_2 : ((2 : Int32)).toNatClampNeg = 2 := by decide
theorem kkx_3 : ((3 : Int32)).toNatClampNeg = 3 := by decide
theorem kkx_4 : ((4 : Int32)).toNatClampNeg = 4 := by decide
theorem kkx_5 : ((5 : Int32)).toNatClampNeg = 5 := by decide
theorem kkx_6 : ((6 : Int32)).toNatClampNeg = 6 := by decide
theorem kkx_7 : ((7 : Int32)).toNatClampNeg = 7 := by decide
theorem kkx_8 : ((8 : Int32)).toNatClampNeg = 8 := by decide
theorem kv_wmabs : Cond.code Lib.Math.abs.name Lib.Math.abs.code 1 (some .int) ∈ kv_gw := List.mem_filter.mpr ⟨List.mem_of_getElem? (i := 958) (by decide +kernel), by decide +kernel⟩
theorem kv_mabs {α : Type} {M : kv_MI} {d : Nat} {o : Option Value × kv_W} {P : α → Prop} {x : Option α} {pc idx : Nat} {lv : List (Nat × Value)} {st : List Value} {w : kv_W} {a : Int32} (h1 : Cond.methodLink M.1.cls idx Lib.Math.abs.name ∈ kv_gw) (h2 : Cond.static Lib.Math.abs.name ∈ kv_gw) (h3 : Cond.initialized "java/lang/Math" ∈ kv_gw) (h4 : Cond.code Lib.Math.abs.name Lib.Math.abs.code 1 (some .int) ∈ kv_gw) (hst : (st.map fun v => v.category).sum ≤ 8) (hd : decode M.2.1 pc = .ok (.invokestatic idx, 3)) (k : kv_X M (d + 1) o P x (pc + 3) lv (.int (if 0 ≤ a then a else 0 - a) :: st) w) : kv_X M (d + 1) o P x pc lv (.int a :: st) w := by
  intro z hz hp l p e s m args below meth c D cy ad A H locs ls hC hP hS hl
  refine va_mabs (own := M.1.cls) hC.1 hC.2.1 (by rw [hC.2.2.1]; exact hl.1.symm) hC.2.2.2.2.2.1 (kv_hts hC h1) (kv_hts hC h2) (kv_hts hC h3) (kv_hts hC h4) (Nat.succ_le_succ (Nat.zero_le d)) ?_ (Nat.zero_le _) (Nat.zero_le _) hd (k z hz hp l p e s m args below meth c D cy ad A H locs ls hC hP hS hl)
  have e1 := kv_sum8 ad hst
  have e3 : (kv_rm (d + 1)).locals = 64 * (d + 1) := rfl
  omega
theorem kv_wmmax : Cond.code Lib.Math.max.name Lib.Math.max.code 2 (some .int) ∈ kv_gw := List.mem_filter.mpr ⟨List.mem_of_getElem? (i := 978) (by decide +kernel), by decide +kernel⟩
theorem kv_mmax {α : Type} {M : kv_MI} {d : Nat} {o : Option Value × kv_W} {P : α → Prop} {x : Option α} {pc idx : Nat} {lv : List (Nat × Value)} {st : List Value} {w : kv_W} {a b : Int32} (h1 : Cond.methodLink M.1.cls idx Lib.Math.max.name ∈ kv_gw) (h2 : Cond.static Lib.Math.max.name ∈ kv_gw) (h3 : Cond.initialized "java/lang/Math" ∈ kv_gw) (h4 : Cond.code Lib.Math.max.name Lib.Math.max.code 2 (some .int) ∈ kv_gw) (hst : (st.map fun v => v.category).sum ≤ 8) (hd : decode M.2.1 pc = .ok (.invokestatic idx, 3)) (k : kv_X M (d + 1) o P x (pc + 3) lv (.int (if a < b then b else a) :: st) w) : kv_X M (d + 1) o P x pc lv (.int b :: .int a :: st) w := by
  intro z hz hp l p e s m args below meth c D cy ad A H locs ls hC hP hS hl
  refine va_mmax (own := M.1.cls) hC.1 hC.2.1 (by rw [hC.2.2.1]; exact hl.1.symm) hC.2.2.2.2.2.1 (kv_hts hC h1) (kv_hts hC h2) (kv_hts hC h3) (kv_hts hC h4) (Nat.succ_le_succ (Nat.zero_le d)) ?_ (Nat.zero_le _) (Nat.zero_le _) hd (k z hz hp l p e s m args below meth c D cy ad A H locs ls hC hP hS hl)
  have e1 := kv_sum8 ad hst
  have e3 : (kv_rm (d + 1)).locals = 64 * (d + 1) := rfl
  omega
theorem kv_wmmin : Cond.code Lib.Math.min.name Lib.Math.min.code 2 (some .int) ∈ kv_gw := List.mem_filter.mpr ⟨List.mem_of_getElem? (i := 981) (by decide +kernel), by decide +kernel⟩
theorem kv_mmin {α : Type} {M : kv_MI} {d : Nat} {o : Option Value × kv_W} {P : α → Prop} {x : Option α} {pc idx : Nat} {lv : List (Nat × Value)} {st : List Value} {w : kv_W} {a b : Int32} (h1 : Cond.methodLink M.1.cls idx Lib.Math.min.name ∈ kv_gw) (h2 : Cond.static Lib.Math.min.name ∈ kv_gw) (h3 : Cond.initialized "java/lang/Math" ∈ kv_gw) (h4 : Cond.code Lib.Math.min.name Lib.Math.min.code 2 (some .int) ∈ kv_gw) (hst : (st.map fun v => v.category).sum ≤ 8) (hd : decode M.2.1 pc = .ok (.invokestatic idx, 3)) (k : kv_X M (d + 1) o P x (pc + 3) lv (.int (if b < a then b else a) :: st) w) : kv_X M (d + 1) o P x pc lv (.int b :: .int a :: st) w := by
  intro z hz hp l p e s m args below meth c D cy ad A H locs ls hC hP hS hl
  refine va_mmin (own := M.1.cls) hC.1 hC.2.1 (by rw [hC.2.2.1]; exact hl.1.symm) hC.2.2.2.2.2.1 (kv_hts hC h1) (kv_hts hC h2) (kv_hts hC h3) (kv_hts hC h4) (Nat.succ_le_succ (Nat.zero_le d)) ?_ (Nat.zero_le _) (Nat.zero_le _) hd (k z hz hp l p e s m args below meth c D cy ad A H locs ls hC hP hS hl)
  have e1 := kv_sum8 ad hst
  have e3 : (kv_rm (d + 1)).locals = 64 * (d + 1) := rfl
  omega
