/-! ===== words and names that the methods use ===== -/
theorem kv_7a : ∀ r, r < kv_N → kv_kd r = 7 → r < kv_NC ∧ kv_kd (kv_tg r 0) = 12 ∧ kv_tg r 0 < kv_NC ∧ kv_ln (kv_tg r 0) = 100 := by decide +kernel
theorem kv_7nc {r : Nat} (h : kv_kd r = 7) : r < kv_NC := (kv_7a r (kv_kd_lt h (by decide)) h).1
theorem kv_7e {r : Nat} (h : kv_kd r = 7) : kv_kd (kv_tg r 0) = 12 := (kv_7a r (kv_kd_lt h (by decide)) h).2.1
theorem kv_7enc {r : Nat} (h : kv_kd r = 7) : kv_tg r 0 < kv_NC := (kv_7a r (kv_kd_lt h (by decide)) h).2.2.1
theorem kv_7eln {r : Nat} (h : kv_kd r = 7) : kv_ln (kv_tg r 0) = 100 := (kv_7a r (kv_kd_lt h (by decide)) h).2.2.2
theorem kv_in_lt {i : Int32} {n : Nat} (h : kv_in i n = true) : i.toNatClampNeg < n := by
  have := kv_in_vp h
  exact Nat.not_le.mp fun q => this (Or.inr q)
theorem kv_sha : ∀ k, k < 8 → kv_kd (kv_tg 51 k) = 7 := by decide +kernel
theorem kv_sh {i : Int32} (h : kv_in i 8 = true) : kv_kd (kv_tg 51 i.toNatClampNeg) = 7 := kv_sha _ (kv_in_lt h)
theorem kv_fra : ∀ k, k < 5 → kv_kd (kv_tg 78 k) = 12 ∧ kv_tg 78 k < kv_NC ∧ kv_ln (kv_tg 78 k) = 100 := by decide +kernel
theorem kv_fr {i : Int32} (h : kv_in i 5 = true) : kv_kd (kv_tg 78 i.toNatClampNeg) = 12 := (kv_fra _ (kv_in_lt h)).1
theorem kv_frnc {i : Int32} (h : kv_in i 5 = true) : kv_tg 78 i.toNatClampNeg < kv_NC := (kv_fra _ (kv_in_lt h)).2.1
theorem kv_frln {i : Int32} (h : kv_in i 5 = true) : kv_ln (kv_tg 78 i.toNatClampNeg) = 100 := (kv_fra _ (kv_in_lt h)).2.2
theorem kv_ne {a : Int32} (v : Int32) {k : Int} (hv : v.toInt = k) (h : a ≠ v) : a.toInt ≠ k := by
  intro q
  apply h
  rw [← Int32.toInt_inj, q, hv]
theorem kv_lays {C : String} {T : u_T} {N : Nat} (h : ∀ k, k < N → u_lay C T k ∈ kv_gw) : ∀ w ∈ u_ws C T N, w ∈ kv_gw := by
  intro w hw
  obtain ⟨k, hk, rfl⟩ := List.mem_map.mp hw
  exact h k (List.mem_range.mp hk)

theorem kw_20 : (Jvm.Cond.selects "KeptLumpModel" ({ cls := "KeptLumpModel", name := "isLump", desc := "(I)Z" } : Jvm.MethodName) ({ cls := "KeptLumpModel", name := "isLump", desc := "(I)Z" } : Jvm.MethodName)) ∈ kv_gw := List.mem_filter.mpr ⟨List.mem_of_getElem? (i := 20) (by decide +kernel), by decide +kernel⟩
theorem kw_23 : (Jvm.Cond.selects "KeptLumpModel" ({ cls := "KeptLumpModel", name := "tells", desc := "(IIIII)V" } : Jvm.MethodName) ({ cls := "KeptLumpModel", name := "tells", desc := "(IIIII)V" } : Jvm.MethodName)) ∈ kv_gw := List.mem_filter.mpr ⟨List.mem_of_getElem? (i := 23) (by decide +kernel), by decide +kernel⟩
theorem kw_24 : (Jvm.Cond.selects "KeptLumpModel" ({ cls := "KeptLumpModel", name := "wrongRow", desc := "(II)I" } : Jvm.MethodName) ({ cls := "KeptLumpModel", name := "wrongRow", desc := "(II)I" } : Jvm.MethodName)) ∈ kv_gw := List.mem_filter.mpr ⟨List.mem_of_getElem? (i := 24) (by decide +kernel), by decide +kernel⟩
theorem kw_25 : (Jvm.Cond.selects "KeptLumpModel" ({ cls := "KeptLumpModel", name := "isLost", desc := "(II)Z" } : Jvm.MethodName) ({ cls := "KeptLumpModel", name := "isLost", desc := "(II)Z" } : Jvm.MethodName)) ∈ kv_gw := List.mem_filter.mpr ⟨List.mem_of_getElem? (i := 25) (by decide +kernel), by decide +kernel⟩
theorem kw_66 : (Jvm.Cond.initialized "KeptLump") ∈ kv_gw := List.mem_filter.mpr ⟨List.mem_of_getElem? (i := 66) (by decide +kernel), by decide +kernel⟩
theorem kw_67 : (Jvm.Cond.initialized "KeptLump$State") ∈ kv_gw := List.mem_filter.mpr ⟨List.mem_of_getElem? (i := 67) (by decide +kernel), by decide +kernel⟩
theorem kw_68 : (Jvm.Cond.initialized "KeptLump$Lumps") ∈ kv_gw := List.mem_filter.mpr ⟨List.mem_of_getElem? (i := 68) (by decide +kernel), by decide +kernel⟩
theorem kw_71 : (Jvm.Cond.initialized "KeptLump$Chains") ∈ kv_gw := List.mem_filter.mpr ⟨List.mem_of_getElem? (i := 71) (by decide +kernel), by decide +kernel⟩
theorem kw_73 : (Jvm.Cond.initialized "KeptLump$Shelf") ∈ kv_gw := List.mem_filter.mpr ⟨List.mem_of_getElem? (i := 73) (by decide +kernel), by decide +kernel⟩
theorem kw_78 : (Jvm.Cond.initialized "KeptLumpModel") ∈ kv_gw := List.mem_filter.mpr ⟨List.mem_of_getElem? (i := 78) (by decide +kernel), by decide +kernel⟩
theorem kw_81 : (Jvm.Cond.initialized "java/lang/Math") ∈ kv_gw := List.mem_filter.mpr ⟨List.mem_of_getElem? (i := 81) (by decide +kernel), by decide +kernel⟩
theorem kw_107 : (Jvm.Cond.fieldLink "KeptLump$Lumps" (9 : Nat) "KeptLump$Lumps" "kind" "[I") ∈ kv_gw := List.mem_filter.mpr ⟨List.mem_of_getElem? (i := 107) (by decide +kernel), by decide +kernel⟩
theorem kw_110 : (Jvm.Cond.fieldLink "KeptLump$Shelf" (22 : Nat) "KeptLump$Lumps" "kind" "[I") ∈ kv_gw := List.mem_filter.mpr ⟨List.mem_of_getElem? (i := 110) (by decide +kernel), by decide +kernel⟩
theorem kw_112 : (Jvm.Cond.fieldLink "KeptLump$Lumps" (15 : Nat) "KeptLump$Lumps" "land" "[I") ∈ kv_gw := List.mem_filter.mpr ⟨List.mem_of_getElem? (i := 112) (by decide +kernel), by decide +kernel⟩
theorem kw_114 : (Jvm.Cond.fieldLink "KeptLump$Shelf" (29 : Nat) "KeptLump$Lumps" "land" "[I") ∈ kv_gw := List.mem_filter.mpr ⟨List.mem_of_getElem? (i := 114) (by decide +kernel), by decide +kernel⟩
theorem kw_115 : (Jvm.Cond.fieldLink "KeptLump$Lumps" (18 : Nat) "KeptLump$Lumps" "rate" "[I") ∈ kv_gw := List.mem_filter.mpr ⟨List.mem_of_getElem? (i := 115) (by decide +kernel), by decide +kernel⟩
theorem kw_117 : (Jvm.Cond.fieldLink "KeptLump$Shelf" (34 : Nat) "KeptLump$Lumps" "rate" "[I") ∈ kv_gw := List.mem_filter.mpr ⟨List.mem_of_getElem? (i := 117) (by decide +kernel), by decide +kernel⟩
theorem kw_118 : (Jvm.Cond.fieldLink "KeptLump$Lumps" (21 : Nat) "KeptLump$Lumps" "weight" "[I") ∈ kv_gw := List.mem_filter.mpr ⟨List.mem_of_getElem? (i := 118) (by decide +kernel), by decide +kernel⟩
theorem kw_123 : (Jvm.Cond.fieldLink "KeptLump$Lumps" (27 : Nat) "KeptLump$Lumps" "washings" "[I") ∈ kv_gw := List.mem_filter.mpr ⟨List.mem_of_getElem? (i := 123) (by decide +kernel), by decide +kernel⟩
theorem kw_126 : (Jvm.Cond.fieldLink "KeptLump" (76 : Nat) "KeptLump$Lumps" "air" "[I") ∈ kv_gw := List.mem_filter.mpr ⟨List.mem_of_getElem? (i := 126) (by decide +kernel), by decide +kernel⟩
theorem kw_127 : (Jvm.Cond.fieldLink "KeptLump$Lumps" (33 : Nat) "KeptLump$Lumps" "many" "I") ∈ kv_gw := List.mem_filter.mpr ⟨List.mem_of_getElem? (i := 127) (by decide +kernel), by decide +kernel⟩
theorem kw_129 : (Jvm.Cond.fieldLink "KeptLump" (62 : Nat) "KeptLump$Lumps" "many" "I") ∈ kv_gw := List.mem_filter.mpr ⟨List.mem_of_getElem? (i := 129) (by decide +kernel), by decide +kernel⟩
theorem kw_130 : (Jvm.Cond.laysFinal "KeptLump$Lumps" "KeptLump$Lumps" "kind" "[I") ∈ kv_gw := List.mem_filter.mpr ⟨List.mem_of_getElem? (i := 130) (by decide +kernel), by decide +kernel⟩
theorem kw_132 : (Jvm.Cond.laysFinal "KeptLump$Lumps" "KeptLump$Lumps" "land" "[I") ∈ kv_gw := List.mem_filter.mpr ⟨List.mem_of_getElem? (i := 132) (by decide +kernel), by decide +kernel⟩
theorem kw_134 : (Jvm.Cond.laysFinal "KeptLump$Lumps" "KeptLump$Lumps" "rate" "[I") ∈ kv_gw := List.mem_filter.mpr ⟨List.mem_of_getElem? (i := 134) (by decide +kernel), by decide +kernel⟩
theorem kw_136 : (Jvm.Cond.laysFinal "KeptLump$Lumps" "KeptLump$Lumps" "weight" "[I") ∈ kv_gw := List.mem_filter.mpr ⟨List.mem_of_getElem? (i := 136) (by decide +kernel), by decide +kernel⟩
theorem kw_138 : (Jvm.Cond.laysFinal "KeptLump$Lumps" "KeptLump$Lumps" "washedIn" "[I") ∈ kv_gw := List.mem_filter.mpr ⟨List.mem_of_getElem? (i := 138) (by decide +kernel), by decide +kernel⟩
theorem kw_140 : (Jvm.Cond.laysFinal "KeptLump$Lumps" "KeptLump$Lumps" "washings" "[I") ∈ kv_gw := List.mem_filter.mpr ⟨List.mem_of_getElem? (i := 140) (by decide +kernel), by decide +kernel⟩
theorem kw_142 : (Jvm.Cond.laysFinal "KeptLump$Lumps" "KeptLump$Lumps" "air" "[I") ∈ kv_gw := List.mem_filter.mpr ⟨List.mem_of_getElem? (i := 142) (by decide +kernel), by decide +kernel⟩
theorem kw_144 : (Jvm.Cond.lays "KeptLump$Lumps" "KeptLump$Lumps" "many" "I") ∈ kv_gw := List.mem_filter.mpr ⟨List.mem_of_getElem? (i := 144) (by decide +kernel), by decide +kernel⟩
theorem kw_226 : (Jvm.Cond.fieldLink "KeptLump$Chains" (9 : Nat) "KeptLump$Chains" "part" "[I") ∈ kv_gw := List.mem_filter.mpr ⟨List.mem_of_getElem? (i := 226) (by decide +kernel), by decide +kernel⟩
theorem kw_227 : (Jvm.Cond.fieldLink "KeptLump$Chains" (15 : Nat) "KeptLump$Chains" "doubt" "[I") ∈ kv_gw := List.mem_filter.mpr ⟨List.mem_of_getElem? (i := 227) (by decide +kernel), by decide +kernel⟩
theorem kw_228 : (Jvm.Cond.fieldLink "KeptLump$Chains" (18 : Nat) "KeptLump$Chains" "many" "[I") ∈ kv_gw := List.mem_filter.mpr ⟨List.mem_of_getElem? (i := 228) (by decide +kernel), by decide +kernel⟩
theorem kw_231 : (Jvm.Cond.fieldLink "KeptLump" (311 : Nat) "KeptLump$Chains" "year" "[I") ∈ kv_gw := List.mem_filter.mpr ⟨List.mem_of_getElem? (i := 231) (by decide +kernel), by decide +kernel⟩
theorem kw_232 : (Jvm.Cond.laysFinal "KeptLump$Chains" "KeptLump$Chains" "part" "[I") ∈ kv_gw := List.mem_filter.mpr ⟨List.mem_of_getElem? (i := 232) (by decide +kernel), by decide +kernel⟩
theorem kw_234 : (Jvm.Cond.laysFinal "KeptLump$Chains" "KeptLump$Chains" "doubt" "[I") ∈ kv_gw := List.mem_filter.mpr ⟨List.mem_of_getElem? (i := 234) (by decide +kernel), by decide +kernel⟩
theorem kw_236 : (Jvm.Cond.laysFinal "KeptLump$Chains" "KeptLump$Chains" "many" "[I") ∈ kv_gw := List.mem_filter.mpr ⟨List.mem_of_getElem? (i := 236) (by decide +kernel), by decide +kernel⟩
theorem kw_238 : (Jvm.Cond.laysFinal "KeptLump$Chains" "KeptLump$Chains" "year" "[I") ∈ kv_gw := List.mem_filter.mpr ⟨List.mem_of_getElem? (i := 238) (by decide +kernel), by decide +kernel⟩
theorem kw_245 : (Jvm.Cond.fieldLink "KeptLump" (58 : Nat) "KeptLump$State" "lumps" "LKeptLump$Lumps;") ∈ kv_gw := List.mem_filter.mpr ⟨List.mem_of_getElem? (i := 245) (by decide +kernel), by decide +kernel⟩
theorem kw_255 : (Jvm.Cond.fieldLink "KeptLump" (302 : Nat) "KeptLump$State" "chains" "LKeptLump$Chains;") ∈ kv_gw := List.mem_filter.mpr ⟨List.mem_of_getElem? (i := 255) (by decide +kernel), by decide +kernel⟩
theorem kw_257 : (Jvm.Cond.fieldLink "KeptLump" (85 : Nat) "KeptLump$State" "takes" "[I") ∈ kv_gw := List.mem_filter.mpr ⟨List.mem_of_getElem? (i := 257) (by decide +kernel), by decide +kernel⟩
theorem kw_264 : (Jvm.Cond.fieldLink "KeptLump$State" (47 : Nat) "KeptLump$State" "low" "I") ∈ kv_gw := List.mem_filter.mpr ⟨List.mem_of_getElem? (i := 264) (by decide +kernel), by decide +kernel⟩
theorem kw_265 : (Jvm.Cond.fieldLink "KeptLump" (95 : Nat) "KeptLump$State" "low" "I") ∈ kv_gw := List.mem_filter.mpr ⟨List.mem_of_getElem? (i := 265) (by decide +kernel), by decide +kernel⟩
theorem kw_267 : (Jvm.Cond.fieldLink "KeptLump$State" (50 : Nat) "KeptLump$State" "high" "I") ∈ kv_gw := List.mem_filter.mpr ⟨List.mem_of_getElem? (i := 267) (by decide +kernel), by decide +kernel⟩
theorem kw_268 : (Jvm.Cond.fieldLink "KeptLump" (88 : Nat) "KeptLump$State" "high" "I") ∈ kv_gw := List.mem_filter.mpr ⟨List.mem_of_getElem? (i := 268) (by decide +kernel), by decide +kernel⟩
theorem kw_270 : (Jvm.Cond.laysFinal "KeptLump$State" "KeptLump$State" "lumps" "LKeptLump$Lumps;") ∈ kv_gw := List.mem_filter.mpr ⟨List.mem_of_getElem? (i := 270) (by decide +kernel), by decide +kernel⟩
theorem kw_272 : (Jvm.Cond.laysFinal "KeptLump$State" "KeptLump$State" "weighings" "LKeptLump$Weighings;") ∈ kv_gw := List.mem_filter.mpr ⟨List.mem_of_getElem? (i := 272) (by decide +kernel), by decide +kernel⟩
theorem kw_274 : (Jvm.Cond.laysFinal "KeptLump$State" "KeptLump$State" "law" "LKeptLump$Law;") ∈ kv_gw := List.mem_filter.mpr ⟨List.mem_of_getElem? (i := 274) (by decide +kernel), by decide +kernel⟩
theorem kw_276 : (Jvm.Cond.laysFinal "KeptLump$State" "KeptLump$State" "chains" "LKeptLump$Chains;") ∈ kv_gw := List.mem_filter.mpr ⟨List.mem_of_getElem? (i := 276) (by decide +kernel), by decide +kernel⟩
theorem kw_278 : (Jvm.Cond.laysFinal "KeptLump$State" "KeptLump$State" "takes" "[I") ∈ kv_gw := List.mem_filter.mpr ⟨List.mem_of_getElem? (i := 278) (by decide +kernel), by decide +kernel⟩
theorem kw_280 : (Jvm.Cond.lays "KeptLump$State" "KeptLump$State" "now" "I") ∈ kv_gw := List.mem_filter.mpr ⟨List.mem_of_getElem? (i := 280) (by decide +kernel), by decide +kernel⟩
theorem kw_282 : (Jvm.Cond.lays "KeptLump$State" "KeptLump$State" "z" "I") ∈ kv_gw := List.mem_filter.mpr ⟨List.mem_of_getElem? (i := 282) (by decide +kernel), by decide +kernel⟩
theorem kw_284 : (Jvm.Cond.lays "KeptLump$State" "KeptLump$State" "low" "I") ∈ kv_gw := List.mem_filter.mpr ⟨List.mem_of_getElem? (i := 284) (by decide +kernel), by decide +kernel⟩
theorem kw_286 : (Jvm.Cond.lays "KeptLump$State" "KeptLump$State" "high" "I") ∈ kv_gw := List.mem_filter.mpr ⟨List.mem_of_getElem? (i := 286) (by decide +kernel), by decide +kernel⟩
theorem kw_299 : (Jvm.Cond.fieldLink "KeptLump$Shelf" (15 : Nat) "KeptLump$Shelf" "holds" "I") ∈ kv_gw := List.mem_filter.mpr ⟨List.mem_of_getElem? (i := 299) (by decide +kernel), by decide +kernel⟩
theorem kw_305 : (Jvm.Cond.fieldLink "KeptLump$Shelf" (19 : Nat) "KeptLump$Shelf" "number" "I") ∈ kv_gw := List.mem_filter.mpr ⟨List.mem_of_getElem? (i := 305) (by decide +kernel), by decide +kernel⟩
theorem kw_307 : (Jvm.Cond.fieldLink "KeptLump$Shelf" (27 : Nat) "KeptLump$Shelf" "kind" "I") ∈ kv_gw := List.mem_filter.mpr ⟨List.mem_of_getElem? (i := 307) (by decide +kernel), by decide +kernel⟩
theorem kw_309 : (Jvm.Cond.fieldLink "KeptLump$Shelf" (32 : Nat) "KeptLump$Shelf" "land" "I") ∈ kv_gw := List.mem_filter.mpr ⟨List.mem_of_getElem? (i := 309) (by decide +kernel), by decide +kernel⟩
theorem kw_311 : (Jvm.Cond.fieldLink "KeptLump$Shelf" (37 : Nat) "KeptLump$Shelf" "rate" "I") ∈ kv_gw := List.mem_filter.mpr ⟨List.mem_of_getElem? (i := 311) (by decide +kernel), by decide +kernel⟩
theorem kw_313 : (Jvm.Cond.laysFinal "KeptLump$Shelf" "KeptLump$Shelf" "elements" "[I") ∈ kv_gw := List.mem_filter.mpr ⟨List.mem_of_getElem? (i := 313) (by decide +kernel), by decide +kernel⟩
theorem kw_315 : (Jvm.Cond.lays "KeptLump$Shelf" "KeptLump$Shelf" "holds" "I") ∈ kv_gw := List.mem_filter.mpr ⟨List.mem_of_getElem? (i := 315) (by decide +kernel), by decide +kernel⟩
theorem kw_317 : (Jvm.Cond.lays "KeptLump$Shelf" "KeptLump$Shelf" "sort" "I") ∈ kv_gw := List.mem_filter.mpr ⟨List.mem_of_getElem? (i := 317) (by decide +kernel), by decide +kernel⟩
theorem kw_319 : (Jvm.Cond.lays "KeptLump$Shelf" "KeptLump$Shelf" "size" "I") ∈ kv_gw := List.mem_filter.mpr ⟨List.mem_of_getElem? (i := 319) (by decide +kernel), by decide +kernel⟩
theorem kw_321 : (Jvm.Cond.lays "KeptLump$Shelf" "KeptLump$Shelf" "number" "I") ∈ kv_gw := List.mem_filter.mpr ⟨List.mem_of_getElem? (i := 321) (by decide +kernel), by decide +kernel⟩
theorem kw_323 : (Jvm.Cond.lays "KeptLump$Shelf" "KeptLump$Shelf" "kind" "I") ∈ kv_gw := List.mem_filter.mpr ⟨List.mem_of_getElem? (i := 323) (by decide +kernel), by decide +kernel⟩
theorem kw_325 : (Jvm.Cond.lays "KeptLump$Shelf" "KeptLump$Shelf" "land" "I") ∈ kv_gw := List.mem_filter.mpr ⟨List.mem_of_getElem? (i := 325) (by decide +kernel), by decide +kernel⟩
theorem kw_327 : (Jvm.Cond.lays "KeptLump$Shelf" "KeptLump$Shelf" "rate" "I") ∈ kv_gw := List.mem_filter.mpr ⟨List.mem_of_getElem? (i := 327) (by decide +kernel), by decide +kernel⟩
theorem kw_476 : (Jvm.Cond.fieldLink "KeptLump" (10 : Nat) "KeptLump" "state" "LKeptLump$State;") ∈ kv_gw := List.mem_filter.mpr ⟨List.mem_of_getElem? (i := 476) (by decide +kernel), by decide +kernel⟩
theorem kw_479 : (Jvm.Cond.fieldLink "KeptLump" (21 : Nat) "KeptLump" "shelves" "[LKeptLump$Shelf;") ∈ kv_gw := List.mem_filter.mpr ⟨List.mem_of_getElem? (i := 479) (by decide +kernel), by decide +kernel⟩
theorem kw_485 : (Jvm.Cond.laysFinal "KeptLump" "KeptLump" "state" "LKeptLump$State;") ∈ kv_gw := List.mem_filter.mpr ⟨List.mem_of_getElem? (i := 485) (by decide +kernel), by decide +kernel⟩
theorem kw_487 : (Jvm.Cond.laysFinal "KeptLump" "KeptLump" "pictured" "LKeptLump$State;") ∈ kv_gw := List.mem_filter.mpr ⟨List.mem_of_getElem? (i := 487) (by decide +kernel), by decide +kernel⟩
theorem kw_489 : (Jvm.Cond.lays "KeptLump" "KeptLump" "isPictured" "Z") ∈ kv_gw := List.mem_filter.mpr ⟨List.mem_of_getElem? (i := 489) (by decide +kernel), by decide +kernel⟩
theorem kw_491 : (Jvm.Cond.laysFinal "KeptLump" "KeptLump" "shelves" "[LKeptLump$Shelf;") ∈ kv_gw := List.mem_filter.mpr ⟨List.mem_of_getElem? (i := 491) (by decide +kernel), by decide +kernel⟩
theorem kw_493 : (Jvm.Cond.laysFinal "KeptLump" "KeptLump" "net" "LKeptLump$Net;") ∈ kv_gw := List.mem_filter.mpr ⟨List.mem_of_getElem? (i := 493) (by decide +kernel), by decide +kernel⟩
theorem kw_495 : (Jvm.Cond.laysFinal "KeptLump" "KeptLump" "longNet" "LKeptLump$LongNet;") ∈ kv_gw := List.mem_filter.mpr ⟨List.mem_of_getElem? (i := 495) (by decide +kernel), by decide +kernel⟩
theorem kw_497 : (Jvm.Cond.laysFinal "KeptLump" "KeptLump" "reader" "LKeptLump$Reader;") ∈ kv_gw := List.mem_filter.mpr ⟨List.mem_of_getElem? (i := 497) (by decide +kernel), by decide +kernel⟩
theorem kw_499 : (Jvm.Cond.laysFinal "KeptLump" "KeptLump" "planner" "LKeptLump$Planner;") ∈ kv_gw := List.mem_filter.mpr ⟨List.mem_of_getElem? (i := 499) (by decide +kernel), by decide +kernel⟩
theorem kw_501 : (Jvm.Cond.lays "KeptLump" "KeptLump" "failure" "I") ∈ kv_gw := List.mem_filter.mpr ⟨List.mem_of_getElem? (i := 501) (by decide +kernel), by decide +kernel⟩
theorem kw_508 : (Jvm.Cond.methodLink "KeptLump" (54 : Nat) ({ cls := "KeptLump", name := "isWithin", desc := "(III)Z" } : Jvm.MethodName)) ∈ kv_gw := List.mem_filter.mpr ⟨List.mem_of_getElem? (i := 508) (by decide +kernel), by decide +kernel⟩
theorem kw_509 : (Jvm.Cond.static ({ cls := "KeptLump", name := "isWithin", desc := "(III)Z" } : Jvm.MethodName)) ∈ kv_gw := List.mem_filter.mpr ⟨List.mem_of_getElem? (i := 509) (by decide +kernel), by decide +kernel⟩
theorem kw_510 : (Jvm.Cond.code ({ cls := "KeptLump", name := "isWithin", desc := "(III)Z" } : Jvm.MethodName) prog_1_method_40_code (3 : Nat) (Option.some Jvm.ClassFile.FieldType.boolean)) ∈ kv_gw := List.mem_filter.mpr ⟨List.mem_of_getElem? (i := 510) (by decide +kernel), by decide +kernel⟩
theorem kw_511 : (Jvm.Cond.methodLink "KeptLump" (68 : Nat) ({ cls := "KeptLump$Lumps", name := "primeAt", desc := "()I" } : Jvm.MethodName)) ∈ kv_gw := List.mem_filter.mpr ⟨List.mem_of_getElem? (i := 511) (by decide +kernel), by decide +kernel⟩
theorem kw_512 : (Jvm.Cond.instanceMethod ({ cls := "KeptLump$Lumps", name := "primeAt", desc := "()I" } : Jvm.MethodName)) ∈ kv_gw := List.mem_filter.mpr ⟨List.mem_of_getElem? (i := 512) (by decide +kernel), by decide +kernel⟩
theorem kw_513 : (Jvm.Cond.selects "KeptLump$Lumps" ({ cls := "KeptLump$Lumps", name := "primeAt", desc := "()I" } : Jvm.MethodName) ({ cls := "KeptLump$Lumps", name := "primeAt", desc := "()I" } : Jvm.MethodName)) ∈ kv_gw := List.mem_filter.mpr ⟨List.mem_of_getElem? (i := 513) (by decide +kernel), by decide +kernel⟩
theorem kw_514 : (Jvm.Cond.code ({ cls := "KeptLump$Lumps", name := "primeAt", desc := "()I" } : Jvm.MethodName) prog_5_method_5_code (2 : Nat) (Option.some Jvm.ClassFile.FieldType.int)) ∈ kv_gw := List.mem_filter.mpr ⟨List.mem_of_getElem? (i := 514) (by decide +kernel), by decide +kernel⟩
theorem kw_515 : (Jvm.Cond.methodLink "KeptLump" (72 : Nat) ({ cls := "KeptLump$Lumps", name := "add", desc := "(IIII)I" } : Jvm.MethodName)) ∈ kv_gw := List.mem_filter.mpr ⟨List.mem_of_getElem? (i := 515) (by decide +kernel), by decide +kernel⟩
theorem kw_516 : (Jvm.Cond.instanceMethod ({ cls := "KeptLump$Lumps", name := "add", desc := "(IIII)I" } : Jvm.MethodName)) ∈ kv_gw := List.mem_filter.mpr ⟨List.mem_of_getElem? (i := 516) (by decide +kernel), by decide +kernel⟩
theorem kw_517 : (Jvm.Cond.selects "KeptLump$Lumps" ({ cls := "KeptLump$Lumps", name := "add", desc := "(IIII)I" } : Jvm.MethodName) ({ cls := "KeptLump$Lumps", name := "add", desc := "(IIII)I" } : Jvm.MethodName)) ∈ kv_gw := List.mem_filter.mpr ⟨List.mem_of_getElem? (i := 517) (by decide +kernel), by decide +kernel⟩
theorem kw_518 : (Jvm.Cond.code ({ cls := "KeptLump$Lumps", name := "add", desc := "(IIII)I" } : Jvm.MethodName) prog_5_method_4_code (6 : Nat) (Option.some Jvm.ClassFile.FieldType.int)) ∈ kv_gw := List.mem_filter.mpr ⟨List.mem_of_getElem? (i := 518) (by decide +kernel), by decide +kernel⟩
theorem kw_523 : (Jvm.Cond.methodLink "KeptLump" (80 : Nat) ({ cls := "KeptLump", name := "exchange", desc := "([III)I" } : Jvm.MethodName)) ∈ kv_gw := List.mem_filter.mpr ⟨List.mem_of_getElem? (i := 523) (by decide +kernel), by decide +kernel⟩
theorem kw_524 : (Jvm.Cond.static ({ cls := "KeptLump", name := "exchange", desc := "([III)I" } : Jvm.MethodName)) ∈ kv_gw := List.mem_filter.mpr ⟨List.mem_of_getElem? (i := 524) (by decide +kernel), by decide +kernel⟩
theorem kw_525 : (Jvm.Cond.code ({ cls := "KeptLump", name := "exchange", desc := "([III)I" } : Jvm.MethodName) prog_1_method_45_code (4 : Nat) (Option.some Jvm.ClassFile.FieldType.int)) ∈ kv_gw := List.mem_filter.mpr ⟨List.mem_of_getElem? (i := 525) (by decide +kernel), by decide +kernel⟩
theorem kw_526 : (Jvm.Cond.constant "KeptLump" (84 : Nat) (-1000000001 : Int32)) ∈ kv_gw := List.mem_filter.mpr ⟨List.mem_of_getElem? (i := 526) (by decide +kernel), by decide +kernel⟩
theorem kw_527 : (Jvm.Cond.methodLink "KeptLump" (91 : Nat) ({ cls := "KeptLump$State", name := "exchangeLow", desc := "(I)I" } : Jvm.MethodName)) ∈ kv_gw := List.mem_filter.mpr ⟨List.mem_of_getElem? (i := 527) (by decide +kernel), by decide +kernel⟩
theorem kw_528 : (Jvm.Cond.instanceMethod ({ cls := "KeptLump$State", name := "exchangeLow", desc := "(I)I" } : Jvm.MethodName)) ∈ kv_gw := List.mem_filter.mpr ⟨List.mem_of_getElem? (i := 528) (by decide +kernel), by decide +kernel⟩
theorem kw_529 : (Jvm.Cond.selects "KeptLump$State" ({ cls := "KeptLump$State", name := "exchangeLow", desc := "(I)I" } : Jvm.MethodName) ({ cls := "KeptLump$State", name := "exchangeLow", desc := "(I)I" } : Jvm.MethodName)) ∈ kv_gw := List.mem_filter.mpr ⟨List.mem_of_getElem? (i := 529) (by decide +kernel), by decide +kernel⟩
theorem kw_530 : (Jvm.Cond.code ({ cls := "KeptLump$State", name := "exchangeLow", desc := "(I)I" } : Jvm.MethodName) prog_10_method_2_code (3 : Nat) (Option.some Jvm.ClassFile.FieldType.int)) ∈ kv_gw := List.mem_filter.mpr ⟨List.mem_of_getElem? (i := 530) (by decide +kernel), by decide +kernel⟩
theorem kw_531 : (Jvm.Cond.methodLink "KeptLump" (98 : Nat) ({ cls := "KeptLump$State", name := "exchangeHigh", desc := "(I)I" } : Jvm.MethodName)) ∈ kv_gw := List.mem_filter.mpr ⟨List.mem_of_getElem? (i := 531) (by decide +kernel), by decide +kernel⟩
theorem kw_532 : (Jvm.Cond.instanceMethod ({ cls := "KeptLump$State", name := "exchangeHigh", desc := "(I)I" } : Jvm.MethodName)) ∈ kv_gw := List.mem_filter.mpr ⟨List.mem_of_getElem? (i := 532) (by decide +kernel), by decide +kernel⟩
theorem kw_533 : (Jvm.Cond.selects "KeptLump$State" ({ cls := "KeptLump$State", name := "exchangeHigh", desc := "(I)I" } : Jvm.MethodName) ({ cls := "KeptLump$State", name := "exchangeHigh", desc := "(I)I" } : Jvm.MethodName)) ∈ kv_gw := List.mem_filter.mpr ⟨List.mem_of_getElem? (i := 533) (by decide +kernel), by decide +kernel⟩
theorem kw_534 : (Jvm.Cond.code ({ cls := "KeptLump$State", name := "exchangeHigh", desc := "(I)I" } : Jvm.MethodName) prog_10_method_3_code (3 : Nat) (Option.some Jvm.ClassFile.FieldType.int)) ∈ kv_gw := List.mem_filter.mpr ⟨List.mem_of_getElem? (i := 534) (by decide +kernel), by decide +kernel⟩
theorem kw_539 : (Jvm.Cond.methodLink "KeptLump" (101 : Nat) ({ cls := "KeptLump$Lumps", name := "has", desc := "(I)Z" } : Jvm.MethodName)) ∈ kv_gw := List.mem_filter.mpr ⟨List.mem_of_getElem? (i := 539) (by decide +kernel), by decide +kernel⟩
theorem kw_540 : (Jvm.Cond.instanceMethod ({ cls := "KeptLump$Lumps", name := "has", desc := "(I)Z" } : Jvm.MethodName)) ∈ kv_gw := List.mem_filter.mpr ⟨List.mem_of_getElem? (i := 540) (by decide +kernel), by decide +kernel⟩
theorem kw_541 : (Jvm.Cond.selects "KeptLump$Lumps" ({ cls := "KeptLump$Lumps", name := "has", desc := "(I)Z" } : Jvm.MethodName) ({ cls := "KeptLump$Lumps", name := "has", desc := "(I)Z" } : Jvm.MethodName)) ∈ kv_gw := List.mem_filter.mpr ⟨List.mem_of_getElem? (i := 541) (by decide +kernel), by decide +kernel⟩
theorem kw_542 : (Jvm.Cond.code ({ cls := "KeptLump$Lumps", name := "has", desc := "(I)Z" } : Jvm.MethodName) prog_5_method_2_code (2 : Nat) (Option.some Jvm.ClassFile.FieldType.boolean)) ∈ kv_gw := List.mem_filter.mpr ⟨List.mem_of_getElem? (i := 542) (by decide +kernel), by decide +kernel⟩
theorem kw_620 : (Jvm.Cond.methodLink "KeptLump" (375 : Nat) ({ cls := "KeptLump", name := "isShelf", desc := "(I)Z" } : Jvm.MethodName)) ∈ kv_gw := List.mem_filter.mpr ⟨List.mem_of_getElem? (i := 620) (by decide +kernel), by decide +kernel⟩
theorem kw_621 : (Jvm.Cond.static ({ cls := "KeptLump", name := "isShelf", desc := "(I)Z" } : Jvm.MethodName)) ∈ kv_gw := List.mem_filter.mpr ⟨List.mem_of_getElem? (i := 621) (by decide +kernel), by decide +kernel⟩
theorem kw_622 : (Jvm.Cond.code ({ cls := "KeptLump", name := "isShelf", desc := "(I)Z" } : Jvm.MethodName) prog_1_method_44_code (1 : Nat) (Option.some Jvm.ClassFile.FieldType.boolean)) ∈ kv_gw := List.mem_filter.mpr ⟨List.mem_of_getElem? (i := 622) (by decide +kernel), by decide +kernel⟩
theorem kw_934 : (Jvm.Cond.instanceMethod ({ cls := "KeptLump$Chains", name := "sum", desc := "(I)I" } : Jvm.MethodName)) ∈ kv_gw := List.mem_filter.mpr ⟨List.mem_of_getElem? (i := 934) (by decide +kernel), by decide +kernel⟩
theorem kw_935 : (Jvm.Cond.selects "KeptLump$Chains" ({ cls := "KeptLump$Chains", name := "sum", desc := "(I)I" } : Jvm.MethodName) ({ cls := "KeptLump$Chains", name := "sum", desc := "(I)I" } : Jvm.MethodName)) ∈ kv_gw := List.mem_filter.mpr ⟨List.mem_of_getElem? (i := 935) (by decide +kernel), by decide +kernel⟩
theorem kw_936 : (Jvm.Cond.code ({ cls := "KeptLump$Chains", name := "sum", desc := "(I)I" } : Jvm.MethodName) prog_2_method_3_code (4 : Nat) (Option.some Jvm.ClassFile.FieldType.int)) ∈ kv_gw := List.mem_filter.mpr ⟨List.mem_of_getElem? (i := 936) (by decide +kernel), by decide +kernel⟩
theorem kw_938 : (Jvm.Cond.instanceMethod ({ cls := "KeptLump$Chains", name := "doubtOf", desc := "(I)I" } : Jvm.MethodName)) ∈ kv_gw := List.mem_filter.mpr ⟨List.mem_of_getElem? (i := 938) (by decide +kernel), by decide +kernel⟩
theorem kw_939 : (Jvm.Cond.selects "KeptLump$Chains" ({ cls := "KeptLump$Chains", name := "doubtOf", desc := "(I)I" } : Jvm.MethodName) ({ cls := "KeptLump$Chains", name := "doubtOf", desc := "(I)I" } : Jvm.MethodName)) ∈ kv_gw := List.mem_filter.mpr ⟨List.mem_of_getElem? (i := 939) (by decide +kernel), by decide +kernel⟩
theorem kw_940 : (Jvm.Cond.code ({ cls := "KeptLump$Chains", name := "doubtOf", desc := "(I)I" } : Jvm.MethodName) prog_2_method_4_code (4 : Nat) (Option.some Jvm.ClassFile.FieldType.int)) ∈ kv_gw := List.mem_filter.mpr ⟨List.mem_of_getElem? (i := 940) (by decide +kernel), by decide +kernel⟩
theorem kw_949 : (Jvm.Cond.methodLink "KeptLump" (321 : Nat) ({ cls := "KeptLump$Chains", name := "lack", desc := "(II)I" } : Jvm.MethodName)) ∈ kv_gw := List.mem_filter.mpr ⟨List.mem_of_getElem? (i := 949) (by decide +kernel), by decide +kernel⟩
theorem kw_950 : (Jvm.Cond.instanceMethod ({ cls := "KeptLump$Chains", name := "lack", desc := "(II)I" } : Jvm.MethodName)) ∈ kv_gw := List.mem_filter.mpr ⟨List.mem_of_getElem? (i := 950) (by decide +kernel), by decide +kernel⟩
theorem kw_951 : (Jvm.Cond.selects "KeptLump$Chains" ({ cls := "KeptLump$Chains", name := "lack", desc := "(II)I" } : Jvm.MethodName) ({ cls := "KeptLump$Chains", name := "lack", desc := "(II)I" } : Jvm.MethodName)) ∈ kv_gw := List.mem_filter.mpr ⟨List.mem_of_getElem? (i := 951) (by decide +kernel), by decide +kernel⟩
theorem kw_952 : (Jvm.Cond.code ({ cls := "KeptLump$Chains", name := "lack", desc := "(II)I" } : Jvm.MethodName) prog_2_method_5_code (3 : Nat) (Option.some Jvm.ClassFile.FieldType.int)) ∈ kv_gw := List.mem_filter.mpr ⟨List.mem_of_getElem? (i := 952) (by decide +kernel), by decide +kernel⟩
theorem kw_953 : (Jvm.Cond.methodLink "KeptLump$Chains" (24 : Nat) ({ cls := "KeptLump$Chains", name := "sum", desc := "(I)I" } : Jvm.MethodName)) ∈ kv_gw := List.mem_filter.mpr ⟨List.mem_of_getElem? (i := 953) (by decide +kernel), by decide +kernel⟩
theorem kw_954 : (Jvm.Cond.methodLink "KeptLump$Chains" (28 : Nat) ({ cls := "java/lang/Math", name := "abs", desc := "(I)I" } : Jvm.MethodName)) ∈ kv_gw := List.mem_filter.mpr ⟨List.mem_of_getElem? (i := 954) (by decide +kernel), by decide +kernel⟩
theorem kw_955 : (Jvm.Cond.static ({ cls := "java/lang/Math", name := "abs", desc := "(I)I" } : Jvm.MethodName)) ∈ kv_gw := List.mem_filter.mpr ⟨List.mem_of_getElem? (i := 955) (by decide +kernel), by decide +kernel⟩
theorem kw_956 : (Jvm.Cond.code ({ cls := "java/lang/Math", name := "abs", desc := "(I)I" } : Jvm.MethodName) prog_18_method_59_code (1 : Nat) (Option.some Jvm.ClassFile.FieldType.int)) ∈ kv_gw := List.mem_filter.mpr ⟨List.mem_of_getElem? (i := 956) (by decide +kernel), by decide +kernel⟩
theorem kw_957 : (Jvm.Cond.methodLink "KeptLump$Chains" (33 : Nat) ({ cls := "KeptLump$Chains", name := "doubtOf", desc := "(I)I" } : Jvm.MethodName)) ∈ kv_gw := List.mem_filter.mpr ⟨List.mem_of_getElem? (i := 957) (by decide +kernel), by decide +kernel⟩
theorem kw_970 : (Jvm.Cond.methodLink "KeptLump" (327 : Nat) ({ cls := "KeptLump$Chains", name := "willDo", desc := "(II)Z" } : Jvm.MethodName)) ∈ kv_gw := List.mem_filter.mpr ⟨List.mem_of_getElem? (i := 970) (by decide +kernel), by decide +kernel⟩
theorem kw_971 : (Jvm.Cond.instanceMethod ({ cls := "KeptLump$Chains", name := "willDo", desc := "(II)Z" } : Jvm.MethodName)) ∈ kv_gw := List.mem_filter.mpr ⟨List.mem_of_getElem? (i := 971) (by decide +kernel), by decide +kernel⟩
theorem kw_972 : (Jvm.Cond.selects "KeptLump$Chains" ({ cls := "KeptLump$Chains", name := "willDo", desc := "(II)Z" } : Jvm.MethodName) ({ cls := "KeptLump$Chains", name := "willDo", desc := "(II)Z" } : Jvm.MethodName)) ∈ kv_gw := List.mem_filter.mpr ⟨List.mem_of_getElem? (i := 972) (by decide +kernel), by decide +kernel⟩
theorem kw_973 : (Jvm.Cond.code ({ cls := "KeptLump$Chains", name := "willDo", desc := "(II)Z" } : Jvm.MethodName) prog_2_method_7_code (3 : Nat) (Option.some Jvm.ClassFile.FieldType.boolean)) ∈ kv_gw := List.mem_filter.mpr ⟨List.mem_of_getElem? (i := 973) (by decide +kernel), by decide +kernel⟩
theorem kw_974 : (Jvm.Cond.methodLink "KeptLump" (330 : Nat) ({ cls := "java/lang/Math", name := "max", desc := "(II)I" } : Jvm.MethodName)) ∈ kv_gw := List.mem_filter.mpr ⟨List.mem_of_getElem? (i := 974) (by decide +kernel), by decide +kernel⟩
theorem kw_975 : (Jvm.Cond.static ({ cls := "java/lang/Math", name := "max", desc := "(II)I" } : Jvm.MethodName)) ∈ kv_gw := List.mem_filter.mpr ⟨List.mem_of_getElem? (i := 975) (by decide +kernel), by decide +kernel⟩
theorem kw_976 : (Jvm.Cond.code ({ cls := "java/lang/Math", name := "max", desc := "(II)I" } : Jvm.MethodName) prog_18_method_65_code (2 : Nat) (Option.some Jvm.ClassFile.FieldType.int)) ∈ kv_gw := List.mem_filter.mpr ⟨List.mem_of_getElem? (i := 976) (by decide +kernel), by decide +kernel⟩
theorem kw_977 : (Jvm.Cond.methodLink "KeptLump" (335 : Nat) ({ cls := "java/lang/Math", name := "min", desc := "(II)I" } : Jvm.MethodName)) ∈ kv_gw := List.mem_filter.mpr ⟨List.mem_of_getElem? (i := 977) (by decide +kernel), by decide +kernel⟩
theorem kw_978 : (Jvm.Cond.static ({ cls := "java/lang/Math", name := "min", desc := "(II)I" } : Jvm.MethodName)) ∈ kv_gw := List.mem_filter.mpr ⟨List.mem_of_getElem? (i := 978) (by decide +kernel), by decide +kernel⟩
theorem kw_979 : (Jvm.Cond.code ({ cls := "java/lang/Math", name := "min", desc := "(II)I" } : Jvm.MethodName) prog_18_method_69_code (2 : Nat) (Option.some Jvm.ClassFile.FieldType.int)) ∈ kv_gw := List.mem_filter.mpr ⟨List.mem_of_getElem? (i := 979) (by decide +kernel), by decide +kernel⟩
theorem kw_1081 : (Jvm.Cond.methodLink "KeptLump" (378 : Nat) ({ cls := "KeptLump$Shelf", name := "clear", desc := "()V" } : Jvm.MethodName)) ∈ kv_gw := List.mem_filter.mpr ⟨List.mem_of_getElem? (i := 1081) (by decide +kernel), by decide +kernel⟩
theorem kw_1082 : (Jvm.Cond.instanceMethod ({ cls := "KeptLump$Shelf", name := "clear", desc := "()V" } : Jvm.MethodName)) ∈ kv_gw := List.mem_filter.mpr ⟨List.mem_of_getElem? (i := 1082) (by decide +kernel), by decide +kernel⟩
theorem kw_1083 : (Jvm.Cond.selects "KeptLump$Shelf" ({ cls := "KeptLump$Shelf", name := "clear", desc := "()V" } : Jvm.MethodName) ({ cls := "KeptLump$Shelf", name := "clear", desc := "()V" } : Jvm.MethodName)) ∈ kv_gw := List.mem_filter.mpr ⟨List.mem_of_getElem? (i := 1083) (by decide +kernel), by decide +kernel⟩
theorem kw_1084 : (Jvm.Cond.code ({ cls := "KeptLump$Shelf", name := "clear", desc := "()V" } : Jvm.MethodName) prog_9_method_4_code (1 : Nat) (Option.none : Option Jvm.ClassFile.FieldType)) ∈ kv_gw := List.mem_filter.mpr ⟨List.mem_of_getElem? (i := 1084) (by decide +kernel), by decide +kernel⟩
theorem kw_1085 : (Jvm.Cond.methodLink "KeptLump" (381 : Nat) ({ cls := "KeptLump$Shelf", name := "holdLump", desc := "(LKeptLump$Lumps;I)V" } : Jvm.MethodName)) ∈ kv_gw := List.mem_filter.mpr ⟨List.mem_of_getElem? (i := 1085) (by decide +kernel), by decide +kernel⟩
theorem kw_1086 : (Jvm.Cond.instanceMethod ({ cls := "KeptLump$Shelf", name := "holdLump", desc := "(LKeptLump$Lumps;I)V" } : Jvm.MethodName)) ∈ kv_gw := List.mem_filter.mpr ⟨List.mem_of_getElem? (i := 1086) (by decide +kernel), by decide +kernel⟩
theorem kw_1087 : (Jvm.Cond.selects "KeptLump$Shelf" ({ cls := "KeptLump$Shelf", name := "holdLump", desc := "(LKeptLump$Lumps;I)V" } : Jvm.MethodName) ({ cls := "KeptLump$Shelf", name := "holdLump", desc := "(LKeptLump$Lumps;I)V" } : Jvm.MethodName)) ∈ kv_gw := List.mem_filter.mpr ⟨List.mem_of_getElem? (i := 1087) (by decide +kernel), by decide +kernel⟩
theorem kw_1088 : (Jvm.Cond.code ({ cls := "KeptLump$Shelf", name := "holdLump", desc := "(LKeptLump$Lumps;I)V" } : Jvm.MethodName) prog_9_method_5_code (3 : Nat) (Option.none : Option Jvm.ClassFile.FieldType)) ∈ kv_gw := List.mem_filter.mpr ⟨List.mem_of_getElem? (i := 1088) (by decide +kernel), by decide +kernel⟩
theorem kw_1234 : (Jvm.Cond.fieldLink "KeptLumpModel" (9 : Nat) "KeptLumpModel" "s" "[I") ∈ kv_gw := List.mem_filter.mpr ⟨List.mem_of_getElem? (i := 1234) (by decide +kernel), by decide +kernel⟩
theorem kw_1236 : (Jvm.Cond.fieldLink "KeptLumpModel" (16 : Nat) "KeptLumpModel" "kept" "[I") ∈ kv_gw := List.mem_filter.mpr ⟨List.mem_of_getElem? (i := 1236) (by decide +kernel), by decide +kernel⟩
theorem kw_1237 : (Jvm.Cond.fieldLink "KeptLumpModel" (19 : Nat) "KeptLumpModel" "sort" "[I") ∈ kv_gw := List.mem_filter.mpr ⟨List.mem_of_getElem? (i := 1237) (by decide +kernel), by decide +kernel⟩
theorem kw_1238 : (Jvm.Cond.fieldLink "KeptLumpModel" (22 : Nat) "KeptLumpModel" "size" "[I") ∈ kv_gw := List.mem_filter.mpr ⟨List.mem_of_getElem? (i := 1238) (by decide +kernel), by decide +kernel⟩
theorem kw_1239 : (Jvm.Cond.fieldLink "KeptLumpModel" (25 : Nat) "KeptLumpModel" "element" "[I") ∈ kv_gw := List.mem_filter.mpr ⟨List.mem_of_getElem? (i := 1239) (by decide +kernel), by decide +kernel⟩
theorem kw_1244 : (Jvm.Cond.fieldLink "KeptLumpModel" (34 : Nat) "KeptLumpModel" "far" "[J") ∈ kv_gw := List.mem_filter.mpr ⟨List.mem_of_getElem? (i := 1244) (by decide +kernel), by decide +kernel⟩
theorem kw_1247 : (Jvm.Cond.fieldLink "KeptLumpModel" (144 : Nat) "KeptLumpModel" "nodes" "I") ∈ kv_gw := List.mem_filter.mpr ⟨List.mem_of_getElem? (i := 1247) (by decide +kernel), by decide +kernel⟩
theorem kw_1259 : (Jvm.Cond.laysFinal "KeptLumpModel" "KeptLumpModel" "s" "[I") ∈ kv_gw := List.mem_filter.mpr ⟨List.mem_of_getElem? (i := 1259) (by decide +kernel), by decide +kernel⟩
theorem kw_1261 : (Jvm.Cond.laysFinal "KeptLumpModel" "KeptLumpModel" "image" "[I") ∈ kv_gw := List.mem_filter.mpr ⟨List.mem_of_getElem? (i := 1261) (by decide +kernel), by decide +kernel⟩
theorem kw_1263 : (Jvm.Cond.laysFinal "KeptLumpModel" "KeptLumpModel" "kept" "[I") ∈ kv_gw := List.mem_filter.mpr ⟨List.mem_of_getElem? (i := 1263) (by decide +kernel), by decide +kernel⟩
theorem kw_1265 : (Jvm.Cond.laysFinal "KeptLumpModel" "KeptLumpModel" "sort" "[I") ∈ kv_gw := List.mem_filter.mpr ⟨List.mem_of_getElem? (i := 1265) (by decide +kernel), by decide +kernel⟩
theorem kw_1267 : (Jvm.Cond.laysFinal "KeptLumpModel" "KeptLumpModel" "size" "[I") ∈ kv_gw := List.mem_filter.mpr ⟨List.mem_of_getElem? (i := 1267) (by decide +kernel), by decide +kernel⟩
theorem kw_1269 : (Jvm.Cond.laysFinal "KeptLumpModel" "KeptLumpModel" "element" "[I") ∈ kv_gw := List.mem_filter.mpr ⟨List.mem_of_getElem? (i := 1269) (by decide +kernel), by decide +kernel⟩
theorem kw_1271 : (Jvm.Cond.laysFinal "KeptLumpModel" "KeptLumpModel" "keptCare" "[I") ∈ kv_gw := List.mem_filter.mpr ⟨List.mem_of_getElem? (i := 1271) (by decide +kernel), by decide +kernel⟩
theorem kw_1273 : (Jvm.Cond.laysFinal "KeptLumpModel" "KeptLumpModel" "keptToss" "[I") ∈ kv_gw := List.mem_filter.mpr ⟨List.mem_of_getElem? (i := 1273) (by decide +kernel), by decide +kernel⟩
theorem kw_1275 : (Jvm.Cond.lays "KeptLumpModel" "KeptLumpModel" "hasImage" "Z") ∈ kv_gw := List.mem_filter.mpr ⟨List.mem_of_getElem? (i := 1275) (by decide +kernel), by decide +kernel⟩
theorem kw_1277 : (Jvm.Cond.lays "KeptLumpModel" "KeptLumpModel" "thrown" "I") ∈ kv_gw := List.mem_filter.mpr ⟨List.mem_of_getElem? (i := 1277) (by decide +kernel), by decide +kernel⟩
theorem kw_1279 : (Jvm.Cond.laysFinal "KeptLumpModel" "KeptLumpModel" "far" "[J") ∈ kv_gw := List.mem_filter.mpr ⟨List.mem_of_getElem? (i := 1279) (by decide +kernel), by decide +kernel⟩
theorem kw_1281 : (Jvm.Cond.laysFinal "KeptLumpModel" "KeptLumpModel" "nodeLump" "[I") ∈ kv_gw := List.mem_filter.mpr ⟨List.mem_of_getElem? (i := 1281) (by decide +kernel), by decide +kernel⟩
theorem kw_1283 : (Jvm.Cond.laysFinal "KeptLumpModel" "KeptLumpModel" "nodeYear" "[I") ∈ kv_gw := List.mem_filter.mpr ⟨List.mem_of_getElem? (i := 1283) (by decide +kernel), by decide +kernel⟩
theorem kw_1285 : (Jvm.Cond.lays "KeptLumpModel" "KeptLumpModel" "nodes" "I") ∈ kv_gw := List.mem_filter.mpr ⟨List.mem_of_getElem? (i := 1285) (by decide +kernel), by decide +kernel⟩
theorem kw_1287 : (Jvm.Cond.lays "KeptLumpModel" "KeptLumpModel" "one" "I") ∈ kv_gw := List.mem_filter.mpr ⟨List.mem_of_getElem? (i := 1287) (by decide +kernel), by decide +kernel⟩
theorem kw_1289 : (Jvm.Cond.lays "KeptLumpModel" "KeptLumpModel" "two" "I") ∈ kv_gw := List.mem_filter.mpr ⟨List.mem_of_getElem? (i := 1289) (by decide +kernel), by decide +kernel⟩
theorem kw_1291 : (Jvm.Cond.lays "KeptLumpModel" "KeptLumpModel" "from" "I") ∈ kv_gw := List.mem_filter.mpr ⟨List.mem_of_getElem? (i := 1291) (by decide +kernel), by decide +kernel⟩
theorem kw_1293 : (Jvm.Cond.lays "KeptLumpModel" "KeptLumpModel" "without" "I") ∈ kv_gw := List.mem_filter.mpr ⟨List.mem_of_getElem? (i := 1293) (by decide +kernel), by decide +kernel⟩
theorem kw_1295 : (Jvm.Cond.lays "KeptLumpModel" "KeptLumpModel" "pos" "I") ∈ kv_gw := List.mem_filter.mpr ⟨List.mem_of_getElem? (i := 1295) (by decide +kernel), by decide +kernel⟩
theorem kw_1297 : (Jvm.Cond.lays "KeptLumpModel" "KeptLumpModel" "base" "I") ∈ kv_gw := List.mem_filter.mpr ⟨List.mem_of_getElem? (i := 1297) (by decide +kernel), by decide +kernel⟩
theorem kw_1299 : (Jvm.Cond.lays "KeptLumpModel" "KeptLumpModel" "end" "I") ∈ kv_gw := List.mem_filter.mpr ⟨List.mem_of_getElem? (i := 1299) (by decide +kernel), by decide +kernel⟩
theorem kw_1301 : (Jvm.Cond.lays "KeptLumpModel" "KeptLumpModel" "deep" "I") ∈ kv_gw := List.mem_filter.mpr ⟨List.mem_of_getElem? (i := 1301) (by decide +kernel), by decide +kernel⟩
theorem kw_1303 : (Jvm.Cond.lays "KeptLumpModel" "KeptLumpModel" "number" "I") ∈ kv_gw := List.mem_filter.mpr ⟨List.mem_of_getElem? (i := 1303) (by decide +kernel), by decide +kernel⟩
theorem kw_1305 : (Jvm.Cond.lays "KeptLumpModel" "KeptLumpModel" "text" "[I") ∈ kv_gw := List.mem_filter.mpr ⟨List.mem_of_getElem? (i := 1305) (by decide +kernel), by decide +kernel⟩
theorem kw_1307 : (Jvm.Cond.lays "KeptLumpModel" "KeptLumpModel" "year" "I") ∈ kv_gw := List.mem_filter.mpr ⟨List.mem_of_getElem? (i := 1307) (by decide +kernel), by decide +kernel⟩
theorem kw_1320 : (Jvm.Cond.methodLink "KeptLumpModel" (60 : Nat) ({ cls := "KeptLumpModel", name := "isIn", desc := "(JJJ)Z" } : Jvm.MethodName)) ∈ kv_gw := List.mem_filter.mpr ⟨List.mem_of_getElem? (i := 1320) (by decide +kernel), by decide +kernel⟩
theorem kw_1321 : (Jvm.Cond.static ({ cls := "KeptLumpModel", name := "isIn", desc := "(JJJ)Z" } : Jvm.MethodName)) ∈ kv_gw := List.mem_filter.mpr ⟨List.mem_of_getElem? (i := 1321) (by decide +kernel), by decide +kernel⟩
theorem kw_1322 : (Jvm.Cond.code ({ cls := "KeptLumpModel", name := "isIn", desc := "(JJJ)Z" } : Jvm.MethodName) prog_13_method_3_code (6 : Nat) (Option.some Jvm.ClassFile.FieldType.boolean)) ∈ kv_gw := List.mem_filter.mpr ⟨List.mem_of_getElem? (i := 1322) (by decide +kernel), by decide +kernel⟩
theorem kw_1346 : (Jvm.Cond.constantLong "KeptLumpModel" (94 : Nat) (99 : Int64)) ∈ kv_gw := List.mem_filter.mpr ⟨List.mem_of_getElem? (i := 1346) (by decide +kernel), by decide +kernel⟩
theorem kw_1352 : (Jvm.Cond.methodLink "KeptLumpModel" (98 : Nat) ({ cls := "KeptLumpModel", name := "isLump", desc := "(I)Z" } : Jvm.MethodName)) ∈ kv_gw := List.mem_filter.mpr ⟨List.mem_of_getElem? (i := 1352) (by decide +kernel), by decide +kernel⟩
theorem kw_1354 : (Jvm.Cond.instanceMethod ({ cls := "KeptLumpModel", name := "isLump", desc := "(I)Z" } : Jvm.MethodName)) ∈ kv_gw := List.mem_filter.mpr ⟨List.mem_of_getElem? (i := 1354) (by decide +kernel), by decide +kernel⟩
theorem kw_1355 : (Jvm.Cond.code ({ cls := "KeptLumpModel", name := "isLump", desc := "(I)Z" } : Jvm.MethodName) prog_13_method_4_code (2 : Nat) (Option.some Jvm.ClassFile.FieldType.boolean)) ∈ kv_gw := List.mem_filter.mpr ⟨List.mem_of_getElem? (i := 1355) (by decide +kernel), by decide +kernel⟩
theorem kw_1375 : (Jvm.Cond.methodLink "KeptLumpModel" (110 : Nat) ({ cls := "KeptLumpModel", name := "isYear", desc := "(I)Z" } : Jvm.MethodName)) ∈ kv_gw := List.mem_filter.mpr ⟨List.mem_of_getElem? (i := 1375) (by decide +kernel), by decide +kernel⟩
theorem kw_1376 : (Jvm.Cond.static ({ cls := "KeptLumpModel", name := "isYear", desc := "(I)Z" } : Jvm.MethodName)) ∈ kv_gw := List.mem_filter.mpr ⟨List.mem_of_getElem? (i := 1376) (by decide +kernel), by decide +kernel⟩
theorem kw_1377 : (Jvm.Cond.code ({ cls := "KeptLumpModel", name := "isYear", desc := "(I)Z" } : Jvm.MethodName) prog_13_method_5_code (1 : Nat) (Option.some Jvm.ClassFile.FieldType.boolean)) ∈ kv_gw := List.mem_filter.mpr ⟨List.mem_of_getElem? (i := 1377) (by decide +kernel), by decide +kernel⟩
theorem kw_1378 : (Jvm.Cond.constantLong "KeptLumpModel" (64 : Nat) (140 : Int64)) ∈ kv_gw := List.mem_filter.mpr ⟨List.mem_of_getElem? (i := 1378) (by decide +kernel), by decide +kernel⟩
theorem kw_1394 : (Jvm.Cond.methodLink "KeptLumpModel" (119 : Nat) ({ cls := "KeptLumpModel", name := "tells", desc := "(IIIII)V" } : Jvm.MethodName)) ∈ kv_gw := List.mem_filter.mpr ⟨List.mem_of_getElem? (i := 1394) (by decide +kernel), by decide +kernel⟩
theorem kw_1396 : (Jvm.Cond.instanceMethod ({ cls := "KeptLumpModel", name := "tells", desc := "(IIIII)V" } : Jvm.MethodName)) ∈ kv_gw := List.mem_filter.mpr ⟨List.mem_of_getElem? (i := 1396) (by decide +kernel), by decide +kernel⟩
theorem kw_1397 : (Jvm.Cond.code ({ cls := "KeptLumpModel", name := "tells", desc := "(IIIII)V" } : Jvm.MethodName) prog_13_method_19_code (7 : Nat) (Option.none : Option Jvm.ClassFile.FieldType)) ∈ kv_gw := List.mem_filter.mpr ⟨List.mem_of_getElem? (i := 1397) (by decide +kernel), by decide +kernel⟩
theorem kw_1402 : (Jvm.Cond.methodLink "KeptLumpModel" (127 : Nat) ({ cls := "KeptLumpModel", name := "wrongRow", desc := "(II)I" } : Jvm.MethodName)) ∈ kv_gw := List.mem_filter.mpr ⟨List.mem_of_getElem? (i := 1402) (by decide +kernel), by decide +kernel⟩
theorem kw_1404 : (Jvm.Cond.instanceMethod ({ cls := "KeptLumpModel", name := "wrongRow", desc := "(II)I" } : Jvm.MethodName)) ∈ kv_gw := List.mem_filter.mpr ⟨List.mem_of_getElem? (i := 1404) (by decide +kernel), by decide +kernel⟩
theorem kw_1405 : (Jvm.Cond.code ({ cls := "KeptLumpModel", name := "wrongRow", desc := "(II)I" } : Jvm.MethodName) prog_13_method_21_code (3 : Nat) (Option.some Jvm.ClassFile.FieldType.int)) ∈ kv_gw := List.mem_filter.mpr ⟨List.mem_of_getElem? (i := 1405) (by decide +kernel), by decide +kernel⟩
theorem kw_1406 : (Jvm.Cond.methodLink "KeptLumpModel" (123 : Nat) ({ cls := "KeptLumpModel", name := "isShelf", desc := "(I)Z" } : Jvm.MethodName)) ∈ kv_gw := List.mem_filter.mpr ⟨List.mem_of_getElem? (i := 1406) (by decide +kernel), by decide +kernel⟩
theorem kw_1407 : (Jvm.Cond.static ({ cls := "KeptLumpModel", name := "isShelf", desc := "(I)Z" } : Jvm.MethodName)) ∈ kv_gw := List.mem_filter.mpr ⟨List.mem_of_getElem? (i := 1407) (by decide +kernel), by decide +kernel⟩
theorem kw_1408 : (Jvm.Cond.code ({ cls := "KeptLumpModel", name := "isShelf", desc := "(I)Z" } : Jvm.MethodName) prog_13_method_6_code (1 : Nat) (Option.some Jvm.ClassFile.FieldType.boolean)) ∈ kv_gw := List.mem_filter.mpr ⟨List.mem_of_getElem? (i := 1408) (by decide +kernel), by decide +kernel⟩
theorem kw_1409 : (Jvm.Cond.constantLong "KeptLumpModel" (66 : Nat) (7 : Int64)) ∈ kv_gw := List.mem_filter.mpr ⟨List.mem_of_getElem? (i := 1409) (by decide +kernel), by decide +kernel⟩
theorem kw_1410 : (Jvm.Cond.methodLink "KeptLumpModel" (130 : Nat) ({ cls := "KeptLumpModel", name := "isLost", desc := "(II)Z" } : Jvm.MethodName)) ∈ kv_gw := List.mem_filter.mpr ⟨List.mem_of_getElem? (i := 1410) (by decide +kernel), by decide +kernel⟩
theorem kw_1412 : (Jvm.Cond.instanceMethod ({ cls := "KeptLumpModel", name := "isLost", desc := "(II)Z" } : Jvm.MethodName)) ∈ kv_gw := List.mem_filter.mpr ⟨List.mem_of_getElem? (i := 1412) (by decide +kernel), by decide +kernel⟩
theorem kw_1413 : (Jvm.Cond.code ({ cls := "KeptLumpModel", name := "isLost", desc := "(II)Z" } : Jvm.MethodName) prog_13_method_22_code (5 : Nat) (Option.some Jvm.ClassFile.FieldType.boolean)) ∈ kv_gw := List.mem_filter.mpr ⟨List.mem_of_getElem? (i := 1413) (by decide +kernel), by decide +kernel⟩
theorem kw_1414 : (Jvm.Cond.constant "KeptLumpModel" (126 : Nat) (-2147483648 : Int32)) ∈ kv_gw := List.mem_filter.mpr ⟨List.mem_of_getElem? (i := 1414) (by decide +kernel), by decide +kernel⟩
theorem kw_1415 : (Jvm.Cond.constantLong "KeptLumpModel" (134 : Nat) (-99999 : Int64)) ∈ kv_gw := List.mem_filter.mpr ⟨List.mem_of_getElem? (i := 1415) (by decide +kernel), by decide +kernel⟩
theorem kw_1416 : (Jvm.Cond.constantLong "KeptLumpModel" (136 : Nat) (99999 : Int64)) ∈ kv_gw := List.mem_filter.mpr ⟨List.mem_of_getElem? (i := 1416) (by decide +kernel), by decide +kernel⟩
theorem kw_1449 : (Jvm.Cond.constantLong "KeptLumpModel" (147 : Nat) (1000000000000 : Int64)) ∈ kv_gw := List.mem_filter.mpr ⟨List.mem_of_getElem? (i := 1449) (by decide +kernel), by decide +kernel⟩
theorem kc_0 : kv_okc 0 kv_R0 kv_T0 4 kv_t0 := ⟨kv_lays (fun k hk => by
  match k, hk with
  | 0, _ => exact kw_232
  | 1, _ => exact kw_234
  | 2, _ => exact kw_236
  | 3, _ => exact kw_238
  | k + 4, h => exact absurd h (by omega)), rfl, rfl, by decide, kv_tk0, kv_n0⟩
theorem kc_3 : kv_okc 3 kv_R3 kv_T3 8 kv_t3 := ⟨kv_lays (fun k hk => by
  match k, hk with
  | 0, _ => exact kw_130
  | 1, _ => exact kw_132
  | 2, _ => exact kw_134
  | 3, _ => exact kw_136
  | 4, _ => exact kw_138
  | 5, _ => exact kw_140
  | 6, _ => exact kw_142
  | 7, _ => exact kw_144
  | k + 8, h => exact absurd h (by omega)), rfl, rfl, by decide, kv_tk3, kv_n3⟩
theorem kc_7 : kv_okc 7 kv_R7 kv_T7 8 kv_t7 := ⟨kv_lays (fun k hk => by
  match k, hk with
  | 0, _ => exact kw_313
  | 1, _ => exact kw_315
  | 2, _ => exact kw_317
  | 3, _ => exact kw_319
  | 4, _ => exact kw_321
  | 5, _ => exact kw_323
  | 6, _ => exact kw_325
  | 7, _ => exact kw_327
  | k + 8, h => exact absurd h (by omega)), rfl, rfl, by decide, kv_tk7, kv_n7⟩
theorem kc_8 : kv_okc 8 kv_R8 kv_T8 9 kv_t8 := ⟨kv_lays (fun k hk => by
  match k, hk with
  | 0, _ => exact kw_270
  | 1, _ => exact kw_272
  | 2, _ => exact kw_274
  | 3, _ => exact kw_276
  | 4, _ => exact kw_278
  | 5, _ => exact kw_280
  | 6, _ => exact kw_282
  | 7, _ => exact kw_284
  | 8, _ => exact kw_286
  | k + 9, h => exact absurd h (by omega)), rfl, rfl, by decide, kv_tk8, kv_n8⟩
theorem kc_10 : kv_okc 10 kv_R10 kv_T10 9 kv_t10 := ⟨kv_lays (fun k hk => by
  match k, hk with
  | 0, _ => exact kw_485
  | 1, _ => exact kw_487
  | 2, _ => exact kw_489
  | 3, _ => exact kw_491
  | 4, _ => exact kw_493
  | 5, _ => exact kw_495
  | 6, _ => exact kw_497
  | 7, _ => exact kw_499
  | 8, _ => exact kw_501
  | k + 9, h => exact absurd h (by omega)), rfl, rfl, by decide, kv_tk10, kv_n10⟩
theorem kc_11 : kv_okc 11 kv_R11 kv_T11 25 kv_t11 := ⟨kv_lays (fun k hk => by
  match k, hk with
  | 0, _ => exact kw_1259
  | 1, _ => exact kw_1261
  | 2, _ => exact kw_1263
  | 3, _ => exact kw_1265
  | 4, _ => exact kw_1267
  | 5, _ => exact kw_1269
  | 6, _ => exact kw_1271
  | 7, _ => exact kw_1273
  | 8, _ => exact kw_1275
  | 9, _ => exact kw_1277
  | 10, _ => exact kw_1279
  | 11, _ => exact kw_1281
  | 12, _ => exact kw_1283
  | 13, _ => exact kw_1285
  | 14, _ => exact kw_1287
  | 15, _ => exact kw_1289
  | 16, _ => exact kw_1291
  | 17, _ => exact kw_1293
  | 18, _ => exact kw_1295
  | 19, _ => exact kw_1297
  | 20, _ => exact kw_1299
  | 21, _ => exact kw_1301
  | 22, _ => exact kw_1303
  | 23, _ => exact kw_1305
  | 24, _ => exact kw_1307
  | k + 25, h => exact absurd h (by omega)), rfl, rfl, by decide, kv_tk11, kv_n11⟩
theorem kf_Chains_15 : kv_fl "KeptLump$Chains" 15 0 1 true (.array .int) := ⟨_, _, _, _, kc_0, by decide, kw_227, rfl, rfl⟩
theorem kf_Chains_18 : kv_fl "KeptLump$Chains" 18 0 2 true (.array .int) := ⟨_, _, _, _, kc_0, by decide, kw_228, rfl, rfl⟩
theorem kf_Chains_9 : kv_fl "KeptLump$Chains" 9 0 0 true (.array .int) := ⟨_, _, _, _, kc_0, by decide, kw_226, rfl, rfl⟩
theorem kf_D_144 : kv_fl "KeptLumpModel" 144 11 13 false .int := ⟨_, _, _, _, kc_11, by decide, kw_1247, rfl, rfl⟩
theorem kf_D_16 : kv_fl "KeptLumpModel" 16 11 2 true (.array .int) := ⟨_, _, _, _, kc_11, by decide, kw_1236, rfl, rfl⟩
theorem kf_D_19 : kv_fl "KeptLumpModel" 19 11 3 true (.array .int) := ⟨_, _, _, _, kc_11, by decide, kw_1237, rfl, rfl⟩
theorem kf_D_22 : kv_fl "KeptLumpModel" 22 11 4 true (.array .int) := ⟨_, _, _, _, kc_11, by decide, kw_1238, rfl, rfl⟩
theorem kf_D_25 : kv_fl "KeptLumpModel" 25 11 5 true (.array .int) := ⟨_, _, _, _, kc_11, by decide, kw_1239, rfl, rfl⟩
theorem kf_D_34 : kv_fl "KeptLumpModel" 34 11 10 true (.array .long) := ⟨_, _, _, _, kc_11, by decide, kw_1244, rfl, rfl⟩
theorem kf_D_9 : kv_fl "KeptLumpModel" 9 11 0 true (.array .int) := ⟨_, _, _, _, kc_11, by decide, kw_1234, rfl, rfl⟩
theorem kf_K_10 : kv_fl "KeptLump" 10 10 0 true (.object "KeptLump$State") := ⟨_, _, _, _, kc_10, by decide, kw_476, rfl, rfl⟩
theorem kf_K_21 : kv_fl "KeptLump" 21 10 3 true (.array (.object "KeptLump$Shelf")) := ⟨_, _, _, _, kc_10, by decide, kw_479, rfl, rfl⟩
theorem kf_K_302 : kv_fl "KeptLump" 302 8 3 true (.object "KeptLump$Chains") := ⟨_, _, _, _, kc_8, by decide, kw_255, rfl, rfl⟩
theorem kf_K_311 : kv_fl "KeptLump" 311 0 3 true (.array .int) := ⟨_, _, _, _, kc_0, by decide, kw_231, rfl, rfl⟩
theorem kf_K_58 : kv_fl "KeptLump" 58 8 0 true (.object "KeptLump$Lumps") := ⟨_, _, _, _, kc_8, by decide, kw_245, rfl, rfl⟩
theorem kf_K_62 : kv_fl "KeptLump" 62 3 7 false .int := ⟨_, _, _, _, kc_3, by decide, kw_129, rfl, rfl⟩
theorem kf_K_76 : kv_fl "KeptLump" 76 3 6 true (.array .int) := ⟨_, _, _, _, kc_3, by decide, kw_126, rfl, rfl⟩
theorem kf_K_85 : kv_fl "KeptLump" 85 8 4 true (.array .int) := ⟨_, _, _, _, kc_8, by decide, kw_257, rfl, rfl⟩
theorem kf_K_88 : kv_fl "KeptLump" 88 8 8 false .int := ⟨_, _, _, _, kc_8, by decide, kw_268, rfl, rfl⟩
theorem kf_K_95 : kv_fl "KeptLump" 95 8 7 false .int := ⟨_, _, _, _, kc_8, by decide, kw_265, rfl, rfl⟩
theorem kf_Lumps_15 : kv_fl "KeptLump$Lumps" 15 3 1 true (.array .int) := ⟨_, _, _, _, kc_3, by decide, kw_112, rfl, rfl⟩
theorem kf_Lumps_18 : kv_fl "KeptLump$Lumps" 18 3 2 true (.array .int) := ⟨_, _, _, _, kc_3, by decide, kw_115, rfl, rfl⟩
theorem kf_Lumps_21 : kv_fl "KeptLump$Lumps" 21 3 3 true (.array .int) := ⟨_, _, _, _, kc_3, by decide, kw_118, rfl, rfl⟩
theorem kf_Lumps_27 : kv_fl "KeptLump$Lumps" 27 3 5 true (.array .int) := ⟨_, _, _, _, kc_3, by decide, kw_123, rfl, rfl⟩
theorem kf_Lumps_33 : kv_fl "KeptLump$Lumps" 33 3 7 false .int := ⟨_, _, _, _, kc_3, by decide, kw_127, rfl, rfl⟩
theorem kf_Lumps_9 : kv_fl "KeptLump$Lumps" 9 3 0 true (.array .int) := ⟨_, _, _, _, kc_3, by decide, kw_107, rfl, rfl⟩
theorem kf_Shelf_15 : kv_fl "KeptLump$Shelf" 15 7 1 false .int := ⟨_, _, _, _, kc_7, by decide, kw_299, rfl, rfl⟩
theorem kf_Shelf_19 : kv_fl "KeptLump$Shelf" 19 7 4 false .int := ⟨_, _, _, _, kc_7, by decide, kw_305, rfl, rfl⟩
theorem kf_Shelf_22 : kv_fl "KeptLump$Shelf" 22 3 0 true (.array .int) := ⟨_, _, _, _, kc_3, by decide, kw_110, rfl, rfl⟩
theorem kf_Shelf_27 : kv_fl "KeptLump$Shelf" 27 7 5 false .int := ⟨_, _, _, _, kc_7, by decide, kw_307, rfl, rfl⟩
theorem kf_Shelf_29 : kv_fl "KeptLump$Shelf" 29 3 1 true (.array .int) := ⟨_, _, _, _, kc_3, by decide, kw_114, rfl, rfl⟩
theorem kf_Shelf_32 : kv_fl "KeptLump$Shelf" 32 7 6 false .int := ⟨_, _, _, _, kc_7, by decide, kw_309, rfl, rfl⟩
theorem kf_Shelf_34 : kv_fl "KeptLump$Shelf" 34 3 2 true (.array .int) := ⟨_, _, _, _, kc_3, by decide, kw_117, rfl, rfl⟩
theorem kf_Shelf_37 : kv_fl "KeptLump$Shelf" 37 7 7 false .int := ⟨_, _, _, _, kc_7, by decide, kw_311, rfl, rfl⟩
theorem kf_State_47 : kv_fl "KeptLump$State" 47 8 7 false .int := ⟨_, _, _, _, kc_8, by decide, kw_264, rfl, rfl⟩
theorem kf_State_50 : kv_fl "KeptLump$State" 50 8 8 false .int := ⟨_, _, _, _, kc_8, by decide, kw_267, rfl, rfl⟩
abbrev kM_K_exchange : kv_MI := (⟨"KeptLump", "exchange", "([III)I"⟩, prog_1_method_45_code, 4, (some .int))
abbrev kM_K_isShelf : kv_MI := (⟨"KeptLump", "isShelf", "(I)Z"⟩, prog_1_method_44_code, 1, (some .boolean))
abbrev kM_K_isWithin : kv_MI := (⟨"KeptLump", "isWithin", "(III)Z"⟩, prog_1_method_40_code, 3, (some .boolean))
abbrev kM_K_keep : kv_MI := (⟨"KeptLump", "keep", "(III)I"⟩, prog_1_method_33_code, 4, (some .int))
abbrev kM_K_lump : kv_MI := (⟨"KeptLump", "lump", "(III)I"⟩, prog_1_method_2_code, 7, (some .int))
abbrev kM_K_set : kv_MI := (⟨"KeptLump", "set", "(III)I"⟩, prog_1_method_3_code, 4, (some .int))
abbrev kM_K_when : kv_MI := (⟨"KeptLump", "when", "(I)I"⟩, prog_1_method_28_code, 6, (some .int))
abbrev kM_Chains_doubtOf : kv_MI := (⟨"KeptLump$Chains", "doubtOf", "(I)I"⟩, prog_2_method_4_code, 4, (some .int))
abbrev kM_Chains_lack : kv_MI := (⟨"KeptLump$Chains", "lack", "(II)I"⟩, prog_2_method_5_code, 3, (some .int))
abbrev kM_Chains_sum : kv_MI := (⟨"KeptLump$Chains", "sum", "(I)I"⟩, prog_2_method_3_code, 4, (some .int))
abbrev kM_Chains_willDo : kv_MI := (⟨"KeptLump$Chains", "willDo", "(II)Z"⟩, prog_2_method_7_code, 3, (some .boolean))
abbrev kM_Lumps_add : kv_MI := (⟨"KeptLump$Lumps", "add", "(IIII)I"⟩, prog_5_method_4_code, 6, (some .int))
abbrev kM_Lumps_has : kv_MI := (⟨"KeptLump$Lumps", "has", "(I)Z"⟩, prog_5_method_2_code, 2, (some .boolean))
abbrev kM_Lumps_primeAt : kv_MI := (⟨"KeptLump$Lumps", "primeAt", "()I"⟩, prog_5_method_5_code, 2, (some .int))
abbrev kM_Shelf_clear : kv_MI := (⟨"KeptLump$Shelf", "clear", "()V"⟩, prog_9_method_4_code, 1, none)
abbrev kM_Shelf_holdLump : kv_MI := (⟨"KeptLump$Shelf", "holdLump", "(LKeptLump$Lumps;I)V"⟩, prog_9_method_5_code, 3, none)
abbrev kM_State_exchangeHigh : kv_MI := (⟨"KeptLump$State", "exchangeHigh", "(I)I"⟩, prog_10_method_3_code, 3, (some .int))
abbrev kM_State_exchangeLow : kv_MI := (⟨"KeptLump$State", "exchangeLow", "(I)I"⟩, prog_10_method_2_code, 3, (some .int))
abbrev kM_D_closes : kv_MI := (⟨"KeptLumpModel", "closes", "()Z"⟩, prog_13_method_31_code, 8, (some .boolean))
abbrev kM_D_hear : kv_MI := (⟨"KeptLumpModel", "hear", "(I)I"⟩, prog_13_method_23_code, 8, (some .int))
abbrev kM_D_isIn : kv_MI := (⟨"KeptLumpModel", "isIn", "(JJJ)Z"⟩, prog_13_method_3_code, 6, (some .boolean))
abbrev kM_D_isLost : kv_MI := (⟨"KeptLumpModel", "isLost", "(II)Z"⟩, prog_13_method_22_code, 5, (some .boolean))
abbrev kM_D_isLump : kv_MI := (⟨"KeptLumpModel", "isLump", "(I)Z"⟩, prog_13_method_4_code, 2, (some .boolean))
abbrev kM_D_isShelf : kv_MI := (⟨"KeptLumpModel", "isShelf", "(I)Z"⟩, prog_13_method_6_code, 1, (some .boolean))
abbrev kM_D_isYear : kv_MI := (⟨"KeptLumpModel", "isYear", "(I)Z"⟩, prog_13_method_5_code, 1, (some .boolean))
abbrev kM_D_tells : kv_MI := (⟨"KeptLumpModel", "tells", "(IIIII)V"⟩, prog_13_method_19_code, 7, none)
abbrev kM_D_wrongRow : kv_MI := (⟨"KeptLumpModel", "wrongRow", "(II)I"⟩, prog_13_method_21_code, 3, (some .int))
theorem ko_K_exchange : kv_okS kM_K_exchange 3 := ⟨kw_524, kw_66, kw_525, ⟨by decide, by decide⟩, by decide +kernel, by decide⟩
theorem ko_K_isShelf : kv_okS kM_K_isShelf 1 := ⟨kw_621, kw_66, kw_622, ⟨by decide, by decide⟩, by decide +kernel, by decide⟩
theorem ko_K_isWithin : kv_okS kM_K_isWithin 3 := ⟨kw_509, kw_66, kw_510, ⟨by decide, by decide⟩, by decide +kernel, by decide⟩
theorem ko_Chains_doubtOf : kv_okV kM_Chains_doubtOf 1 := ⟨kw_938, kw_939, kw_71, kw_940, ⟨by decide, by decide⟩, by decide +kernel, by decide⟩
theorem ko_Chains_lack : kv_okV kM_Chains_lack 2 := ⟨kw_950, kw_951, kw_71, kw_952, ⟨by decide, by decide⟩, by decide +kernel, by decide⟩
theorem ko_Chains_sum : kv_okV kM_Chains_sum 1 := ⟨kw_934, kw_935, kw_71, kw_936, ⟨by decide, by decide⟩, by decide +kernel, by decide⟩
theorem ko_Chains_willDo : kv_okV kM_Chains_willDo 2 := ⟨kw_971, kw_972, kw_71, kw_973, ⟨by decide, by decide⟩, by decide +kernel, by decide⟩
theorem ko_Lumps_add : kv_okV kM_Lumps_add 4 := ⟨kw_516, kw_517, kw_68, kw_518, ⟨by decide, by decide⟩, by decide +kernel, by decide⟩
theorem ko_Lumps_has : kv_okV kM_Lumps_has 1 := ⟨kw_540, kw_541, kw_68, kw_542, ⟨by decide, by decide⟩, by decide +kernel, by decide⟩
theorem ko_Lumps_primeAt : kv_okV kM_Lumps_primeAt 0 := ⟨kw_512, kw_513, kw_68, kw_514, ⟨by decide, by decide⟩, by decide +kernel, by decide⟩
theorem ko_Shelf_clear : kv_okV kM_Shelf_clear 0 := ⟨kw_1082, kw_1083, kw_73, kw_1084, ⟨by decide, by decide⟩, by decide +kernel, by decide⟩
theorem ko_Shelf_holdLump : kv_okV kM_Shelf_holdLump 2 := ⟨kw_1086, kw_1087, kw_73, kw_1088, ⟨by decide, by decide⟩, by decide +kernel, by decide⟩
theorem ko_State_exchangeHigh : kv_okV kM_State_exchangeHigh 1 := ⟨kw_532, kw_533, kw_67, kw_534, ⟨by decide, by decide⟩, by decide +kernel, by decide⟩
theorem ko_State_exchangeLow : kv_okV kM_State_exchangeLow 1 := ⟨kw_528, kw_529, kw_67, kw_530, ⟨by decide, by decide⟩, by decide +kernel, by decide⟩
theorem ko_D_isIn : kv_okS kM_D_isIn 3 := ⟨kw_1321, kw_78, kw_1322, ⟨by decide, by decide⟩, by decide +kernel, by decide⟩
theorem ko_D_isLost : kv_okV kM_D_isLost 2 := ⟨kw_1412, kw_25, kw_78, kw_1413, ⟨by decide, by decide⟩, by decide +kernel, by decide⟩
theorem ko_D_isLump : kv_okV kM_D_isLump 1 := ⟨kw_1354, kw_20, kw_78, kw_1355, ⟨by decide, by decide⟩, by decide +kernel, by decide⟩
theorem ko_D_isShelf : kv_okS kM_D_isShelf 1 := ⟨kw_1407, kw_78, kw_1408, ⟨by decide, by decide⟩, by decide +kernel, by decide⟩
theorem ko_D_isYear : kv_okS kM_D_isYear 1 := ⟨kw_1376, kw_78, kw_1377, ⟨by decide, by decide⟩, by decide +kernel, by decide⟩
theorem ko_D_tells : kv_okV kM_D_tells 5 := ⟨kw_1396, kw_23, kw_78, kw_1397, ⟨by decide, by decide⟩, by decide +kernel, by decide⟩
theorem ko_D_wrongRow : kv_okV kM_D_wrongRow 2 := ⟨kw_1404, kw_24, kw_78, kw_1405, ⟨by decide, by decide⟩, by decide +kernel, by decide⟩
theorem kr_0 : kv_kd 0 = 10 := rfl
theorem kn_0 : 0 < kv_NC := by decide
theorem kl_0 : kv_ln 0 = 0 := rfl
theorem kr_1 : kv_kd 1 = 8 := rfl
theorem kn_1 : 1 < kv_NC := by decide
theorem kl_1 : kv_ln 1 = 0 := rfl
theorem kr_2 : kv_kd 2 = 3 := rfl
theorem kn_2 : 2 < kv_NC := by decide
theorem kl_2 : kv_ln 2 = 0 := rfl
theorem kr_3 : kv_kd 3 = 12 := rfl
theorem kn_3 : 3 < kv_NC := by decide
theorem kl_3 : kv_ln 3 = 10 := rfl
theorem kr_4 : kv_kd 4 = 12 := rfl
theorem kn_4 : 4 < kv_NC := by decide
theorem kl_4 : kv_ln 4 = 10 := rfl
theorem kr_5 : kv_kd 5 = 12 := rfl
theorem kn_5 : 5 < kv_NC := by decide
theorem kl_5 : kv_ln 5 = 10 := rfl
theorem kr_6 : kv_kd 6 = 12 := rfl
theorem kn_6 : 6 < kv_NC := by decide
theorem kl_6 : kv_ln 6 = 10 := rfl
theorem kr_8 : kv_kd 8 = 12 := rfl
theorem kn_8 : 8 < kv_NC := by decide
theorem kl_8 : kv_ln 8 = 10 := rfl
theorem kr_9 : kv_kd 9 = 12 := rfl
theorem kn_9 : 9 < kv_NC := by decide
theorem kl_9 : kv_ln 9 = 6 := rfl
theorem kr_20 : kv_kd 20 = 0 := rfl
theorem kn_20 : 20 < kv_NC := by decide
theorem kl_20 : kv_ln 20 = 0 := rfl
theorem kr_21 : kv_kd 21 = 12 := rfl
theorem kn_21 : 21 < kv_NC := by decide
theorem kl_21 : kv_ln 21 = 48 := rfl
theorem kr_22 : kv_kd 22 = 12 := rfl
theorem kn_22 : 22 < kv_NC := by decide
theorem kl_22 : kv_ln 22 = 48 := rfl
theorem kr_23 : kv_kd 23 = 12 := rfl
theorem kn_23 : 23 < kv_NC := by decide
theorem kl_23 : kv_ln 23 = 4 := rfl
theorem kr_24 : kv_kd 24 = 12 := rfl
theorem kn_24 : 24 < kv_NC := by decide
theorem kl_24 : kv_ln 24 = 4 := rfl
theorem kr_25 : kv_kd 25 = 12 := rfl
theorem kn_25 : 25 < kv_NC := by decide
theorem kl_25 : kv_ln 25 = 4 := rfl
theorem kr_51 : kv_kd 51 = 15 := rfl
theorem kn_51 : 51 < kv_NC := by decide
theorem kl_51 : kv_ln 51 = 8 := rfl
theorem kr_88 : kv_kd 88 = 11 := rfl
theorem kn_88 : ¬ 88 < kv_NC := by decide
theorem kl_88 : kv_ln 88 = 0 := rfl
theorem kr_89 : kv_kd 89 = 12 := rfl
theorem kn_89 : ¬ 89 < kv_NC := by decide
theorem kl_89 : kv_ln 89 = 444 := rfl
theorem kr_91 : kv_kd 91 = 12 := rfl
theorem kn_91 : ¬ 91 < kv_NC := by decide
theorem kl_91 : kv_ln 91 = 8 := rfl
theorem kr_92 : kv_kd 92 = 12 := rfl
theorem kn_92 : ¬ 92 < kv_NC := by decide
theorem kl_92 : kv_ln 92 = 8 := rfl
theorem kr_93 : kv_kd 93 = 12 := rfl
theorem kn_93 : ¬ 93 < kv_NC := by decide
theorem kl_93 : kv_ln 93 = 8 := rfl
theorem kr_94 : kv_kd 94 = 12 := rfl
theorem kn_94 : ¬ 94 < kv_NC := by decide
theorem kl_94 : kv_ln 94 = 800 := rfl
theorem kr_97 : kv_kd 97 = 13 := rfl
theorem kn_97 : ¬ 97 < kv_NC := by decide
theorem kl_97 : kv_ln 97 = 1936 := rfl
theorem kt_0_0 : kv_tg 0 0 = 1 := rfl
theorem kt_0_3 : kv_tg 0 3 = 51 := rfl
theorem kt_1_0 : kv_tg 1 0 = 2 := rfl
theorem kt_1_3 : kv_tg 1 3 = 20 := rfl
theorem kt_1_4 : kv_tg 1 4 = 25 := rfl
theorem kt_2_0 : kv_tg 2 0 = 3 := rfl
theorem kt_2_1 : kv_tg 2 1 = 4 := rfl
theorem kt_2_2 : kv_tg 2 2 = 5 := rfl
theorem kt_2_3 : kv_tg 2 3 = 6 := rfl
theorem kt_2_5 : kv_tg 2 5 = 8 := rfl
theorem kt_2_6 : kv_tg 2 6 = 9 := rfl
theorem kt_20_0 : kv_tg 20 0 = 21 := rfl
theorem kt_20_1 : kv_tg 20 1 = 22 := rfl
theorem kt_20_2 : kv_tg 20 2 = 23 := rfl
theorem kt_20_3 : kv_tg 20 3 = 24 := rfl
theorem kt_88_0 : kv_tg 88 0 = 89 := rfl
theorem kt_88_2 : kv_tg 88 2 = 91 := rfl
theorem kt_88_3 : kv_tg 88 3 = 92 := rfl
theorem kt_88_4 : kv_tg 88 4 = 93 := rfl
theorem kt_88_5 : kv_tg 88 5 = 94 := rfl
theorem kt_88_10 : kv_tg 88 10 = 97 := rfl
theorem kv_cS_cIc {α : Type} {M N : kv_MI} {d : Nat} {o : Option Value × kv_W} {P : α → Prop} {x0 : Option (Int32 × (Nat → Nat → Int32))} {K : Int32 → (Nat → Nat → Int32) → Option α} {pc : Nat} {lv : List (Nat × Value)} {st as stk : List Value} {n idx : Nat} {c : Nat → Nat → Int32} {y : (Nat → Nat → Int32) × (Nat → Int64) × (Nat → Int64)} (hok : kv_okS N n) (hn : as.length = n) (hl0 : Cond.methodLink M.1.cls idx N.1 ∈ kv_gw) (hst : (st.map fun v => v.category).sum ≤ 8) (hs : as.reverse ++ st = stk) (hd : decode M.2.1 pc = .ok (.invokestatic idx, 3)) (hN : ∀ a, x0 = some a → kv_C N d as (c, y) ((fun a : (Int32 × (Nat → Nat → Int32)) => (some (.int a.1), (a.2, y))) a)) (kk : ∀ (b0 : Int32) (b1 : (Nat → Nat → Int32)), kv_X M (d + 1) o P (K b0 b1) (pc + 3) lv (.int b0 :: st) (b1, y)) : kv_X M (d + 1) o P (kv_bind2 x0 K) pc lv stk (c, y) := by
  subst hs
  exact kv_callS (E := (fun a : (Int32 × (Nat → Nat → Int32)) => (some (.int a.1), (a.2, y)))) hok hn hl0 hst hd hN (fun a => kk a.1 a.2)
theorem kv_cS_cZ {α : Type} {M N : kv_MI} {d : Nat} {o : Option Value × kv_W} {P : α → Prop} {x0 : Option Bool} {K : Bool → Option α} {pc : Nat} {lv : List (Nat × Value)} {st as stk : List Value} {n idx : Nat} {c : Nat → Nat → Int32} {y : (Nat → Nat → Int32) × (Nat → Int64) × (Nat → Int64)} (hok : kv_okS N n) (hn : as.length = n) (hl0 : Cond.methodLink M.1.cls idx N.1 ∈ kv_gw) (hst : (st.map fun v => v.category).sum ≤ 8) (hs : as.reverse ++ st = stk) (hd : decode M.2.1 pc = .ok (.invokestatic idx, 3)) (hN : ∀ a, x0 = some a → kv_C N d as (c, y) ((fun a : Bool => (some (.int (kv_b a)), (c, y))) a)) (kk : ∀ (b0 : Bool), kv_X M (d + 1) o P (K b0) (pc + 3) lv (.int (kv_b b0) :: st) (c, y)) : kv_X M (d + 1) o P (kv_bind1 x0 K) pc lv stk (c, y) := by
  subst hs
  exact kv_callS (E := (fun a : Bool => (some (.int (kv_b a)), (c, y)))) hok hn hl0 hst hd hN (fun a => kk a)
theorem kv_cS_mZ {α : Type} {M N : kv_MI} {d : Nat} {o : Option Value × kv_W} {P : α → Prop} {x0 : Option Bool} {K : Bool → Option α} {pc : Nat} {lv : List (Nat × Value)} {st as stk : List Value} {n idx : Nat} {c m : Nat → Nat → Int32} {f u : Nat → Int64} (hok : kv_okS N n) (hn : as.length = n) (hl0 : Cond.methodLink M.1.cls idx N.1 ∈ kv_gw) (hst : (st.map fun v => v.category).sum ≤ 8) (hs : as.reverse ++ st = stk) (hd : decode M.2.1 pc = .ok (.invokestatic idx, 3)) (hN : ∀ a, x0 = some a → kv_C N d as (c, m, f, u) ((fun a : Bool => (some (.int (kv_b a)), (c, m, f, u))) a)) (kk : ∀ (b0 : Bool), kv_X M (d + 1) o P (K b0) (pc + 3) lv (.int (kv_b b0) :: st) (c, m, f, u)) : kv_X M (d + 1) o P (kv_bind1 x0 K) pc lv stk (c, m, f, u) := by
  subst hs
  exact kv_callS (E := (fun a : Bool => (some (.int (kv_b a)), (c, m, f, u)))) hok hn hl0 hst hd hN (fun a => kk a)
theorem kv_cV_cI {α : Type} {M N : kv_MI} {d : Nat} {o : Option Value × kv_W} {P : α → Prop} {x0 : Option Int32} {K : Int32 → Option α} {pc : Nat} {lv : List (Nat × Value)} {st as stk : List Value} {n idx : Nat} {c : Nat → Nat → Int32} {y : (Nat → Nat → Int32) × (Nat → Int64) × (Nat → Int64)} {r ci Nf : Nat} {C : String} {T : u_T} {ty : Nat → FieldType} (hok : kv_okV N n) (hoc : kv_okc ci C T Nf ty) (hcn : C = N.1.cls) (hn : as.length = n) (hr : kv_kd r = ci) (hl0 : Cond.methodLink M.1.cls idx N.1 ∈ kv_gw) (hst : (st.map fun v => v.category).sum ≤ 8) (hs : as.reverse ++ .ref r :: st = stk) (hd : decode M.2.1 pc = .ok (.invokevirtual idx, 3)) (hN : ∀ a, x0 = some a → kv_C N d (.ref r :: as) (c, y) ((fun a : Int32 => (some (.int a), (c, y))) a)) (kk : ∀ (b0 : Int32), kv_X M (d + 1) o P (K b0) (pc + 3) lv (.int b0 :: st) (c, y)) : kv_X M (d + 1) o P (kv_bind1 x0 K) pc lv stk (c, y) := by
  subst hs
  exact kv_callV (E := (fun a : Int32 => (some (.int a), (c, y)))) hok hoc hcn hn hr hl0 hst hd hN (fun a => kk a)
theorem kv_cV_cIc {α : Type} {M N : kv_MI} {d : Nat} {o : Option Value × kv_W} {P : α → Prop} {x0 : Option (Int32 × (Nat → Nat → Int32))} {K : Int32 → (Nat → Nat → Int32) → Option α} {pc : Nat} {lv : List (Nat × Value)} {st as stk : List Value} {n idx : Nat} {c : Nat → Nat → Int32} {y : (Nat → Nat → Int32) × (Nat → Int64) × (Nat → Int64)} {r ci Nf : Nat} {C : String} {T : u_T} {ty : Nat → FieldType} (hok : kv_okV N n) (hoc : kv_okc ci C T Nf ty) (hcn : C = N.1.cls) (hn : as.length = n) (hr : kv_kd r = ci) (hl0 : Cond.methodLink M.1.cls idx N.1 ∈ kv_gw) (hst : (st.map fun v => v.category).sum ≤ 8) (hs : as.reverse ++ .ref r :: st = stk) (hd : decode M.2.1 pc = .ok (.invokevirtual idx, 3)) (hN : ∀ a, x0 = some a → kv_C N d (.ref r :: as) (c, y) ((fun a : (Int32 × (Nat → Nat → Int32)) => (some (.int a.1), (a.2, y))) a)) (kk : ∀ (b0 : Int32) (b1 : (Nat → Nat → Int32)), kv_X M (d + 1) o P (K b0 b1) (pc + 3) lv (.int b0 :: st) (b1, y)) : kv_X M (d + 1) o P (kv_bind2 x0 K) pc lv stk (c, y) := by
  subst hs
  exact kv_callV (E := (fun a : (Int32 × (Nat → Nat → Int32)) => (some (.int a.1), (a.2, y)))) hok hoc hcn hn hr hl0 hst hd hN (fun a => kk a.1 a.2)
theorem kv_cV_cZ {α : Type} {M N : kv_MI} {d : Nat} {o : Option Value × kv_W} {P : α → Prop} {x0 : Option Bool} {K : Bool → Option α} {pc : Nat} {lv : List (Nat × Value)} {st as stk : List Value} {n idx : Nat} {c : Nat → Nat → Int32} {y : (Nat → Nat → Int32) × (Nat → Int64) × (Nat → Int64)} {r ci Nf : Nat} {C : String} {T : u_T} {ty : Nat → FieldType} (hok : kv_okV N n) (hoc : kv_okc ci C T Nf ty) (hcn : C = N.1.cls) (hn : as.length = n) (hr : kv_kd r = ci) (hl0 : Cond.methodLink M.1.cls idx N.1 ∈ kv_gw) (hst : (st.map fun v => v.category).sum ≤ 8) (hs : as.reverse ++ .ref r :: st = stk) (hd : decode M.2.1 pc = .ok (.invokevirtual idx, 3)) (hN : ∀ a, x0 = some a → kv_C N d (.ref r :: as) (c, y) ((fun a : Bool => (some (.int (kv_b a)), (c, y))) a)) (kk : ∀ (b0 : Bool), kv_X M (d + 1) o P (K b0) (pc + 3) lv (.int (kv_b b0) :: st) (c, y)) : kv_X M (d + 1) o P (kv_bind1 x0 K) pc lv stk (c, y) := by
  subst hs
  exact kv_callV (E := (fun a : Bool => (some (.int (kv_b a)), (c, y)))) hok hoc hcn hn hr hl0 hst hd hN (fun a => kk a)
theorem kv_cV_cc {α : Type} {M N : kv_MI} {d : Nat} {o : Option Value × kv_W} {P : α → Prop} {x0 : Option (Nat → Nat → Int32)} {K : (Nat → Nat → Int32) → Option α} {pc : Nat} {lv : List (Nat × Value)} {st as stk : List Value} {n idx : Nat} {c : Nat → Nat → Int32} {y : (Nat → Nat → Int32) × (Nat → Int64) × (Nat → Int64)} {r ci Nf : Nat} {C : String} {T : u_T} {ty : Nat → FieldType} (hok : kv_okV N n) (hoc : kv_okc ci C T Nf ty) (hcn : C = N.1.cls) (hn : as.length = n) (hr : kv_kd r = ci) (hl0 : Cond.methodLink M.1.cls idx N.1 ∈ kv_gw) (hst : (st.map fun v => v.category).sum ≤ 8) (hs : as.reverse ++ .ref r :: st = stk) (hd : decode M.2.1 pc = .ok (.invokevirtual idx, 3)) (hN : ∀ a, x0 = some a → kv_C N d (.ref r :: as) (c, y) ((fun a : (Nat → Nat → Int32) => (none, (a, y))) a)) (kk : ∀ (b0 : (Nat → Nat → Int32)), kv_X M (d + 1) o P (K b0) (pc + 3) lv (st) (b0, y)) : kv_X M (d + 1) o P (kv_bind1 x0 K) pc lv stk (c, y) := by
  subst hs
  exact kv_callV (E := (fun a : (Nat → Nat → Int32) => (none, (a, y)))) hok hoc hcn hn hr hl0 hst hd hN (fun a => kk a)
theorem kv_cV_mI {α : Type} {M N : kv_MI} {d : Nat} {o : Option Value × kv_W} {P : α → Prop} {x0 : Option Int32} {K : Int32 → Option α} {pc : Nat} {lv : List (Nat × Value)} {st as stk : List Value} {n idx : Nat} {c m : Nat → Nat → Int32} {f u : Nat → Int64} {r ci Nf : Nat} {C : String} {T : u_T} {ty : Nat → FieldType} (hok : kv_okV N n) (hoc : kv_okc ci C T Nf ty) (hcn : C = N.1.cls) (hn : as.length = n) (hr : kv_kd r = ci) (hl0 : Cond.methodLink M.1.cls idx N.1 ∈ kv_gw) (hst : (st.map fun v => v.category).sum ≤ 8) (hs : as.reverse ++ .ref r :: st = stk) (hd : decode M.2.1 pc = .ok (.invokevirtual idx, 3)) (hN : ∀ a, x0 = some a → kv_C N d (.ref r :: as) (c, m, f, u) ((fun a : Int32 => (some (.int a), (c, m, f, u))) a)) (kk : ∀ (b0 : Int32), kv_X M (d + 1) o P (K b0) (pc + 3) lv (.int b0 :: st) (c, m, f, u)) : kv_X M (d + 1) o P (kv_bind1 x0 K) pc lv stk (c, m, f, u) := by
  subst hs
  exact kv_callV (E := (fun a : Int32 => (some (.int a), (c, m, f, u)))) hok hoc hcn hn hr hl0 hst hd hN (fun a => kk a)
theorem kv_cV_mZ {α : Type} {M N : kv_MI} {d : Nat} {o : Option Value × kv_W} {P : α → Prop} {x0 : Option Bool} {K : Bool → Option α} {pc : Nat} {lv : List (Nat × Value)} {st as stk : List Value} {n idx : Nat} {c m : Nat → Nat → Int32} {f u : Nat → Int64} {r ci Nf : Nat} {C : String} {T : u_T} {ty : Nat → FieldType} (hok : kv_okV N n) (hoc : kv_okc ci C T Nf ty) (hcn : C = N.1.cls) (hn : as.length = n) (hr : kv_kd r = ci) (hl0 : Cond.methodLink M.1.cls idx N.1 ∈ kv_gw) (hst : (st.map fun v => v.category).sum ≤ 8) (hs : as.reverse ++ .ref r :: st = stk) (hd : decode M.2.1 pc = .ok (.invokevirtual idx, 3)) (hN : ∀ a, x0 = some a → kv_C N d (.ref r :: as) (c, m, f, u) ((fun a : Bool => (some (.int (kv_b a)), (c, m, f, u))) a)) (kk : ∀ (b0 : Bool), kv_X M (d + 1) o P (K b0) (pc + 3) lv (.int (kv_b b0) :: st) (c, m, f, u)) : kv_X M (d + 1) o P (kv_bind1 x0 K) pc lv stk (c, m, f, u) := by
  subst hs
  exact kv_callV (E := (fun a : Bool => (some (.int (kv_b a)), (c, m, f, u)))) hok hoc hcn hn hr hl0 hst hd hN (fun a => kk a)
theorem kv_cV_mm {α : Type} {M N : kv_MI} {d : Nat} {o : Option Value × kv_W} {P : α → Prop} {x0 : Option (Nat → Nat → Int32)} {K : (Nat → Nat → Int32) → Option α} {pc : Nat} {lv : List (Nat × Value)} {st as stk : List Value} {n idx : Nat} {c m : Nat → Nat → Int32} {f u : Nat → Int64} {r ci Nf : Nat} {C : String} {T : u_T} {ty : Nat → FieldType} (hok : kv_okV N n) (hoc : kv_okc ci C T Nf ty) (hcn : C = N.1.cls) (hn : as.length = n) (hr : kv_kd r = ci) (hl0 : Cond.methodLink M.1.cls idx N.1 ∈ kv_gw) (hst : (st.map fun v => v.category).sum ≤ 8) (hs : as.reverse ++ .ref r :: st = stk) (hd : decode M.2.1 pc = .ok (.invokevirtual idx, 3)) (hN : ∀ a, x0 = some a → kv_C N d (.ref r :: as) (c, m, f, u) ((fun a : (Nat → Nat → Int32) => (none, (c, a, f, u))) a)) (kk : ∀ (b0 : (Nat → Nat → Int32)), kv_X M (d + 1) o P (K b0) (pc + 3) lv (st) (c, b0, f, u)) : kv_X M (d + 1) o P (kv_bind1 x0 K) pc lv stk (c, m, f, u) := by
  subst hs
  exact kv_callV (E := (fun a : (Nat → Nat → Int32) => (none, (c, a, f, u)))) hok hoc hcn hn hr hl0 hst hd hN (fun a => kk a)
def kv_u0 {β : Type} (K : β) (e : Unit) : β := K
def kv_u1 {A0 β : Type} (K : A0 → β) (e : A0) : β := K e
def kv_u2 {A0 A1 β : Type} (K : A0 → A1 → β) (e : A0 × A1) : β := K e.1 e.2
def kv_u3 {A0 A1 A2 β : Type} (K : A0 → A1 → A2 → β) (e : A0 × A1 × A2) : β := K e.1 e.2.1 e.2.2
theorem kv_cut_0 {α : Type} {M : kv_MI} {d : Nat} {o : Option Value × kv_W} {P : α → Prop} {x : Option α} {pc : Nat} {lv : List (Nat × Value)} {st : List Value} {w : kv_W} {J : Option α} {pcj : Nat} {LJ : List (Nat × Value)} {SJ : List Value} {WJ : kv_W} (hj : kv_X M d o P (J) pcj (LJ) (SJ) (WJ)) (k : (kv_X M d o P (J) pcj (LJ) (SJ) (WJ)) → kv_X M d o P x pc lv st w) : kv_X M d o P x pc lv st w := k hj
theorem kv_cut_1 {α G0 : Type} {M : kv_MI} {d : Nat} {o : Option Value × kv_W} {P : α → Prop} {x : Option α} {pc : Nat} {lv : List (Nat × Value)} {st : List Value} {w : kv_W} {J : G0 → Option α} {pcj : Nat} {LJ : G0 → List (Nat × Value)} {SJ : G0 → List Value} {WJ : G0 → kv_W} (hj : ∀ g0, kv_X M d o P (J g0) pcj (LJ g0) (SJ g0) (WJ g0)) (k : (∀ g0, kv_X M d o P (J g0) pcj (LJ g0) (SJ g0) (WJ g0)) → kv_X M d o P x pc lv st w) : kv_X M d o P x pc lv st w := k hj
theorem kv_cut_2 {α G0 G1 : Type} {M : kv_MI} {d : Nat} {o : Option Value × kv_W} {P : α → Prop} {x : Option α} {pc : Nat} {lv : List (Nat × Value)} {st : List Value} {w : kv_W} {J : G0 → G1 → Option α} {pcj : Nat} {LJ : G0 → G1 → List (Nat × Value)} {SJ : G0 → G1 → List Value} {WJ : G0 → G1 → kv_W} (hj : ∀ g0 g1, kv_X M d o P (J g0 g1) pcj (LJ g0 g1) (SJ g0 g1) (WJ g0 g1)) (k : (∀ g0 g1, kv_X M d o P (J g0 g1) pcj (LJ g0 g1) (SJ g0 g1) (WJ g0 g1)) → kv_X M d o P x pc lv st w) : kv_X M d o P x pc lv st w := k hj
theorem kv_lp_1_0_0 {α A0 : Type} {M : kv_MI} {d : Nat} {o : Option Value × kv_W} {P : α → Prop} {body : A0 → Option ((A0) ⊕ (Unit ⊕ Unit))} {pc : Nat} {LV : A0 → List (Nat × Value)} {WW : A0 → kv_W} {a0 : A0} {K1 : Option α} {pe1 : Nat} {LE1 : List (Nat × Value)} {WE1 : kv_W} {K2 : Option α} {pe2 : Nat} {LE2 : List (Nat × Value)} {WE2 : kv_W} (hk1 : kv_X M d o P (K1) pe1 (LE1) [] (WE1)) (hk2 : kv_X M d o P (K2) pe2 (LE2) [] (WE2)) (hb : ((∃ a, (Sum.elim (kv_u0 K1) (kv_u0 K2)) (.inl ()) = some a ∧ P a) → kv_B M d o pe1 (LE1) [] (WE1)) → ((∃ a, (Sum.elim (kv_u0 K1) (kv_u0 K2)) (.inr ()) = some a ∧ P a) → kv_B M d o pe2 (LE2) [] (WE2)) → ∀ a0, kv_X M d o (Sum.elim (fun s2 => kv_B M d o pc (kv_u1 LV s2) [] (kv_u1 WW s2)) (fun r => ∃ a, (Sum.elim (kv_u0 K1) (kv_u0 K2)) r = some a ∧ P a)) (body a0) pc (LV a0) [] (WW a0)) : kv_X M d o P ((kv_loop (kv_u1 body) a0).bind (Sum.elim (kv_u0 K1) (kv_u0 K2))) pc (LV a0) [] (WW a0) :=
  kv_loopR (kv_u1 LV) (kv_u1 WW) a0 (fun s => hb (kv_exit (K := (Sum.elim (kv_u0 K1) (kv_u0 K2))) (r := (.inl ())) (hk1)) (kv_exit (K := (Sum.elim (kv_u0 K1) (kv_u0 K2))) (r := (.inr ())) (hk2)) s)
theorem kv_lp_1_1_0 {α A0 B0 : Type} {M : kv_MI} {d : Nat} {o : Option Value × kv_W} {P : α → Prop} {body : A0 → Option ((A0) ⊕ ((B0) ⊕ Unit))} {pc : Nat} {LV : A0 → List (Nat × Value)} {WW : A0 → kv_W} {a0 : A0} {K1 : B0 → Option α} {pe1 : Nat} {LE1 : B0 → List (Nat × Value)} {WE1 : B0 → kv_W} {K2 : Option α} {pe2 : Nat} {LE2 : List (Nat × Value)} {WE2 : kv_W} (hk1 : ∀ b0, kv_X M d o P (K1 b0) pe1 (LE1 b0) [] (WE1 b0)) (hk2 : kv_X M d o P (K2) pe2 (LE2) [] (WE2)) (hb : (∀ b0, (∃ a, (Sum.elim (kv_u1 K1) (kv_u0 K2)) (.inl b0) = some a ∧ P a) → kv_B M d o pe1 (LE1 b0) [] (WE1 b0)) → ((∃ a, (Sum.elim (kv_u1 K1) (kv_u0 K2)) (.inr ()) = some a ∧ P a) → kv_B M d o pe2 (LE2) [] (WE2)) → ∀ a0, kv_X M d o (Sum.elim (fun s2 => kv_B M d o pc (kv_u1 LV s2) [] (kv_u1 WW s2)) (fun r => ∃ a, (Sum.elim (kv_u1 K1) (kv_u0 K2)) r = some a ∧ P a)) (body a0) pc (LV a0) [] (WW a0)) : kv_X M d o P ((kv_loop (kv_u1 body) a0).bind (Sum.elim (kv_u1 K1) (kv_u0 K2))) pc (LV a0) [] (WW a0) :=
  kv_loopR (kv_u1 LV) (kv_u1 WW) a0 (fun s => hb (fun b0 => kv_exit (K := (Sum.elim (kv_u1 K1) (kv_u0 K2))) (r := (.inl b0)) (hk1 b0)) (kv_exit (K := (Sum.elim (kv_u1 K1) (kv_u0 K2))) (r := (.inr ())) (hk2)) s)
theorem kv_lp_2_1 {α A0 A1 B0 : Type} {M : kv_MI} {d : Nat} {o : Option Value × kv_W} {P : α → Prop} {body : A0 → A1 → Option ((A0 × A1) ⊕ (B0))} {pc : Nat} {LV : A0 → A1 → List (Nat × Value)} {WW : A0 → A1 → kv_W} {a0 : A0} {a1 : A1} {K1 : B0 → Option α} {pe1 : Nat} {LE1 : B0 → List (Nat × Value)} {WE1 : B0 → kv_W} (hk1 : ∀ b0, kv_X M d o P (K1 b0) pe1 (LE1 b0) [] (WE1 b0)) (hb : (∀ b0, (∃ a, (kv_u1 K1) b0 = some a ∧ P a) → kv_B M d o pe1 (LE1 b0) [] (WE1 b0)) → ∀ a0 a1, kv_X M d o (Sum.elim (fun s2 => kv_B M d o pc (kv_u2 LV s2) [] (kv_u2 WW s2)) (fun r => ∃ a, (kv_u1 K1) r = some a ∧ P a)) (body a0 a1) pc (LV a0 a1) [] (WW a0 a1)) : kv_X M d o P ((kv_loop (kv_u2 body) (a0, a1)).bind (kv_u1 K1)) pc (LV a0 a1) [] (WW a0 a1) :=
  kv_loopR (kv_u2 LV) (kv_u2 WW) (a0, a1) (fun s => hb (fun b0 => kv_exit (K := (kv_u1 K1)) (r := b0) (hk1 b0)) s.1 s.2)
theorem kv_lp_3_2_2 {α A0 A1 A2 B0 B1 C0 C1 : Type} {M : kv_MI} {d : Nat} {o : Option Value × kv_W} {P : α → Prop} {body : A0 → A1 → A2 → Option ((A0 × A1 × A2) ⊕ ((B0 × B1) ⊕ (C0 × C1)))} {pc : Nat} {LV : A0 → A1 → A2 → List (Nat × Value)} {WW : A0 → A1 → A2 → kv_W} {a0 : A0} {a1 : A1} {a2 : A2} {K1 : B0 → B1 → Option α} {pe1 : Nat} {LE1 : B0 → B1 → List (Nat × Value)} {WE1 : B0 → B1 → kv_W} {K2 : C0 → C1 → Option α} {pe2 : Nat} {LE2 : C0 → C1 → List (Nat × Value)} {WE2 : C0 → C1 → kv_W} (hk1 : ∀ b0 b1, kv_X M d o P (K1 b0 b1) pe1 (LE1 b0 b1) [] (WE1 b0 b1)) (hk2 : ∀ c0 c1, kv_X M d o P (K2 c0 c1) pe2 (LE2 c0 c1) [] (WE2 c0 c1)) (hb : (∀ b0 b1, (∃ a, (Sum.elim (kv_u2 K1) (kv_u2 K2)) (.inl (b0, b1)) = some a ∧ P a) → kv_B M d o pe1 (LE1 b0 b1) [] (WE1 b0 b1)) → (∀ c0 c1, (∃ a, (Sum.elim (kv_u2 K1) (kv_u2 K2)) (.inr (c0, c1)) = some a ∧ P a) → kv_B M d o pe2 (LE2 c0 c1) [] (WE2 c0 c1)) → ∀ a0 a1 a2, kv_X M d o (Sum.elim (fun s2 => kv_B M d o pc (kv_u3 LV s2) [] (kv_u3 WW s2)) (fun r => ∃ a, (Sum.elim (kv_u2 K1) (kv_u2 K2)) r = some a ∧ P a)) (body a0 a1 a2) pc (LV a0 a1 a2) [] (WW a0 a1 a2)) : kv_X M d o P ((kv_loop (kv_u3 body) (a0, a1, a2)).bind (Sum.elim (kv_u2 K1) (kv_u2 K2))) pc (LV a0 a1 a2) [] (WW a0 a1 a2) :=
  kv_loopR (kv_u3 LV) (kv_u3 WW) (a0, a1, a2) (fun s => hb (fun b0 b1 => kv_exit (K := (Sum.elim (kv_u2 K1) (kv_u2 K2))) (r := (.inl (b0, b1))) (hk1 b0 b1)) (fun c0 c1 => kv_exit (K := (Sum.elim (kv_u2 K1) (kv_u2 K2))) (r := (.inr (c0, c1))) (hk2 c0 c1)) s.1 s.2.1 s.2.2)
theorem kkb_m11 : (Int8.ofInt (-11)).toInt32 = (-11 : Int32) := by decide
theorem kkb_m12 : (Int8.ofInt (-12)).toInt32 = (-12 : Int32) := by decide
theorem kkb_m128 : (Int8.ofInt (-128)).toInt32 = (-128 : Int32) := by decide
theorem kkb_m2 : (Int8.ofInt (-2)).toInt32 = (-2 : Int32) := by decide
theorem kkb_m3 : (Int8.ofInt (-3)).toInt32 = (-3 : Int32) := by decide
theorem kkb_m4 : (Int8.ofInt (-4)).toInt32 = (-4 : Int32) := by decide
theorem kkb_m9 : (Int8.ofInt (-9)).toInt32 = (-9 : Int32) := by decide
theorem kkb_m99 : (Int8.ofInt (-99)).toInt32 = (-99 : Int32) := by decide
theorem kkb_10 : (Int8.ofInt (10)).toInt32 = (10 : Int32) := by decide
theorem kkb_100 : (Int8.ofInt (100)).toInt32 = (100 : Int32) := by decide
theorem kkb_12 : (Int8.ofInt (12)).toInt32 = (12 : Int32) := by decide
theorem kkb_20 : (Int8.ofInt (20)).toInt32 = (20 : Int32) := by decide
theorem kkb_44 : (Int8.ofInt (44)).toInt32 = (44 : Int32) := by decide
theorem kkb_6 : (Int8.ofInt (6)).toInt32 = (6 : Int32) := by decide
theorem kkb_7 : (Int8.ofInt (7)).toInt32 = (7 : Int32) := by decide
theorem kkb_80 : (Int8.ofInt (80)).toInt32 = (80 : Int32) := by decide
theorem kkb_9 : (Int8.ofInt (9)).toInt32 = (9 : Int32) := by decide
theorem kkb_99 : (Int8.ofInt (99)).toInt32 = (99 : Int32) := by decide
theorem kkg_1_444 : kv_in (1 : Int32) 444 = true := by decide
theorem kkg_2_444 : kv_in (2 : Int32) 444 = true := by decide
theorem kki_m1 : Int32.ofInt (-1) = (-1 : Int32) := by decide
theorem kki_0 : Int32.ofInt (0) = (0 : Int32) := by decide
theorem kki_1 : Int32.ofInt (1) = (1 : Int32) := by decide
theorem kki_2 : Int32.ofInt (2) = (2 : Int32) := by decide
theorem kki_3 : Int32.ofInt (3) = (3 : Int32) := by decide
theorem kki_4 : Int32.ofInt (4) = (4 : Int32) := by decide
theorem kki_5 : Int32.ofInt (5) = (5 : Int32) := by decide
theorem kkl_0 : Int64.ofNat ((0 : Fin 2) : Nat) = (0 : Int64) := by decide
theorem kkn_10 : ¬ (10 : Int32) = 0 := by decide
theorem kks_m32768 : (Int16.ofInt (-32768)).toInt32 = (-32768 : Int32) := by decide
theorem kks_m9999 : (Int16.ofInt (-9999)).toInt32 = (-9999 : Int32) := by decide
theorem kks_140 : (Int16.ofInt (140)).toInt32 = (140 : Int32) := by decide
theorem kks_141 : (Int16.ofInt (141)).toInt32 = (141 : Int32) := by decide
theorem kks_9999 : (Int16.ofInt (9999)).toInt32 = (9999 : Int32) := by decide
theorem kkx_1 : ((1 : Int32)).toNatClampNeg = 1 := by decide
theorem kkx_2 : ((2 : Int32)).toNatClampNeg = 2 := by decide
theorem kv_wmabs : Cond.code Lib.Math.abs.name Lib.Math.abs.code 1 (some .int) ∈ kv_gw := List.mem_filter.mpr ⟨List.mem_of_getElem? (i := 956) (by decide +kernel), by decide +kernel⟩
theorem kv_mabs {α : Type} {M : kv_MI} {d : Nat} {o : Option Value × kv_W} {P : α → Prop} {x : Option α} {pc idx : Nat} {lv : List (Nat × Value)} {st : List Value} {w : kv_W} {a : Int32} (h1 : Cond.methodLink M.1.cls idx Lib.Math.abs.name ∈ kv_gw) (h2 : Cond.static Lib.Math.abs.name ∈ kv_gw) (h3 : Cond.initialized "java/lang/Math" ∈ kv_gw) (h4 : Cond.code Lib.Math.abs.name Lib.Math.abs.code 1 (some .int) ∈ kv_gw) (hst : (st.map fun v => v.category).sum ≤ 8) (hd : decode M.2.1 pc = .ok (.invokestatic idx, 3)) (k : kv_X M (d + 1) o P x (pc + 3) lv (.int (if 0 ≤ a then a else 0 - a) :: st) w) : kv_X M (d + 1) o P x pc lv (.int a :: st) w := by
  intro z hz hp l p e s m args below meth c D cy ad A H locs ls hC hP hS hl
  refine va_mabs (own := M.1.cls) hC.1 hC.2.1 (by rw [hC.2.2.1]; exact hl.1.symm) hC.2.2.2.2.2.1 (kv_hts hC h1) (kv_hts hC h2) (kv_hts hC h3) (kv_hts hC h4) (Nat.succ_le_succ (Nat.zero_le d)) ?_ (Nat.zero_le _) (Nat.zero_le _) hd (k z hz hp l p e s m args below meth c D cy ad A H locs ls hC hP hS hl)
  have e1 := kv_sum8 ad hst
  have e3 : (kv_rm (d + 1)).locals = 64 * (d + 1) := rfl
  omega
theorem kv_wmmax : Cond.code Lib.Math.max.name Lib.Math.max.code 2 (some .int) ∈ kv_gw := List.mem_filter.mpr ⟨List.mem_of_getElem? (i := 976) (by decide +kernel), by decide +kernel⟩
theorem kv_mmax {α : Type} {M : kv_MI} {d : Nat} {o : Option Value × kv_W} {P : α → Prop} {x : Option α} {pc idx : Nat} {lv : List (Nat × Value)} {st : List Value} {w : kv_W} {a b : Int32} (h1 : Cond.methodLink M.1.cls idx Lib.Math.max.name ∈ kv_gw) (h2 : Cond.static Lib.Math.max.name ∈ kv_gw) (h3 : Cond.initialized "java/lang/Math" ∈ kv_gw) (h4 : Cond.code Lib.Math.max.name Lib.Math.max.code 2 (some .int) ∈ kv_gw) (hst : (st.map fun v => v.category).sum ≤ 8) (hd : decode M.2.1 pc = .ok (.invokestatic idx, 3)) (k : kv_X M (d + 1) o P x (pc + 3) lv (.int (if a < b then b else a) :: st) w) : kv_X M (d + 1) o P x pc lv (.int b :: .int a :: st) w := by
  intro z hz hp l p e s m args below meth c D cy ad A H locs ls hC hP hS hl
  refine va_mmax (own := M.1.cls) hC.1 hC.2.1 (by rw [hC.2.2.1]; exact hl.1.symm) hC.2.2.2.2.2.1 (kv_hts hC h1) (kv_hts hC h2) (kv_hts hC h3) (kv_hts hC h4) (Nat.succ_le_succ (Nat.zero_le d)) ?_ (Nat.zero_le _) (Nat.zero_le _) hd (k z hz hp l p e s m args below meth c D cy ad A H locs ls hC hP hS hl)
  have e1 := kv_sum8 ad hst
  have e3 : (kv_rm (d + 1)).locals = 64 * (d + 1) := rfl
  omega
theorem kv_wmmin : Cond.code Lib.Math.min.name Lib.Math.min.code 2 (some .int) ∈ kv_gw := List.mem_filter.mpr ⟨List.mem_of_getElem? (i := 979) (by decide +kernel), by decide +kernel⟩
theorem kv_mmin {α : Type} {M : kv_MI} {d : Nat} {o : Option Value × kv_W} {P : α → Prop} {x : Option α} {pc idx : Nat} {lv : List (Nat × Value)} {st : List Value} {w : kv_W} {a b : Int32} (h1 : Cond.methodLink M.1.cls idx Lib.Math.min.name ∈ kv_gw) (h2 : Cond.static Lib.Math.min.name ∈ kv_gw) (h3 : Cond.initialized "java/lang/Math" ∈ kv_gw) (h4 : Cond.code Lib.Math.min.name Lib.Math.min.code 2 (some .int) ∈ kv_gw) (hst : (st.map fun v => v.category).sum ≤ 8) (hd : decode M.2.1 pc = .ok (.invokestatic idx, 3)) (k : kv_X M (d + 1) o P x (pc + 3) lv (.int (if b < a then b else a) :: st) w) : kv_X M (d + 1) o P x pc lv (.int b :: .int a :: st) w := by
  intro z hz hp l p e s m args below meth c D cy ad A H locs ls hC hP hS hl
  refine va_mmin (own := M.1.cls) hC.1 hC.2.1 (by rw [hC.2.2.1]; exact hl.1.symm) hC.2.2.2.2.2.1 (kv_hts hC h1) (kv_hts hC h2) (kv_hts hC h3) (kv_hts hC h4) (Nat.succ_le_succ (Nat.zero_le d)) ?_ (Nat.zero_le _) (Nat.zero_le _) hd (k z hz hp l p e s m args below meth c D cy ad A H locs ls hC hP hS hl)
  have e1 := kv_sum8 ad hst
  have e3 : (kv_rm (d + 1)).locals = 64 * (d + 1) := rfl
  omega
