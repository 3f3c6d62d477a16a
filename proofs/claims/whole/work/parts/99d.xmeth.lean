/-! ===== element, throwFailure, toss, the law's element ===== -/
section XM
theorem kz_roomX {dd x D : Nat} (h1 : dd + 1 ≤ D) (h2 : 8 + (x + 11) + 64 * dd ≤ 64 * D) : kz_room (kx_rm D) 0 0 dd x := ⟨h1, h2, Nat.zero_le _, Nat.zero_le _⟩
theorem kz_bf {b : Bool} (h : kv_b b = 0) : b = false := by cases b with
  | false => rfl
  | true => exact absurd h (by decide)
theorem kz_bt {b : Bool} (h : ¬ kv_b b = 0) : b = true := by cases b with
  | false => exact absurd rfl h
  | true => rfl
theorem kx_lret {M : kv_MI} {d pc : Nat} {lv : List (Nat × Value)} {w : kv_W} {v : Int64} (hr : M.2.2.2 = some .long) (hd : decode M.2.1 pc = .ok (.lreturn, 1)) : kz_B M (kx_rm d) 0 0 kx_E (kx_Q (.inr (some (.long v), w))) pc lv [.long v] w := by
  refine kz_widen (k2 := 1) (n2 := 6) (by omega) (by omega) ?_
  intro l p e s m args below meth c D cy ad A H locs ls hC hE hP hS hl
  exact vx_ret (W.lret hC.1 hC.2.1 (hC.2.2.2.1.trans hr) (fun t ht hW => ⟨_, rfl, kv_end (v := some (.long v)) hP hS hC.2.2.2.2.2.2.2.1 ht hW⟩) hS.2.2 hd hC.2.2.2.2.1)
theorem kx_vret {M : kv_MI} {d pc : Nat} {lv : List (Nat × Value)} {w : kv_W} (hr : M.2.2.2 = none) (hd : decode M.2.1 pc = .ok (.return_, 1)) : kz_B M (kx_rm d) 0 0 kx_E (kx_Q (.inr (none, w))) pc lv [] w := by
  refine kz_widen (k2 := 1) (n2 := 6) (by omega) (by omega) ?_
  intro l p e s m args below meth c D cy ad A H locs ls hC hE hP hS hl
  exact vx_ret (W.vret hC.1 hC.2.1 (hC.2.2.2.1.trans hr) (fun t ht hW => ⟨_, rfl, kv_end (v := none) hP hS hC.2.2.2.2.2.2.2.1 ht hW⟩) hS.2.2 hd hC.2.2.2.2.1)
theorem kx_iretD {M : kv_MI} {R : Room} {hh : List (Nat × Nat × Nat × Nat)} {k n pc : Nat} {lv : List (Nat × Value)} {w : kv_W} {v : Int32} {o : Option Value × kv_W} (ho : o = (some (.int v), w)) (hk : k ≤ 1) (hn : n ≤ 6) (hr : M.2.2.2 = some .int) (hd : decode M.2.1 pc = .ok (.ireturn, 1)) : kz_B M R k n (kx_EH hh) (kx_QD o) pc lv [.int v] w := by
  subst ho
  refine kz_widen (k2 := 1) (n2 := 6) hk hn ?_
  intro l p e s m args below meth c D cy ad A H locs ls hC hE hP hS hl
  exact W.iret hC.1 hC.2.1 (hC.2.2.2.1.trans hr) (fun t ht hW => kv_end (v := some (.int v)) hP hS hC.2.2.2.2.2.2.2.1 ht hW) hS.2.2 hd hC.2.2.2.2.1
theorem cz_K_element (d : Nat) (p1 p2 : Int32) (c : Nat → Nat → Int32) (y : (Nat → Nat → Int32) × (Nat → Int64) × (Nat → Int64)) (x : (String × kv_W) ⊕ (Option Value × kv_W)) (b : Bool) (hb : fx_K_isShelf p1 = some b) (h1 : b = false → x = .inl ("java/lang/IllegalArgumentException", (c, y))) (h2 : b = true → kv_in p1 8 = true ∧ ∃ b2, fx_Shelf_isRow (kv_tg 51 p1.toNatClampNeg) c = some b2 ∧ (b2 = false → x = .inl ("java/lang/IllegalStateException", (c, y))) ∧ (b2 = true → ∃ b3, fx_K_isWithin p2 (0 : Int32) (c (kv_tg 51 p1.toNatClampNeg) 3 - 1) = some b3 ∧ (b3 = false → x = .inl ("java/lang/IllegalStateException", (c, y))) ∧ (b3 = true → kv_in p2 100 = true ∧ x = .inr (some (.long (c (kv_tg (kv_tg 51 p1.toNatClampNeg) 0) p2.toNatClampNeg).toInt64), (c, y))))) : kx_C kM_K_element (d + 6) [.ref 0, .int p1, .int p2] (c, y) x := by
  refine kx_entry rfl (Nat.le_of_ble_eq_true rfl) ?_
  show kz_B kM_K_element (kx_rm (d + 6)) 0 0 kx_E (kx_Q x) 0 [(0, .ref 0), (1, .int p1), (2, .int p2)] [] (c, y)
  refine kz_iload_n (pc := 0) 1 rfl rfl dk_K_element_0 ?_
  refine kz_callS (pc := 1) (as := [.int p1]) (st := []) (d := 1) ko_K_isShelf rfl kw_624 (Nat.le_of_ble_eq_true rfl) dk_K_element_1 (kz_roomX (by omega) (by show 8 + (1 + 11) + 64 * 1 ≤ 64 * (d + 6); omega)) (cx_K_isShelf 0 p1 c y b hb) ?_
  show kz_B kM_K_element (kx_rm (d + 6)) 0 0 kx_E (kx_Q x) 4 [(0, .ref 0), (1, .int p1), (2, .int p2)] [.int (kv_b b)] (c, y)
  refine kz_if_ne (pc := 4) (tgt := 18) dk_K_element_4 rfl (fun hz1 => ?_) (fun hz1 => ?_)
  rotate_left
  · rw [h1 (kz_bf hz1)]
    exact kx_throw1 (pc := 7) rfl (by omega) rfl dk_K_element_7 dk_K_element_10 dk_K_element_11 dk_K_element_14 dk_K_element_17
  obtain ⟨g1, b2, hb2, k1, k2⟩ := h2 (kz_bt hz1)
  refine kz_aload_n (pc := 18) 0 rfl rfl dk_K_element_18 ?_
  refine kz_getR (pc := 19) kf_K_21 kr_0 rfl kt_0_3 dk_K_element_19 ?_
  refine kz_iload_n (pc := 22) 1 rfl rfl dk_K_element_22 ?_
  refine kz_aald (pc := 23) kr_51 kl_51 g1 rfl dk_K_element_23 ?_
  refine kz_astore_n (pc := 24) (lv' := [(3, .ref (kv_tg 51 p1.toNatClampNeg)), (0, .ref 0), (1, .int p1), (2, .int p2)]) rfl (Nat.le_of_ble_eq_true rfl) rfl dk_K_element_24 ?_
  refine kz_aload_n (pc := 25) 0 rfl rfl dk_K_element_25 ?_
  refine kz_callV (pc := 26) (as := []) (st := []) (d := 0) ko_Shelf_isRow kc_7 rfl rfl (kv_sh g1) kw_631 (Nat.le_of_ble_eq_true rfl) dk_K_element_26 (kz_roomX (by omega) (by show 8 + (1 + 11) + 64 * 0 ≤ 64 * (d + 6); omega)) (cx_Shelf_isRow 0 (kv_tg 51 p1.toNatClampNeg) c y (kv_sh g1) b2 hb2) ?_
  show kz_B kM_K_element (kx_rm (d + 6)) 0 0 kx_E (kx_Q x) 29 [(3, .ref (kv_tg 51 p1.toNatClampNeg)), (0, .ref 0), (1, .int p1), (2, .int p2)] [.int (kv_b b2)] (c, y)
  refine kz_if_eq (pc := 29) (tgt := 46) dk_K_element_29 rfl (fun hz2 => ?_) (fun hz2 => ?_)
  · rw [k1 (kz_bf hz2)]
    exact kx_throw2 (pc := 46) rfl (by omega) rfl (Or.inl rfl) dk_K_element_46 dk_K_element_49 dk_K_element_50 dk_K_element_53 dk_K_element_56
  obtain ⟨b3, hb3, k3, k4⟩ := k2 (kz_bt hz2)
  refine kz_iload_n (pc := 32) 3 rfl rfl dk_K_element_32 ?_
  refine kz_iconst (pc := 33) (v := (0 : Int32)) dk_K_element_33 kki_0 ?_
  refine kz_aload_n (pc := 34) 0 rfl rfl dk_K_element_34 ?_
  refine kz_getC (pc := 35) kf_K_174 (kv_sh g1) (kv_7nc (kv_sh g1)) rfl dk_K_element_35 ?_
  refine kz_iconst (pc := 38) (v := (1 : Int32)) dk_K_element_38 kki_1 ?_
  refine kz_isub (pc := 39) dk_K_element_39 ?_
  refine kz_callS (pc := 40) (as := [.int p2, .int (0 : Int32), .int (c (kv_tg 51 p1.toNatClampNeg) 3 - (1 : Int32))]) (st := []) (d := 0) ko_K_isWithin rfl kw_512 (Nat.le_of_ble_eq_true rfl) dk_K_element_40 (kz_roomX (by omega) (by show 8 + (3 + 11) + 64 * 0 ≤ 64 * (d + 6); omega)) (cx_K_isWithin 0 p2 (0 : Int32) (c (kv_tg 51 p1.toNatClampNeg) 3 - (1 : Int32)) c y b3 hb3) ?_
  show kz_B kM_K_element (kx_rm (d + 6)) 0 0 kx_E (kx_Q x) 43 [(3, .ref (kv_tg 51 p1.toNatClampNeg)), (0, .ref 0), (1, .int p1), (2, .int p2)] [.int (kv_b b3)] (c, y)
  refine kz_if_ne (pc := 43) (tgt := 57) dk_K_element_43 rfl (fun hz3 => ?_) (fun hz3 => ?_)
  rotate_left
  · rw [k3 (kz_bf hz3)]
    exact kx_throw2 (pc := 46) rfl (by omega) rfl (Or.inl rfl) dk_K_element_46 dk_K_element_49 dk_K_element_50 dk_K_element_53 dk_K_element_56
  obtain ⟨g5, rfl⟩ := k4 (kz_bt hz3)
  refine kz_aload_n (pc := 57) 0 rfl rfl dk_K_element_57 ?_
  refine kz_getR (pc := 58) kf_K_184 (kv_sh g1) rfl rfl dk_K_element_58 ?_
  refine kz_iload_n (pc := 61) 3 rfl rfl dk_K_element_61 ?_
  refine kz_aldC (pc := 62) (kv_7e (kv_sh g1)) (kv_7enc (kv_sh g1)) (kv_7eln (kv_sh g1)) g5 rfl dk_K_element_62 ?_
  refine kz_i2l (pc := 63) dk_K_element_63 ?_
  exact kx_lret (pc := 64) rfl dk_K_element_64
/-- the number of a failure -/
def fz_tf (c : Nat → Nat → Int32) (r : Nat) : Int32 := if c r 5 = 4 then 200 + c r 6 else if c r 5 = 6 then c r 4 + 100 else c r 4
theorem cz_K_throwFailure (d : Nat) (r : Nat) (hr : kv_kd r = 7) (c : Nat → Nat → Int32) (y : (Nat → Nat → Int32) × (Nat → Int64) × (Nat → Int64)) (x : (String × kv_W) ⊕ (Option Value × kv_W)) (h1 : (c r 5 = 1 ∨ c r 7 = 0) → x = .inr (none, (c, y))) (h2 : ¬ (c r 5 = 1 ∨ c r 7 = 0) → x = .inl ("java/lang/IllegalStateException", (kv_st c 0 8 (fz_tf c r), y))) : kx_C kM_K_throwFailure (d + 6) [.ref 0, .ref r] (c, y) x := by
  refine kx_entry rfl (Nat.le_of_ble_eq_true rfl) ?_
  show kz_B kM_K_throwFailure (kx_rm (d + 6)) 0 0 kx_E (kx_Q x) 0 [(0, .ref 0), (1, .ref r)] [] (c, y)
  have quiet : x = .inr (none, (c, y)) → kz_B kM_K_throwFailure (kx_rm (d + 6)) 0 0 kx_E (kx_Q x) 15 [(0, .ref 0), (1, .ref r)] [] (c, y) := fun hx => by
    rw [hx]
    exact kx_vret (pc := 15) rfl dk_K_throwFailure_15
  refine kz_aload_n (pc := 0) 1 rfl rfl dk_K_throwFailure_0 ?_
  refine kz_getC (pc := 1) kf_K_458 hr (kv_7nc hr) rfl dk_K_throwFailure_1 ?_
  refine kz_iconst (pc := 4) (v := (1 : Int32)) dk_K_throwFailure_4 kki_1 ?_
  refine kz_icmp_eq (pc := 5) (tgt := 15) dk_K_throwFailure_5 rfl (fun hz1 => quiet (h1 (Or.inl hz1))) (fun hz1 => ?_)
  refine kz_aload_n (pc := 8) 1 rfl rfl dk_K_throwFailure_8 ?_
  refine kz_getC (pc := 9) kf_K_460 hr (kv_7nc hr) rfl dk_K_throwFailure_9 ?_
  refine kz_if_ne (pc := 12) (tgt := 16) dk_K_throwFailure_12 rfl (fun hz2 => ?_) (fun hz2 => quiet (h1 (Or.inr hz2)))
  rw [h2 (fun hq => hq.elim hz1 hz2)]
  have thr : ∀ v : Int32, v = fz_tf c r → kz_B kM_K_throwFailure (kx_rm (d + 6)) 0 0 kx_E (kx_Q (.inl ("java/lang/IllegalStateException", (kv_st c 0 8 (fz_tf c r), y)))) 66 [(0, .ref 0), (1, .ref r)] [] (kv_st c 0 8 v, y) := fun v hv => by
    rw [hv]
    exact kx_throw2 (pc := 66) rfl (by omega) rfl (Or.inr rfl) dk_K_throwFailure_66 dk_K_throwFailure_69 dk_K_throwFailure_70 dk_K_throwFailure_73 dk_K_throwFailure_76
  refine kz_aload_n (pc := 16) 1 rfl rfl dk_K_throwFailure_16 ?_
  refine kz_getC (pc := 17) kf_K_458 hr (kv_7nc hr) rfl dk_K_throwFailure_17 ?_
  refine kz_iconst (pc := 20) (v := (4 : Int32)) dk_K_throwFailure_20 (by decide) ?_
  refine kz_icmp_ne (pc := 21) (tgt := 39) dk_K_throwFailure_21 rfl (fun hz3 => ?_) (fun hz3 => ?_)
  rotate_left
  · refine kz_aload_n (pc := 24) 0 rfl rfl dk_K_throwFailure_24 ?_
    refine kz_sipush (pc := 25) (v := (200 : Int32)) dk_K_throwFailure_25 (by decide) ?_
    refine kz_aload_n (pc := 28) 1 rfl rfl dk_K_throwFailure_28 ?_
    refine kz_getC (pc := 29) kf_K_462 hr (kv_7nc hr) rfl dk_K_throwFailure_29 ?_
    refine kz_iadd (pc := 32) dk_K_throwFailure_32 ?_
    refine kz_putC (pc := 33) kf_K_424 kr_0 (by decide) rfl rfl rfl dk_K_throwFailure_33 ?_
    refine kz_goto (pc := 36) (tgt := 66) dk_K_throwFailure_36 rfl ?_
    exact thr _ (by unfold fz_tf; rw [if_pos hz3])
  refine kz_aload_n (pc := 39) 0 rfl rfl dk_K_throwFailure_39 ?_
  refine kz_aload_n (pc := 40) 1 rfl rfl dk_K_throwFailure_40 ?_
  refine kz_getC (pc := 41) kf_K_458 hr (kv_7nc hr) rfl dk_K_throwFailure_41 ?_
  refine kz_bipush (pc := 44) (v := (6 : Int32)) dk_K_throwFailure_44 (by decide) ?_
  refine kz_icmp_ne (pc := 46) (tgt := 59) dk_K_throwFailure_46 rfl (fun hz4 => ?_) (fun hz4 => ?_)
  · refine kz_aload_n (pc := 59) 1 rfl rfl dk_K_throwFailure_59 ?_
    refine kz_getC (pc := 60) kf_K_464 hr (kv_7nc hr) rfl dk_K_throwFailure_60 ?_
    refine kz_putC (pc := 63) kf_K_424 kr_0 (by decide) rfl rfl rfl dk_K_throwFailure_63 ?_
    exact thr _ (by unfold fz_tf; rw [if_neg hz3, if_neg hz4])
  · refine kz_aload_n (pc := 49) 1 rfl rfl dk_K_throwFailure_49 ?_
    refine kz_getC (pc := 50) kf_K_464 hr (kv_7nc hr) rfl dk_K_throwFailure_50 ?_
    refine kz_bipush (pc := 53) (v := (100 : Int32)) dk_K_throwFailure_53 (by decide) ?_
    refine kz_iadd (pc := 55) dk_K_throwFailure_55 ?_
    refine kz_goto (pc := 56) (tgt := 63) dk_K_throwFailure_56 rfl ?_
    refine kz_putC (pc := 63) kf_K_424 kr_0 (by decide) rfl rfl rfl dk_K_throwFailure_63 ?_
    exact thr _ (by unfold fz_tf; rw [if_neg hz3, if_pos hz4])
theorem kx_EH_X (hh : List (Nat × Nat × Nat × Nat)) : kz_X (kx_EH hh) := fun l p e s m args below meth c D cy ad A hE => ⟨hE.1, hE.2.2⟩
theorem cz_K_toss (d : Nat) (p1 : Int32) (c : Nat → Nat → Int32) (y : (Nat → Nat → Int32) × (Nat → Int64) × (Nat → Int64)) (v : Int32) (hv : fx_K_lumpRefusal p1 c = some v) (o : Option Value × kv_W) (h1 : ¬ v = 0 → o = (some (.int v), (c, y))) (h2 : v = 0 → kv_in p1 8 = true ∧ ((c (kv_tg 51 p1.toNatClampNeg) 5 = 1 ∨ c (kv_tg 51 p1.toNatClampNeg) 7 = 0) → o = (some (.int (-15)), (c, y))) ∧ (¬ (c (kv_tg 51 p1.toNatClampNeg) 5 = 1 ∨ c (kv_tg 51 p1.toNatClampNeg) 7 = 0) → o = (some (.int (fz_tf c (kv_tg 51 p1.toNatClampNeg))), (kv_st c 0 8 (fz_tf c (kv_tg 51 p1.toNatClampNeg)), y)))) : kx_D kM_K_toss [(12, 22, 25, 394)] (d + 9) [.ref 0, .int p1] (c, y) o := by
  refine kx_entryD rfl (Nat.le_of_ble_eq_true rfl) ?_
  show kz_B kM_K_toss (kx_rm (d + 9)) 0 0 (kx_EH [(12, 22, 25, 394)]) (kx_QD o) 0 [(0, .ref 0), (1, .int p1)] [] (c, y)
  refine kz_aload_n (pc := 0) 0 rfl rfl dk_K_toss_0 ?_
  refine kz_iload_n (pc := 1) 1 rfl rfl dk_K_toss_1 ?_
  refine kz_callV (pc := 2) (as := [.int p1]) (st := []) (d := 2) ko_K_lumpRefusal kc_10 rfl rfl kr_0 kw_1129 (Nat.le_of_ble_eq_true rfl) dk_K_toss_2 (kz_roomX (by omega) (by show 8 + (2 + 11) + 64 * 2 ≤ 64 * (d + 9); omega)) (cx_K_lumpRefusal 0 p1 c y v hv) ?_
  show kz_B kM_K_toss (kx_rm (d + 9)) 0 0 (kx_EH [(12, 22, 25, 394)]) (kx_QD o) 5 [(0, .ref 0), (1, .int p1)] [.int v] (c, y)
  refine kz_istore_n (pc := 5) (lv' := [(2, .int v), (0, .ref 0), (1, .int p1)]) rfl (Nat.le_of_ble_eq_true rfl) rfl dk_K_toss_5 ?_
  refine kz_iload_n (pc := 6) 0 rfl rfl dk_K_toss_6 ?_
  refine kz_if_eq (pc := 7) (tgt := 12) dk_K_toss_7 rfl (fun hz1 => ?_) (fun hz1 => ?_)
  rotate_left
  · refine kz_iload_n (pc := 10) 0 rfl rfl dk_K_toss_10 ?_
    exact kx_iretD (pc := 11) (h1 hz1) (by omega) (by omega) rfl dk_K_toss_11
  obtain ⟨g1, k1, k2⟩ := h2 hz1
  refine kz_aload_n (pc := 12) 1 rfl rfl dk_K_toss_12 ?_
  refine kz_aload_n (pc := 13) 1 rfl rfl dk_K_toss_13 ?_
  refine kz_getR (pc := 14) kf_K_21 kr_0 rfl kt_0_3 dk_K_toss_14 ?_
  refine kz_iload_n (pc := 17) 2 rfl rfl dk_K_toss_17 ?_
  refine kz_aald (pc := 18) kr_51 kl_51 g1 rfl dk_K_toss_18 ?_
  by_cases hq : c (kv_tg 51 p1.toNatClampNeg) 5 = 1 ∨ c (kv_tg 51 p1.toNatClampNeg) 7 = 0
  · refine kz_callVX (pc := 19) (as := [.ref (kv_tg 51 p1.toNatClampNeg)]) (st := []) (d := 6) (x := .inr (none, (c, y))) (kx_EH_X _) ko_K_throwFailure kc_10 rfl rfl kr_0 kw_1142 (Nat.le_of_ble_eq_true rfl) dk_K_toss_19 ⟨by show 6 + 1 ≤ d + 9; omega, by show 8 + (2 + 11) + 64 * 6 ≤ 64 * (d + 9); omega, Nat.le_refl 1, Nat.le_refl 6⟩ (cz_K_throwFailure 0 _ (kv_sh g1) c y _ (fun _ => rfl) (fun h => absurd hq h)) (fun o2 ho2 => ?_) (fun E0 wx hx => by cases hx)
    cases ho2
    show kz_B kM_K_toss (kx_rm (d + 9)) 1 6 (kx_EH [(12, 22, 25, 394)]) (kx_QD o) 22 [(2, .int v), (0, .ref 0), (1, .int p1)] [] (c, y)
    refine kz_goto (pc := 22) (tgt := 31) dk_K_toss_22 rfl ?_
    refine kz_bipush (pc := 31) (v := (-15 : Int32)) dk_K_toss_31 (by decide) ?_
    exact kx_iretD (pc := 33) (k1 hq) (by omega) (by omega) rfl dk_K_toss_33
  · refine kz_callVX (pc := 19) (as := [.ref (kv_tg 51 p1.toNatClampNeg)]) (st := []) (d := 6) (x := .inl ("java/lang/IllegalStateException", (kv_st c 0 8 (fz_tf c (kv_tg 51 p1.toNatClampNeg)), y))) (kx_EH_X _) ko_K_throwFailure kc_10 rfl rfl kr_0 kw_1142 (Nat.le_of_ble_eq_true rfl) dk_K_toss_19 ⟨by show 6 + 1 ≤ d + 9; omega, by show 8 + (2 + 11) + 64 * 6 ≤ 64 * (d + 9); omega, Nat.le_refl 1, Nat.le_refl 6⟩ (cz_K_throwFailure 0 _ (kv_sh g1) c y _ (fun h => absurd h hq) (fun _ => rfl)) (fun o2 ho2 => by cases ho2) (fun E0 wx hx => ?_)
    cases hx
    refine kz_catch (hp := 25) (name := "java/lang/IllegalStateException") [] ⟨12, 22, 25, 394⟩ [] (fun l p e s m args below meth c D cy ad A hE => hE.2.1) (fun z hz => by cases hz) rfl (by decide) kw_1141 (fun l p e s m args below meth c D cy ad A hE => by obtain ⟨-, -, s1, s2, s3, hW0, -⟩ := hE; exact hW0.1.2.1) rfl ?_
    intro l p e s m args below meth c2 D cy ad A H locs ls q hC hE hP hS hl
    refine lv_astore_n (nL := 4) (i := 3) hC.1 hC.2.1 dk_K_toss_25 rfl hl (by decide) rfl (fun ls2 hl2 => ?_)
    refine (?_ : kz_B kM_K_toss (kx_rm (d + 9)) 1 6 (kx_EH [(12, 22, 25, 394)]) (kx_QD o) 26 [(2, .int v), (0, .ref 0), (1, .int p1)] [] (kv_st c 0 8 (fz_tf c (kv_tg 51 p1.toNatClampNeg)), y)) l p e s m args below meth c2 D cy ad A H locs ls2 hC hE hP hS (lv_sub hl2 [1, 2, 3] rfl)
    refine kz_aload_n (pc := 26) 1 rfl rfl dk_K_toss_26 ?_
    refine kz_getC (pc := 27) kf_K_424 kr_0 (by decide) rfl dk_K_toss_27 ?_
    have ev : kv_st c 0 8 (fz_tf c (kv_tg 51 p1.toNatClampNeg)) 0 8 = fz_tf c (kv_tg 51 p1.toNatClampNeg) := by rw [kp_st, if_pos ⟨rfl, rfl⟩]
    rw [ev]
    exact kx_iretD (pc := 30) (k2 hq) (Nat.le_refl 1) (Nat.le_refl 6) rfl dk_K_toss_30
theorem cz_L_element (d : Nat) (p1 p2 : Int32) (c m : Nat → Nat → Int32) (f u : Nat → Int64) (x : (String × kv_W) ⊕ (Option Value × kv_W)) (hx : kx_C kM_K_element 6 [.ref 0, .int p1, .int p2] (c, m, f, u) x) (o : Option Value × kv_W) (ho : (x = .inl ("java/lang/IllegalArgumentException", (c, m, f, u)) ∧ o = (some (.int 1), (c, m, f, u))) ∨ (x = .inl ("java/lang/IllegalStateException", (c, m, f, u)) ∧ o = (some (.int 2), (c, m, f, u))) ∨ ∃ v, x = .inr (some (.long v), (c, m, f, u)) ∧ o = (some (.int 0), (c, m, f, vp_updL u 0 v))) : kx_D kM_L_element [(0, 9, 12, 13), (0, 9, 16, 15)] (d + 9) [.ref 0, .int p1, .int p2, .ref 96] (c, m, f, u) o := by
  refine kx_entryD rfl (Nat.le_of_ble_eq_true rfl) ?_
  show kz_B kM_L_element (kx_rm (d + 9)) 0 0 (kx_EH [(0, 9, 12, 13), (0, 9, 16, 15)]) (kx_QD o) 0 [(0, .ref 0), (1, .int p1), (2, .int p2), (3, .ref 96)] [] (c, m, f, u)
  refine kz_aload_n (pc := 0) 3 rfl rfl dk_L_element_0 ?_
  refine kz_iconst (pc := 1) (v := (0 : Int32)) dk_L_element_1 kki_0 ?_
  refine kz_aload_n (pc := 2) 0 rfl rfl dk_L_element_2 ?_
  refine kz_iload_n (pc := 3) 1 rfl rfl dk_L_element_3 ?_
  refine kz_iload_n (pc := 4) 2 rfl rfl dk_L_element_4 ?_
  refine kz_callVX (pc := 5) (as := [.int p1, .int p2]) (st := [.int (0 : Int32), .ref 96]) (d := 6) (x := x) (kx_EH_X _) ko_K_element kc_10 rfl rfl kr_0 kw_1217 (Nat.le_of_ble_eq_true rfl) dk_L_element_5 ⟨by show 6 + 1 ≤ d + 9; omega, by show 8 + (4 + 11) + 64 * 6 ≤ 64 * (d + 9); omega, Nat.le_refl 1, Nat.le_refl 6⟩ hx (fun o2 ho2 => ?_) (fun E0 wx hx2 => ?_)
  · rcases ho with ⟨hq, -⟩ | ⟨hq, -⟩ | ⟨v, hq, rfl⟩
    · rw [hq] at ho2; cases ho2
    · rw [hq] at ho2; cases ho2
    · rw [hq] at ho2
      cases ho2
      show kz_B kM_L_element (kx_rm (d + 9)) 1 6 (kx_EH [(0, 9, 12, 13), (0, 9, 16, 15)]) _ 8 [(0, .ref 0), (1, .int p1), (2, .int p2), (3, .ref 96)] [.long v, .int (0 : Int32), .ref 96] (c, m, f, u)
      refine kz_stU (pc := 8) dk_L_element_8 ?_
      refine kz_goto (pc := 9) (tgt := 20) dk_L_element_9 rfl ?_
      refine kz_iconst (pc := 20) (v := (0 : Int32)) dk_L_element_20 kki_0 ?_
      exact kx_iretD (pc := 21) rfl (Nat.le_refl 1) (Nat.le_refl 6) rfl dk_L_element_21
  · have away : ∀ (l : Launch) (p : Program) (e : Env) (s : State) (m2 : MethodId) (args : Array Value) (below : List Frame) (meth : Method) (c2 : Code) (D : va_G) (cy : Nat → ClassId) (ad : Nat → Nat) (A : Nat → Prop) (H : Heap) (locs : List Loc) (ls : Array Slot) (q : Addr) (hp : Nat), decode kM_L_element.2.1 hp = .ok (.astore 4, 2) → kz_B kM_L_element (kx_rm (d + 9)) 1 6 (kx_EH [(0, 9, 12, 13), (0, 9, 16, 15)]) (kx_QD o) (hp + 2) [(0, .ref 0), (1, .int p1), (2, .int p2), (3, .ref 96)] [] (c, m, f, u) → kz_Cx kM_L_element p s m2 args meth c2 D cy ad A → kx_EH [(0, 9, 12, 13), (0, 9, 16, 15)] l p e s m2 args below meth c2 D cy ad A → va_P D kv_cl (kv_wl cy ad (c, m, f, u)) H → va_S A s.heap H locs → lv_has ls 5 ([(0, Value.ref 0), (1, .int p1), (2, .int p2), (3, .ref 96)].map (fun q => (q.1, kv_cv ad q.2))) → W p l e (kx_rm (d + 9)) s m2 args below meth c2 H locs 1 6 (kx_QD o l p e s m2 args below meth c2 D cy ad A) (F0 m2 hp ls [.ref q]) := by
      intro l p e s m2 args below meth c2 D cy ad A H locs ls q hp hd kk hC hE hP hS hl
      refine lv_astore (nL := 5) (i := 4) hC.1 hC.2.1 hd hl (by decide) rfl (fun ls2 hl2 => ?_)
      exact kk l p e s m2 args below meth c2 D cy ad A H locs ls2 hC hE hP hS (lv_sub hl2 [1, 2, 3, 4] rfl)
    rcases ho with ⟨hq, hoo⟩ | ⟨hq, hoo⟩ | ⟨v, hq, -⟩
    · rw [hq] at hx2
      cases hx2
      refine kz_catch (hp := 12) (name := "java/lang/IllegalArgumentException") [] ⟨0, 9, 12, 13⟩ [⟨0, 9, 16, 15⟩] (fun l p e s m args below meth c D cy ad A hE => hE.2.1) (fun z hz => by cases hz) rfl (by decide) kw_1215 (fun l p e s m args below meth c D cy ad A hE => by obtain ⟨-, -, s1, s2, s3, hW0, -⟩ := hE; exact hW0.1.1) rfl ?_
      intro l p e s m2 args below meth c2 D cy ad A H locs ls q hC hE hP hS hl
      refine away l p e s m2 args below meth c2 D cy ad A H locs ls q 12 dk_L_element_12 ?_ hC hE hP hS hl
      refine kz_iconst (pc := 14) (v := (1 : Int32)) dk_L_element_14 kki_1 ?_
      exact kx_iretD (pc := 15) hoo (Nat.le_refl 1) (Nat.le_refl 6) rfl dk_L_element_15
    · rw [hq] at hx2
      cases hx2
      refine kz_catch (hp := 16) (name := "java/lang/IllegalStateException") [⟨0, 9, 12, 13⟩] ⟨0, 9, 16, 15⟩ [] (fun l p e s m args below meth c D cy ad A hE => hE.2.1) (fun z hz => ?_) rfl (by decide) kw_1216 (fun l p e s m args below meth c D cy ad A hE => by obtain ⟨-, -, s1, s2, s3, hW0, -⟩ := hE; exact hW0.1.2.1) rfl ?_
      · rcases List.mem_singleton.mp hz with rfl
        exact Or.inr ⟨by decide, "java/lang/IllegalArgumentException", kw_1215, fun l p e s m args below meth c D cy ad A hE => by obtain ⟨-, -, s1, s2, s3, hW0, -⟩ := hE; exact hW0.2.1⟩
      intro l p e s m2 args below meth c2 D cy ad A H locs ls q hC hE hP hS hl
      refine away l p e s m2 args below meth c2 D cy ad A H locs ls q 16 dk_L_element_16 ?_ hC hE hP hS hl
      refine kz_iconst (pc := 18) (v := (2 : Int32)) dk_L_element_18 (by decide) ?_
      exact kx_iretD (pc := 19) hoo (Nat.le_refl 1) (Nat.le_refl 6) rfl dk_L_element_19
    · rw [hq] at hx2; cases hx2
end XM
