/-! ===== weigh ===== -/
section W2
variable {k : Nat} {c m : Nat → Nat → Int32}
theorem w2_draw (z : Int32) {d : Nat} (hd : d ≤ 99) : ((2 : Int32) * nI d) + (1 : Int32) ≠ 0 ∧ -99 ≤ ((((z &&& (2147483647 : Int32)) / (65536 : Int32)) - ((z &&& (2147483647 : Int32)) / (65536 : Int32)) / (((2 : Int32) * nI d) + (1 : Int32)) * (((2 : Int32) * nI d) + (1 : Int32))) - nI d).toInt ∧ ((((z &&& (2147483647 : Int32)) / (65536 : Int32)) - ((z &&& (2147483647 : Int32)) / (65536 : Int32)) / (((2 : Int32) * nI d) + (1 : Int32)) * (((2 : Int32) * nI d) + (1 : Int32))) - nI d).toInt ≤ 99 := by
  have e1 : ((2 : Int32) * nI d) + (1 : Int32) = nI (2 * d + 1) := by
    have : (2 : Int32) * nI d = nI (2 * d) := pk_mul 2 d
    rw [this, nI_1]
  obtain ⟨j, j1, j2⟩ := pk_andE z (m := 2147483647) 31 (by decide)
  have e2 : nI j / (65536 : Int32) = nI (j / 65536) := pk_div (d := 65536) j1 (by omega) (by omega)
  have e3 : nI (j / 65536) - nI (j / 65536) / nI (2 * d + 1) * nI (2 * d + 1) = nI (j / 65536 % (2 * d + 1)) := pk_rem (by omega) (by omega) (by omega)
  have hm : j / 65536 % (2 * d + 1) < 2 * d + 1 := Nat.mod_lt _ (by omega)
  rw [e1, j2, e2, e3]
  refine ⟨nI_ne0 (by omega) (by omega), ?_⟩
  rw [pk_sub_toInt (by omega) (by omega)]
  omega
theorem w2_go (h : Inv k c m) (hk : k < 600) {L T U : Nat} (hcL : c 2 7 = nI L) (hcT : c 10 7 = nI T) (hcU : c 10 8 = nI U) (hL : L ≤ 10) (hT : T < 20) (hUT : U ≤ T) {a b : Nat} (ha : a < L) (hb : b < L) (hab : a ≠ b) {w : Int32} (hw : -9 ≤ w.toInt ∧ w.toInt ≤ 9) {d : Nat} (hd : d ≤ 99) {v6 : Int32} (x : Option Nat) (hx : ∀ l, x = some l → l < L ∧ v6 = nI l) (hx0 : x = none → v6.toInt < 0) (v4 : Int32) (hv4 : ∀ l, x = some l → v4 = nI l) : ∃ r c2 m2, fj_K_weigh_116 (nI a) (nI b) (nI d) c w (if x = none then 0 else 1) v4 = some (r, c2) ∧ fj_D_weigh_111 m (nI d) (nI a) (nI b) w v6 = some (r, m2) ∧ Inv (k + 1) c2 m2 := by
  obtain ⟨hne, hd1, hd2⟩ := w2_draw ((c 1 6) * (1103515245 : Int32) + (12345 : Int32)) hd
  have h4 : m 85 4 = c 1 6 := by obtain ⟨L, T, U, hN, hG, -⟩ := h.1; exact hG.2.2.2.1
  have h1 := wg_z h ((c 1 6) * (1103515245 : Int32) + (12345 : Int32))
  generalize hz : (c 1 6) * (1103515245 : Int32) + (12345 : Int32) = z at *
  have hK : fx_State_draw (nI d) c = some ((((z &&& (2147483647 : Int32)) / (65536 : Int32)) - ((z &&& (2147483647 : Int32)) / (65536 : Int32)) / (((2 : Int32) * nI d) + (1 : Int32)) * (((2 : Int32) * nI d) + (1 : Int32))) - nI d, kv_st c 1 6 z) := by
    unfold fx_State_draw
    have e : kv_st c 1 6 z 1 6 = z := by rw [kp_st, if_pos ⟨rfl, rfl⟩]
    rw [hz, kp_let, if_neg hne, e]
  generalize hv : ((((z &&& (2147483647 : Int32)) / (65536 : Int32)) - ((z &&& (2147483647 : Int32)) / (65536 : Int32)) / (((2 : Int32) * nI d) + (1 : Int32)) * (((2 : Int32) * nI d) + (1 : Int32))) - nI d) = v at *
  have c1e : ∀ q, q ≠ 1 → kv_st c 1 6 z q = c q := fun q hq => kp_st_ne hq
  have n15 : kv_st c 1 6 z 1 5 = c 1 5 := by rw [kp_st, if_neg (by omega)]
  obtain ⟨L0, T0, U0, hN, hG, hLs, -⟩ := h1.1
  have eL : L0 = L := (nI_eq (by have := hN.1; omega) (by omega)).mp (hN.2.2.2.1.symm.trans ((congrFun (c1e 2 (by omega)) 7).trans hcL))
  subst eL
  have m0 : kv_st m 85 4 z 85 0 = c 1 5 := hG.2.2.1.trans n15
  have gy1 : 0 ≤ (c 1 5).toInt := by rw [← n15]; exact hG.1
  have gy2 : (c 1 5).toInt ≤ 140 := by rw [← n15]; exact hG.2.1
  have w8 : ∀ l, l < L0 → kv_st m 85 4 z 85 (13 + 6 * l) = c 6 l ∧ -80000 ≤ (c 6 l).toInt ∧ (c 6 l).toInt ≤ 80000 ∧ -(9999 + 100 * (k : Int) + 60 * (c 1 5).toInt) ≤ (c 6 l).toInt ∧ (c 6 l).toInt ≤ 9999 + 100 * (k : Int) + 60 * (c 1 5).toInt := by
    intro l hl
    obtain ⟨-, -, -, r3, -, -, -, -, -, r9, -⟩ := hLs l hl
    have e6 : i_v (kv_st c 1 6 z) 1 5 l = c 6 l := congrFun (c1e 6 (by omega)) l
    have e0 : (i_v (kv_st c 1 6 z) 1 0 5) = c 1 5 := n15
    rw [e6] at r3 r9
    rw [e0] at r9
    exact ⟨r3, by omega, by omega, r9⟩
  obtain ⟨a1, a2, a3, a4, a5⟩ := w8 a ha
  obtain ⟨b1, b2, b3, b4, b5⟩ := w8 b hb
  have s1 : (c 6 a - c 6 b).toInt = (c 6 a).toInt - (c 6 b).toInt := by rw [kp_sub] <;> omega
  have s2 : (c 6 a - c 6 b + w).toInt = (c 6 a).toInt - (c 6 b).toInt + w.toInt := by rw [kp_add] <;> rw [s1] <;> omega
  have s3 : (c 6 a - c 6 b + w + v).toInt = (c 6 a).toInt - (c 6 b).toInt + w.toInt + v.toInt := by rw [kp_add] <;> rw [s2] <;> omega
  obtain ⟨c2, m2, t1, t2, t3, t4, t5, t6, t7, t8, t9⟩ := wg_tell h1 (L := L0) (T := T) (y := c 1 5) (an := c 6 a - c 6 b + w + v) (db := nI d) (by rw [c1e 2 (by omega)]; exact hcL) (by rw [c1e 10 (by omega)]; exact hcT) hL hT ⟨gy1, gy2⟩ ha hb hab (by rw [s3]; exact ⟨by omega, by omega⟩) (by rw [nI_toInt (by omega)]; exact ⟨by omega, by omega⟩)
  have ga : fx_D_get (nI a) 3 (kv_st m 85 4 z) = some (c 6 a) := by
    show fx_D_get (nI a) (nI 3) _ = _
    rw [sx_get (by omega) (by omega), show 10 + 6 * a + 3 = 13 + 6 * a by omega, a1]
  have gb : fx_D_get (nI b) 3 (kv_st m 85 4 z) = some (c 6 b) := by
    show fx_D_get (nI b) (nI 3) _ = _
    rw [sx_get (by omega) (by omega), show 10 + 6 * b + 3 = 13 + 6 * b by omega, b1]
  have mz : kv_st m 85 4 z 85 4 = z := by rw [kp_st, if_pos ⟨rfl, rfl⟩]
  unfold fj_K_weigh_116 fj_D_weigh_111
  rw [kp_gd _ (kp_in_nI (show a < 10 by omega) (by omega)), kp_gd _ (kp_in_nI (show b < 10 by omega) (by omega)), nI_clamp (show a < 2 ^ 31 by omega), nI_clamp (show b < 2 ^ 31 by omega), hK, kp_b2, kp_let, n15, t1, kp_b2, h4, hz, kp_let, if_neg hne, mz, hv, kp_let, ga, kp_b1, gb, kp_b1, m0, t2, kp_b1]
  cases x with
  | none =>
    rw [if_pos (if_pos rfl), if_pos (by rw [kp_lt, ki_0]; exact hx0 rfl)]
    unfold fj_D_weigh_241
    rw [t9, nI_pred]
    exact ⟨nI T, c2, m2, rfl, rfl, fr_same t3⟩
  | some l =>
    obtain ⟨hl, hv6⟩ := hx l rfl
    have e12 : c2 1 5 = c 1 5 := by rw [t4 1 (by omega)]; exact n15
    have eU : c2 10 8 = nI U := by rw [t5 8 (by omega), c1e 10 (by omega)]; exact hcU
    obtain ⟨g1, g2, g3, g4⟩ := wg_touch t3 (L := L0) (T := T + 1) (U := U) (l := l) (by rw [t4 2 (by omega), c1e 2 (by omega)]; exact hcL) t6 eU hL (by omega) (by omega) hl
    have b20 : ¬ (20 : Int32) ≤ nI U := nI_ge (b := 20) (by omega) (by omega)
    have tk : fx_Weighings_touch (c2 1 5) c2 = some (kv_st (kv_st c2 17 U (c2 1 5)) 10 8 (nI (U + 1))) := by
      unfold fx_Weighings_touch
      have e : kv_st c2 17 U (c2 1 5) 10 8 = nI U := by rw [kp_st_ne (by omega)]; exact eU
      rw [eU, if_neg b20, kp_gd _ (kp_in_nI (by omega) (by omega)), nI_clamp (by omega), kp_let, e, nI_1, kp_let]
    have e6 : kv_st (kv_st c2 17 U (c2 1 5)) 10 8 (nI (U + 1)) 6 l = c2 6 l := by rw [kp_st_ne (by omega), kp_st_ne (by omega)]
    have ix : (10 : Int32) + ((6 : Int32) * nI l) + (3 : Int32) = nI (13 + 6 * l) := by
      have : (10 : Int32) + ((6 : Int32) * nI l) + (3 : Int32) = nI (10 + 6 * l + 3) := kp_ix3 10 6 l 3
      rw [this]; congr 1; omega
    have f3 : kv_st m2 85 (13 + 6 * l) (c2 6 l - 1) 85 3 = nI U := by rw [kp_st, if_neg (by omega)]; exact g2
    have f0 : kv_st m2 85 (13 + 6 * l) (c2 6 l - 1) 85 0 = c2 1 5 := by rw [kp_st, if_neg (by omega)]; exact g3
    have f33 : kv_st (kv_st m2 85 (13 + 6 * l) (c2 6 l - 1)) 85 (200 + U) (c2 1 5) 85 3 = nI U := by rw [kp_st, if_neg (by omega)]; exact f3
    have eix : (200 : Int32) + nI U = nI (200 + U) := nI_add 200 U
    rw [if_neg (show ¬ (some l = none) from fun e => by cases e), if_neg (show ¬ (1 : Int32) = 0 by decide), tk, kp_b1, hv4 l rfl, kp_gd _ (kp_in_nI (show l < 10 by omega) (by omega)), nI_clamp (show l < 2 ^ 31 by omega), e6, kp_let, hv6, if_neg (nI_pos (by omega)), ix, kp_gd _ (kp_in_nI (show 13 + 6 * l < 444 by omega) (by omega)), nI_clamp (show 13 + 6 * l < 2 ^ 31 by omega), g4, kp_let, f3, eix, kp_gd _ (kp_in_nI (show 200 + U < 444 by omega) (by omega)), nI_clamp (show 200 + U < 2 ^ 31 by omega), f0, kp_let, f33, nI_1, kp_let]
    unfold fj_D_weigh_241
    refine ⟨nI T, _, _, rfl, ?_, g1⟩
    have e2 : kv_st (kv_st (kv_st m2 85 (13 + 6 * l) (c2 6 l - 1)) 85 (200 + U) (c2 1 5)) 85 3 (nI (U + 1)) 85 2 = nI (T + 1) := by
      rw [kp_st, if_neg (by omega), kp_st, if_neg (by omega), kp_st, if_neg (by omega)]
      exact t9
    rw [e2, nI_pred]
theorem op_weigh (h : Inv k c m) (hk : k < 600) (p q w u : Int32) : ∃ r c2 m2, fx_K_weigh p q w u c = some (r, c2) ∧ fx_D_weigh p q w u m = some (r, m2) ∧ Inv (k + 1) c2 m2 := by
  have no : ∃ r c2 m2, some ((-1 : Int32), c) = some (r, c2) ∧ some ((-1 : Int32), m) = some (r, m2) ∧ Inv (k + 1) c2 m2 := ⟨_, _, _, rfl, rfl, fr_same h⟩
  obtain ⟨L, T, U, hN, hG, hLs, hP, hA, hW, hT, hX, hC⟩ := h.1
  have hL := hN.1
  have T20 := hN.2.1
  have UT := hN.2.2.1
  have hcT : c 10 7 = nI T := hN.2.2.2.2.2.1
  have hmT : m 85 2 = nI T := hN.2.2.2.2.2.2.1
  have hcU : c 10 8 = nI U := hN.2.2.2.2.2.2.2.1
  have hmU : m 85 3 = nI U := hN.2.2.2.2.2.2.2.2
  unfold fx_K_weigh fx_D_weigh fx_Lumps_hasPair
  rcases h_lump hN.2.2.2.1 hN.2.2.2.2.1 hL p with ⟨a, ha, rfl, e1, e2⟩ | ⟨-, e1, e2⟩
  rotate_left
  · rw [e1, e2]; exact no
  rw [e1, e2, kp_b1, kp_b1, if_pos rfl, if_pos rfl]
  rcases h_lump hN.2.2.2.1 hN.2.2.2.2.1 hL q with ⟨b, hb, rfl, e1, e2⟩ | ⟨-, e1, e2⟩
  rotate_left
  · rw [e1, e2]; exact no
  rw [e1, e2, kp_b1, kp_b1, if_pos rfl, if_pos rfl]
  by_cases hab : a = b
  · have e3 : nI a = nI b := by rw [hab]
    rw [if_pos e3, if_pos e3]
    exact no
  have nab : ¬ nI a = nI b := fun e => hab ((nI_eq (by omega) (by omega)).mp e)
  rw [if_neg nab, if_neg nab, kp_b1, if_pos rfl, sx_isWithin, sx_isInL w (-9) 9 (by decide) (by decide), ki_m9, ki_9, kp_b1, kp_b1]
  by_cases zw : -9 ≤ w.toInt ∧ w.toInt ≤ 9
  rotate_left
  · rw [decide_eq_false zw]; exact no
  rw [decide_eq_true zw, if_pos rfl, if_pos rfl, h_isDoubt, sx_isInL u 0 99 (by decide) (by decide), kp_b1, kp_b1]
  by_cases zu : 0 ≤ u.toInt ∧ u.toInt ≤ 99
  rotate_left
  · rw [decide_eq_false zu]; exact no
  obtain ⟨d, rfl, hd, -⟩ := kp_nat zu.1
  rw [decide_eq_true zu, if_pos rfl, if_pos rfl, hcT, hmT]
  by_cases zT : T = 20
  · subst zT
    rw [if_neg (by decide), if_pos (show nI 20 = 20 from rfl)]
    exact ⟨-2, c, m, rfl, rfl, fr_same h⟩
  have b20 : nI T < (20 : Int32) := nI_lt (b := 20) (by omega) (by omega)
  have n20 : ¬ nI T = (20 : Int32) := fun e => zT ((nI_eq (b := 20) (by omega) (by omega)).mp e)
  rw [if_pos b20, if_neg n20]
  have r0 : ∀ l, l < L → m 85 (10 + 6 * l) = c 3 l := fun l hl => (hLs l hl).1
  have ga : fx_D_get (nI a) 0 m = some (c 3 a) := by
    show fx_D_get (nI a) (nI 0) _ = _
    rw [sx_get (by omega) (by omega), show 10 + 6 * a + 0 = 10 + 6 * a by omega, r0 a ha]
  have gb : fx_D_get (nI b) 0 m = some (c 3 b) := by
    show fx_D_get (nI b) (nI 0) _ = _
    rw [sx_get (by omega) (by omega), show 10 + 6 * b + 0 = 10 + 6 * b by omega, r0 b hb]
  obtain ⟨tl, tl1, tl2⟩ := h_touch hcU hmU (by omega) hG.2.2.1 hT
  have plain : ∀ v4 : Int32, ∃ r c2 m2, fj_K_weigh_90 (nI a) (nI b) (nI d) c w v4 = some (r, c2) ∧ fj_D_weigh_94 m (nI d) (nI a) (nI b) w (-4) = some (r, m2) ∧ Inv (k + 1) c2 m2 := by
    intro v4
    unfold fj_K_weigh_90 fj_K_weigh_91 fj_D_weigh_94
    rw [if_pos rfl, if_pos (by decide)]
    exact w2_go h hk hN.2.2.2.1 hcT hcU hL (by omega) UT ha hb hab zw (by omega) (v6 := -4) none (fun l e => by cases e) (fun _ => by decide) v4 (fun l e => by cases e)
  have touched : ∀ l, l < L → ∃ r c2 m2, fj_K_weigh_86 (nI a) (nI b) (nI d) c w (nI l) = some (r, c2) ∧ fj_D_weigh_94 m (nI d) (nI a) (nI b) w (nI l) = some (r, m2) ∧ Inv (k + 1) c2 m2 := by
    intro l hl
    unfold fj_K_weigh_86 fj_K_weigh_91 fj_D_weigh_94
    rw [if_neg (by decide), tl1, kp_b1, if_neg (nI_pos (by omega)), tl2, kp_b1]
    by_cases z : 0 < tl
    · rw [if_pos z, if_pos z]
      exact w2_go h hk hN.2.2.2.1 hcT hcU hL (by omega) UT ha hb hab zw (by omega) (v6 := nI l) (some l) (fun l2 e => by cases e; exact ⟨hl, rfl⟩) (fun e => by cases e) (nI l) (fun l2 e => by cases e; rfl)
    · rw [if_neg z, if_neg z]
      exact ⟨-3, c, m, rfl, rfl, fr_same h⟩
  rcases h_prime hN.2.2.2.1 hN.2.2.2.2.1 hL r0 with ⟨l, hl, hl1, e1, e2⟩ | ⟨hno, e1, e2⟩
  · rw [e1, kp_b1, if_neg (nI_pos (by omega)), ga, kp_b1, gb]
    have ea : nI a = nI l ↔ c 3 a = 1 := by
      rw [nI_eq (by omega) (by omega)]
      exact ⟨fun e => by rw [e]; exact hl1, fun e => hP a l ha hl e hl1⟩
    have eb : nI b = nI l ↔ c 3 b = 1 := by
      rw [nI_eq (by omega) (by omega)]
      exact ⟨fun e => by rw [e]; exact hl1, fun e => hP b l hb hl e hl1⟩
    by_cases z1 : c 3 a = 1
    · rw [if_pos (ea.mpr z1), if_pos z1, ea.mpr z1]
      rw [← ea.mpr z1]
      exact touched a ha
    · rw [if_neg (fun e => z1 (ea.mp e)), if_neg z1, kp_b1]
      by_cases z2 : c 3 b = 1
      · rw [if_pos (eb.mpr z2), if_pos z2]
        have := eb.mpr z2
        rw [← this]
        exact touched b hb
      · rw [if_neg (fun e => z2 (eb.mp e)), if_neg z2]
        exact plain _
  · rw [e1, kp_b1, if_pos (by decide), ga, kp_b1, if_neg (hno a ha), gb, kp_b1, if_neg (hno b hb)]
    exact plain _
end W2
