/-! ===== out, wash, link ===== -/
section OT
variable {k : Nat} {c m : Nat → Nat → Int32}
theorem op_out (h : Inv k c m) (p q : Int32) (hq : q = 0 ∨ q = 1) : ∃ r c2 m2, fx_K_out p q c = some (r, c2) ∧ fx_D_out p q m = some (r, m2) ∧ Inv (k + 1) c2 m2 := by
  obtain ⟨L, T, U, hN, hG, hL, hP, hA, hW, hT, hX, hC⟩ := h.1
  have L10 := hN.1
  have T20 := hN.2.1
  have UT := hN.2.2.1
  unfold fx_K_out fx_D_out
  rcases h_weighing hN.2.2.2.2.2.1 hN.2.2.2.2.2.2.1 hN.2.1 p with ⟨w, hw, rfl, e1, e2⟩ | ⟨-, e1, e2⟩
  · have hw20 : w < 20 := by omega
    have e3 : ((80 : Int32) + ((6 : Int32) * nI w)) + (5 : Int32) = nI (80 + 6 * w + 5) := kp_ix3 80 6 w 5
    have e4 : vp_nar .boolean q = q := by rcases hq with rfl | rfl <;> decide
    have e5 : m 85 (80 + 6 * w + 5) = c 16 w := by
      rw [show 80 + 6 * w + 5 = 85 + 6 * w by omega]
      exact (hW w hw).2.2.2.2.2.1
    have e6 : (if q = 0 then fj_D_out_29 (nI w) m q 0 else fj_D_out_29 (nI w) m q 1) = some ((if c 16 w = q then 0 else 1), kv_st m 85 (80 + 6 * w + 5) q) := by
      unfold fj_D_out_29 fj_D_out_43
      rcases hq with rfl | rfl
      · rw [if_pos rfl, e3, sx_becomes (by omega), kp_b2, if_pos rfl, e5]
        split <;> rfl
      · rw [if_neg (by decide), e3, sx_becomes (by omega), kp_b2, if_neg (by decide), e5]
        split <;> rfl
    rw [e1, e2, kp_b1, kp_b1, if_pos rfl, if_pos rfl, e6, kp_gd _ (kp_in_nI hw20 (by omega)), nI_clamp (by omega), e4, kp_let, kp_let]
    refine ⟨if c 16 w = q then 0 else 1, kv_st c 16 w q, _, by split <;> rfl, rfl, ?_⟩
    have ev : ∀ i, i ≠ 15 → i_v (kv_st c 16 w q) 1 i = i_v c 1 i := fun i h1 => kp_st_ne (by omega)
    have es : ∀ n, n ≠ 85 + 6 * w → kv_st m 85 (80 + 6 * w + 5) q 85 n = m 85 n := fun n hn => by rw [kp_st, if_neg (by omega)]
    have hW2 : ∀ w2, w2 < T → iW1 (i_v (kv_st c 16 w q) 1) (kv_st m 85 (80 + 6 * w + 5) q 85) (9999 + 100 * ((k + 1 : Nat) : Int)) L w2 := by
      intro w2 hw2
      by_cases z : w2 = w
      · subst z
        obtain ⟨r0, r1, r2, r3, r4, r5, r6, r7, r8, r9, r10⟩ := hW w2 hw2
        have o1 : kv_st m 85 (80 + 6 * w2 + 5) q 85 (85 + 6 * w2) = q := by rw [kp_st, if_pos ⟨rfl, by omega⟩]
        have o2 : i_v (kv_st c 16 w2 q) 1 15 w2 = q := by show kv_st c 16 w2 q 16 w2 = q; rw [kp_st, if_pos ⟨rfl, rfl⟩]
        refine ⟨by rw [es _ (by omega), ev 10 (by omega)]; exact r0, by rw [es _ (by omega), ev 11 (by omega)]; exact r1, by rw [es _ (by omega), ev 12 (by omega)]; exact r2, by rw [es _ (by omega), ev 13 (by omega)]; exact r3, by rw [es _ (by omega), ev 14 (by omega)]; exact r4, by rw [o1, o2], by rw [ev 10 (by omega)]; exact r6, by rw [ev 11 (by omega), ev 12 (by omega)]; exact r7, by rw [ev 13 (by omega)]; exact ⟨by omega, by omega⟩, by rw [ev 14 (by omega)]; exact r9, by rw [o2]; exact hq⟩
      · refine fr_W1 (hW w2 hw2) (by omega) (Nat.le_refl L) (by rw [ev 10 (by omega)]) (by rw [ev 11 (by omega)]) (by rw [ev 12 (by omega)]) (by rw [ev 13 (by omega)]) (by rw [ev 14 (by omega)]) ?_ (fun j _ _ => es j (by omega))
        show kv_st c 16 w q 16 w2 = c 16 w2
        rw [kp_st, if_neg (by omega)]
    exact fr_stateB h ⟨L, T, U, fr_N hN (by rw [ev 1 (by omega)]) (by rw [ev 9 (by omega)]) (by rw [ev 9 (by omega)]) (es _ (by omega)) (es _ (by omega)) (es _ (by omega)), fr_G hG (ev 0 (by omega)) (fun j hj => es j (by omega)), fun l2 hl2 => fr_L1 (hL l2 hl2) (by omega) (by rw [ev 0 (by omega)]) (by rw [ev 2 (by omega)]) (by rw [ev 3 (by omega)]) (by rw [ev 4 (by omega)]) (by rw [ev 5 (by omega)]) (by rw [ev 6 (by omega)]) (by rw [ev 7 (by omega)]) (fun j _ _ => es j (by omega)), fr_P hP (fun l2 _ => by rw [ev 2 (by omega)]), fr_A hA (ev 8 (by omega)) (ev 24 (by omega)) (fun j _ _ => es j (by omega)), hW2, fun q2 hq2 => by rw [es _ (by omega), ev 16 (by omega)]; exact hT q2 hq2, fr_X hX (ev 17 (by omega)) (ev 18 (by omega)) (es _ (by omega)) (es _ (by omega)) (fun j _ _ => es j (by omega)), fun q2 hh2 => fr_C1 hh2 (hC q2 hh2) (ev 20 (by omega)) (ev 21 (by omega)) (ev 22 (by omega)) (ev 23 (by omega)) (fun j _ _ => es j (by omega))⟩ (kp_st_ne (by omega)) (fun r _ _ => kp_st_ne (by omega)) (fun r _ _ => kp_st_ne (by omega)) (kp_st_ne (by omega)) (fun w2 hw2 => ⟨by rw [kp_st]; split; exact hq; exact (h.2.2.2.2.2.2 w2 hw2).1, by rw [kp_st_ne (by omega)]; exact (h.2.2.2.2.2.2 w2 hw2).2⟩)
  · rw [e1, e2]
    exact ⟨-1, c, m, rfl, rfl, fr_same h⟩
theorem op_wash (h : Inv k c m) (hk : k < 600) (p q : Int32) : ∃ r c2 m2, fx_K_wash p q c = some (r, c2) ∧ fx_D_wash p q m = some (r, m2) ∧ Inv (k + 1) c2 m2 := by
  obtain ⟨L, T, U, hN, hG, hL, hP, hA, hW, hT, hX, hC⟩ := h.1
  have L10 := hN.1
  have T20 := hN.2.1
  have UT := hN.2.2.1
  unfold fx_K_wash fx_D_wash
  rcases h_lump hN.2.2.2.1 hN.2.2.2.2.1 hN.1 p with ⟨l, hl, rfl, e1, e2⟩ | ⟨-, e1, e2⟩
  · rw [e1, e2, kp_b1, kp_b1, if_pos rfl, if_pos rfl, sx_isWithin, sx_isInL q 0 3 (by decide) (by decide), ki_0, ki_3, kp_b1, kp_b1]
    by_cases z : 0 ≤ q.toInt ∧ q.toInt ≤ 3
    · obtain ⟨i, rfl, e3, -⟩ := kp_nat z.1
      have hi : i < 4 := by omega
      have hl10 : l < 10 := by omega
      obtain ⟨a1, a2, a3⟩ := hA.2 i hi
      obtain ⟨r0, r1, r2, r3, r4, r5, r6, r7, r8, r9, r10, r11⟩ := hL l hl
      have b1 : (10 : Int32) + ((6 : Int32) * nI l) = nI (10 + 6 * l) := kp_ix2 10 6 l
      have b2 : (76 : Int32) + nI i = nI (76 + i) := nI_add 76 i
      have b3 : nI (10 + 6 * l) + (3 : Int32) = nI (13 + 6 * l) := by
        have : nI (10 + 6 * l) + (3 : Int32) = nI (10 + 6 * l + 3) := nI_add _ 3
        rw [this]; congr 1; omega
      have b4 : nI (10 + 6 * l) + (4 : Int32) = nI (14 + 6 * l) := by
        have : nI (10 + 6 * l) + (4 : Int32) = nI (10 + 6 * l + 4) := nI_add _ 4
        rw [this]; congr 1; omega
      have b5 : nI (10 + 6 * l) + (5 : Int32) = nI (15 + 6 * l) := by
        have : nI (10 + 6 * l) + (5 : Int32) = nI (10 + 6 * l + 5) := nI_add _ 5
        rw [this]; congr 1; omega
      rw [decide_eq_true z, if_pos rfl, if_pos rfl]
      unfold fx_Lumps_washOff
      simp only [kp_let, b1, b2, b3, b4, b5, kp_gd _ (kp_in_nI hi (show 4 < 2 ^ 31 by omega)), kp_gd _ (kp_in_nI hl10 (show 10 < 2 ^ 31 by omega)), kp_gd _ (kp_in_nI (show 13 + 6 * l < 444 by omega) (by omega)), kp_gd _ (kp_in_nI (show 76 + i < 444 by omega) (by omega)), kp_gd _ (kp_in_nI (show 14 + 6 * l < 444 by omega) (by omega)), kp_gd _ (kp_in_nI (show 15 + 6 * l < 444 by omega) (by omega)), nI_clamp (show i < 2 ^ 31 by omega), nI_clamp (show l < 2 ^ 31 by omega), nI_clamp (show 13 + 6 * l < 2 ^ 31 by omega), nI_clamp (show 14 + 6 * l < 2 ^ 31 by omega), nI_clamp (show 15 + 6 * l < 2 ^ 31 by omega), nI_clamp (show 76 + i < 2 ^ 31 by omega), kp_b2]
      have a1 : m 85 (76 + i) = c 25 i := a1
      have a2 : 0 ≤ (c 25 i).toInt := a2
      have a3 : (c 25 i).toInt ≤ 99 := a3
      have r3 : m 85 (13 + 6 * l) = c 6 l := r3
      have r5 : m 85 (15 + 6 * l) = c 8 l := r5
      have g3 : m 85 0 = c 1 5 := hG.2.2.1
      have g1 : 0 ≤ (c 1 5).toInt := hG.1
      have g2 : (c 1 5).toInt ≤ 140 := hG.2.1
      have r9a : -(9999 + 100 * (k : Int) + 60 * (c 1 5).toInt) ≤ (c 6 l).toInt := r9.1
      have r9b : (c 6 l).toInt ≤ 9999 + 100 * (k : Int) + 60 * (c 1 5).toInt := r9.2
      have r10a : 0 ≤ (c 8 l).toInt := r10.1
      have r10b : (c 8 l).toInt ≤ 9999 + 100 * (k : Int) := r10.2
      generalize hc2 : kv_st (kv_st (kv_st c 6 l (c 6 l - c 25 i)) 7 l (c 1 5)) 8 l (kv_st (kv_st c 6 l (c 6 l - c 25 i)) 7 l (c 1 5) 8 l + 1) = c2
      generalize hm1 : kv_st m 85 (13 + 6 * l) (m 85 (13 + 6 * l) - m 85 (76 + i)) = m1
      generalize hm2 : kv_st m1 85 (14 + 6 * l) (m1 85 0 + 1) = m2
      generalize hm3 : kv_st m2 85 (15 + 6 * l) (m2 85 (15 + 6 * l) + 1) = m3
      have C : ∀ r j, c2 r j = if r = 8 ∧ j = l then c 8 l + 1 else if r = 7 ∧ j = l then c 1 5 else if r = 6 ∧ j = l then c 6 l - c 25 i else c r j := by
        intro r j
        rw [← hc2]
        simp only [kp_st]
        simp
      have M : ∀ r j, m3 r j = if r = 85 ∧ j = 15 + 6 * l then c 8 l + 1 else if r = 85 ∧ j = 14 + 6 * l then c 1 5 + 1 else if r = 85 ∧ j = 13 + 6 * l then c 6 l - c 25 i else m r j := by
        intro r j
        rw [← hm3, kp_st, ← hm2, kp_st, kp_st, ← hm1, kp_st, kp_st, kp_st, if_neg (show ¬ (85 = 85 ∧ 15 + 6 * l = 14 + 6 * l) by omega), if_neg (show ¬ (85 = 85 ∧ 15 + 6 * l = 13 + 6 * l) by omega), if_neg (show ¬ (85 = 85 ∧ 0 = 13 + 6 * l) by omega), r5, g3, r3, a1]
      have e7 : m3 85 (13 + 6 * l) = c 6 l - c 25 i := by rw [M, if_neg (by omega), if_neg (by omega), if_pos ⟨rfl, rfl⟩]
      have e8 : c2 6 l = c 6 l - c 25 i := by rw [C, if_neg (by omega), if_neg (by omega), if_pos ⟨rfl, rfl⟩]
      refine ⟨c 6 l - c 25 i, c2, m3, by rw [e8], by rw [e7], ?_⟩
      have ev : ∀ n, n ≠ 5 → n ≠ 6 → n ≠ 7 → i_v c2 1 n = i_v c 1 n := fun n h1 h2 h3 => by
        funext j
        show c2 (1 + n) j = c (1 + n) j
        rw [C, if_neg (by omega), if_neg (by omega), if_neg (by omega)]
      have es : ∀ n, n ≠ 13 + 6 * l → n ≠ 14 + 6 * l → n ≠ 15 + 6 * l → m3 85 n = m 85 n := fun n h1 h2 h3 => by rw [M, if_neg (by omega), if_neg (by omega), if_neg (by omega)]
      have hv5 : ∀ j, j ≠ l → i_v c2 1 5 j = i_v c 1 5 j := fun j hj => by show c2 6 j = c 6 j; rw [C, if_neg (by omega), if_neg (by omega), if_neg (by omega)]
      have hv6 : ∀ j, j ≠ l → i_v c2 1 6 j = i_v c 1 6 j := fun j hj => by show c2 7 j = c 7 j; rw [C, if_neg (by omega), if_neg (by omega), if_neg (by omega)]
      have hv7 : ∀ j, j ≠ l → i_v c2 1 7 j = i_v c 1 7 j := fun j hj => by show c2 8 j = c 8 j; rw [C, if_neg (by omega), if_neg (by omega), if_neg (by omega)]
      have hL2 : ∀ l2, l2 < L → iL1 (i_v c2 1) (m3 85) (9999 + 100 * ((k + 1 : Nat) : Int)) l2 := by
        intro l2 hl2
        by_cases q : l2 = l
        · subst q
          have o5 : i_v c2 1 5 l2 = c 6 l2 - c 25 i := e8
          have o6 : i_v c2 1 6 l2 = c 1 5 := by show c2 7 l2 = _; rw [C, if_neg (by omega), if_pos ⟨rfl, rfl⟩]
          have o7 : i_v c2 1 7 l2 = c 8 l2 + 1 := by show c2 8 l2 = _; rw [C, if_pos ⟨rfl, rfl⟩]
          have o0 : i_v c2 1 0 5 = c 1 5 := by rw [ev 0 (by omega) (by omega) (by omega)]; rfl
          have n4 : m3 85 (14 + 6 * l2) = c 1 5 + 1 := by rw [M, if_neg (by omega), if_pos ⟨rfl, rfl⟩]
          have n5 : m3 85 (15 + 6 * l2) = c 8 l2 + 1 := by rw [M, if_pos ⟨rfl, rfl⟩]
          have w1 : (c 8 l2 + 1).toInt = (c 8 l2).toInt + 1 := by rw [kp_add] <;> rw [ki_1] <;> omega
          have w2 : (c 6 l2 - c 25 i).toInt = (c 6 l2).toInt - (c 25 i).toInt := by rw [kp_sub] <;> omega
          have w3 : ¬ c 8 l2 + 1 = 0 := fun q => by rw [kp_eq, w1, ki_0] at q; omega
          unfold iL1
          rw [o5, o6, o7, o0, e7, n4, n5, if_neg w3, ev 2 (by omega) (by omega) (by omega), ev 3 (by omega) (by omega) (by omega), ev 4 (by omega) (by omega) (by omega), es _ (by omega) (by omega) (by omega), es _ (by omega) (by omega) (by omega), es _ (by omega) (by omega) (by omega), w1, w2]
          exact ⟨r0, r1, r2, rfl, rfl, rfl, r6, r7, r8, ⟨by omega, by omega⟩, ⟨by omega, by omega⟩, fun _ => ⟨g1, g2⟩⟩
        · exact fr_L1 (hL l2 hl2) (by omega) (by rw [ev 0 (by omega) (by omega) (by omega)]) (by rw [ev 2 (by omega) (by omega) (by omega)]) (by rw [ev 3 (by omega) (by omega) (by omega)]) (by rw [ev 4 (by omega) (by omega) (by omega)]) (hv5 l2 q) (hv6 l2 q) (hv7 l2 q) (fun j _ _ => es j (by omega) (by omega) (by omega))
      exact fr_state h ⟨L, T, U, fr_N hN (by rw [ev 1 (by omega) (by omega) (by omega)]) (by rw [ev 9 (by omega) (by omega) (by omega)]) (by rw [ev 9 (by omega) (by omega) (by omega)]) (es _ (by omega) (by omega) (by omega)) (es _ (by omega) (by omega) (by omega)) (es _ (by omega) (by omega) (by omega)), fr_G hG (ev 0 (by omega) (by omega) (by omega)) (fun j hj => es j (by omega) (by omega) (by omega)), hL2, fr_P hP (fun l2 _ => by rw [ev 2 (by omega) (by omega) (by omega)]), fr_A hA (ev 8 (by omega) (by omega) (by omega)) (ev 24 (by omega) (by omega) (by omega)) (fun j _ _ => es j (by omega) (by omega) (by omega)), fun w2 hw2 => fr_W1 (hW w2 hw2) (by omega) (Nat.le_refl L) (by rw [ev 10 (by omega) (by omega) (by omega)]) (by rw [ev 11 (by omega) (by omega) (by omega)]) (by rw [ev 12 (by omega) (by omega) (by omega)]) (by rw [ev 13 (by omega) (by omega) (by omega)]) (by rw [ev 14 (by omega) (by omega) (by omega)]) (by rw [ev 15 (by omega) (by omega) (by omega)]) (fun j _ _ => es j (by omega) (by omega) (by omega)), fun q2 hq2 => by rw [es _ (by omega) (by omega) (by omega), ev 16 (by omega) (by omega) (by omega)]; exact hT q2 hq2, fr_X hX (ev 17 (by omega) (by omega) (by omega)) (ev 18 (by omega) (by omega) (by omega)) (es _ (by omega) (by omega) (by omega)) (es _ (by omega) (by omega) (by omega)) (fun j _ _ => es j (by omega) (by omega) (by omega)), fun q2 hh2 => fr_C1 hh2 (hC q2 hh2) (ev 20 (by omega) (by omega) (by omega)) (ev 21 (by omega) (by omega) (by omega)) (ev 22 (by omega) (by omega) (by omega)) (ev 23 (by omega) (by omega) (by omega)) (fun j _ _ => es j (by omega) (by omega) (by omega))⟩ (by funext j; rw [C, if_neg (by omega), if_neg (by omega), if_neg (by omega)]) (fun r _ _ => by funext j; rw [C, if_neg (by omega), if_neg (by omega), if_neg (by omega)]) (fun r _ _ => by funext j; rw [M, if_neg (by omega), if_neg (by omega), if_neg (by omega)]) (by funext j; rw [M, if_neg (by omega), if_neg (by omega), if_neg (by omega)]) (by funext j; rw [C, if_neg (by omega), if_neg (by omega), if_neg (by omega)])
    · rw [decide_eq_false z]
      exact ⟨_, c, m, rfl, rfl, fr_same h⟩
  · rw [e1, e2]
    exact ⟨_, c, m, rfl, rfl, fr_same h⟩
end OT
