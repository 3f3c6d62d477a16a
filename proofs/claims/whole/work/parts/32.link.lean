/-! ===== link ===== -/
section OK
variable {k : Nat} {c m : Nat → Nat → Int32}
theorem h_isDoubt (p : Int32) : fx_K_isDoubt p = some (decide (0 ≤ p.toInt ∧ p.toInt ≤ 99)) := by
  unfold fx_K_isDoubt
  rw [sx_isWithin, kp_b1, ki_0, ki_99]
theorem op_link (h : Inv k c m) (p u w y : Int32) : ∃ r c2 m2, fx_K_link p u w y c = some (r, c2) ∧ fx_D_link p u w y m = some (r, m2) ∧ Inv (k + 1) c2 m2 := by
  obtain ⟨L, T, U, hN, hG, hL, hP, hA, hW, hT, hX, hC⟩ := h.1
  have L10 := hN.1
  have T20 := hN.2.1
  have UT := hN.2.2.1
  have no : ∃ r c2 m2, some ((-1 : Int32), c) = some (r, c2) ∧ some ((-1 : Int32), m) = some (r, m2) ∧ Inv (k + 1) c2 m2 := ⟨_, _, _, rfl, rfl, fr_same h⟩
  unfold fx_K_link fx_D_link
  rcases h_isChain p with ⟨a, ha, rfl, e1, e2⟩ | ⟨e1, e2⟩
  rotate_left
  · rw [e1, e2]; exact no
  rw [e1, e2, sx_isWithin, sx_isInL u (-999) 999 (by decide) (by decide), h_isDoubt, sx_isInL w 0 99 (by decide) (by decide), ki_m999, ki_999]
  simp only [kp_b1, if_true]
  by_cases z1 : -999 ≤ u.toInt ∧ u.toInt ≤ 999
  rotate_left
  · rw [decide_eq_false z1]; exact no
  by_cases z2 : 0 ≤ w.toInt ∧ w.toInt ≤ 99
  rotate_left
  · rw [decide_eq_true z1, decide_eq_false z2]; exact no
  rw [decide_eq_true z1, decide_eq_true z2]
  simp only [if_true]
  rcases h_isYear y with ⟨y1, y2, e3, e4⟩ | ⟨-, e3, e4⟩
  rotate_left
  · rw [e3, e4]; exact no
  rw [e3, e4]
  simp only [kp_b1, if_true]
  obtain ⟨K, hK, a1, a2, a3, a4, a5⟩ := hC a ha
  have a1 : c 23 a = nI K := a1
  simp only [sx_links ha, kp_b1, kp_gd _ (kp_in_nI ha (show 4 < 2 ^ 31 by omega)), nI_clamp (show a < 2 ^ 31 by omega), a1, a2]
  by_cases z3 : K < 12
  rotate_left
  · have : K = 12 := by omega
    subst this
    exact ⟨-2, c, m, rfl, rfl, fr_same h⟩
  have f1 : nI K < (12 : Int32) := nI_lt (b := 12) z3 (by omega)
  have f2 : ¬ nI K = (12 : Int32) := fun q => by
    have := (nI_eq (a := K) (b := 12) (by omega) (by omega)).mp q
    omega
  rw [if_pos f1, if_neg f2]
  have b1 : (340 : Int32) + ((26 : Int32) * nI a) = nI (340 + 26 * a) := kp_ix2 340 26 a
  have b2 : ∀ n : Nat, (nI (340 + 26 * a) + nI n) + ((2 : Int32) * nI K) = nI (340 + 26 * a + n + 2 * K) := fun n => by
    have : (2 : Int32) * nI K = nI (2 * K) := pk_mul 2 K
    rw [this, nI_add, nI_add]
  have b3 : (nI (340 + 26 * a) + (2 : Int32)) + ((2 : Int32) * nI K) = nI (342 + 26 * a + 2 * K) := (b2 2).trans (by congr 1; omega)
  have b4 : (nI (340 + 26 * a) + (3 : Int32)) + ((2 : Int32) * nI K) = nI (343 + 26 * a + 2 * K) := (b2 3).trans (by congr 1; omega)
  have b5 : nI (340 + 26 * a) + (1 : Int32) = nI (341 + 26 * a) := (nI_add _ 1).trans (by congr 1; omega)
  have b6 : nI a * (12 : Int32) + nI K = nI (12 * a + K) := by
    have : nI a * (12 : Int32) = nI (a * 12) := pk_mul a 12
    rw [this, nI_add, Nat.mul_comm]
  have l1 : kv_st m 85 (342 + 26 * a + 2 * K) u 85 (340 + 26 * a) = nI K := by rw [kp_st, if_neg (by omega), a2]
  unfold fx_Chains_add
  simp only [kp_let, b1, b3, b4, b5, b6, a1, kp_b2, kp_gd _ (kp_in_nI ha (show 4 < 2 ^ 31 by omega)), nI_clamp (show a < 2 ^ 31 by omega), kp_gd _ (kp_in_nI (show 342 + 26 * a + 2 * K < 444 by omega) (by omega)), nI_clamp (show 342 + 26 * a + 2 * K < 2 ^ 31 by omega), sx_links ha, l1, kp_b1, kp_gd _ (kp_in_nI (show 343 + 26 * a + 2 * K < 444 by omega) (by omega)), nI_clamp (show 343 + 26 * a + 2 * K < 2 ^ 31 by omega), kp_gd _ (kp_in_nI (show 341 + 26 * a < 444 by omega) (by omega)), nI_clamp (show 341 + 26 * a < 2 ^ 31 by omega), kp_gd _ (kp_in_nI (show 340 + 26 * a < 444 by omega) (by omega)), nI_clamp (show 340 + 26 * a < 2 ^ 31 by omega), kp_gd _ (kp_in_nI (show 12 * a + K < 48 by omega) (by omega)), nI_clamp (show 12 * a + K < 2 ^ 31 by omega)]
  generalize hc3 : kv_st (kv_st (kv_st c 21 (12 * a + K) u) 22 (12 * a + K) w) 24 a y = c3
  generalize hm3 : kv_st (kv_st (kv_st m 85 (342 + 26 * a + 2 * K) u) 85 (343 + 26 * a + 2 * K) w) 85 (341 + 26 * a) y = m3
  have q1 : c3 23 a = nI K := by
    rw [← hc3, kp_st_ne (by omega), kp_st_ne (by omega), kp_st_ne (by omega), a1]
  have q2 : m3 85 (340 + 26 * a) = nI K := by
    rw [← hm3, kp_st, if_neg (by omega), kp_st, if_neg (by omega), kp_st, if_neg (by omega), a2]
  rw [q1, q2, nI_1]
  generalize hc2 : kv_st c3 23 a (nI (K + 1)) = c2
  generalize hm2 : kv_st m3 85 (340 + 26 * a) (nI (K + 1)) = m2
  have C : ∀ r j, c2 r j = if r = 23 ∧ j = a then nI (K + 1) else if r = 24 ∧ j = a then y else if r = 22 ∧ j = 12 * a + K then w else if r = 21 ∧ j = 12 * a + K then u else c r j := by
    intro r j
    rw [← hc2, kp_st, ← hc3, kp_st, kp_st, kp_st]
  have M : ∀ r j, m2 r j = if r = 85 ∧ j = 340 + 26 * a then nI (K + 1) else if r = 85 ∧ j = 341 + 26 * a then y else if r = 85 ∧ j = 343 + 26 * a + 2 * K then w else if r = 85 ∧ j = 342 + 26 * a + 2 * K then u else m r j := by
    intro r j
    rw [← hm2, kp_st, ← hm3, kp_st, kp_st, kp_st]
  have q3 : c2 23 a = nI (K + 1) := by rw [C, if_pos ⟨rfl, rfl⟩]
  have q4 : m2 85 (340 + 26 * a) = nI (K + 1) := by rw [M, if_pos ⟨rfl, rfl⟩]
  refine ⟨nI (K + 1), c2, m2, by rw [q3], by rw [q4], ?_⟩
  have ev : ∀ n, n < 20 ∨ 23 < n → i_v c2 1 n = i_v c 1 n := fun n h1 => by
    funext j
    show c2 (1 + n) j = c (1 + n) j
    rw [C, if_neg (by omega), if_neg (by omega), if_neg (by omega), if_neg (by omega)]
  have es : ∀ n, n < 340 → m2 85 n = m 85 n := fun n h1 => by rw [M, if_neg (by omega), if_neg (by omega), if_neg (by omega), if_neg (by omega)]
  have hC2 : ∀ ch, ch < 4 → iC1 (i_v c2 1) (m2 85) ch := by
    intro ch hch
    by_cases z : ch = a
    · subst z
      refine ⟨K + 1, by omega, q3, q4, ?_, ?_, fun j hj => ?_⟩
      · show m2 85 (341 + 26 * ch) = c2 24 ch
        rw [M, if_neg (by omega), if_pos ⟨rfl, rfl⟩, C, if_neg (by omega), if_pos ⟨rfl, rfl⟩]
      · show 0 ≤ (c2 24 ch).toInt ∧ (c2 24 ch).toInt ≤ 140
        rw [C, if_neg (by omega), if_pos ⟨rfl, rfl⟩]
        exact ⟨y1, y2⟩
      · show m2 85 (342 + 26 * ch + 2 * j) = c2 21 (12 * ch + j) ∧ m2 85 (343 + 26 * ch + 2 * j) = c2 22 (12 * ch + j) ∧ (-999 ≤ (c2 21 (12 * ch + j)).toInt ∧ (c2 21 (12 * ch + j)).toInt ≤ 999) ∧ (0 ≤ (c2 22 (12 * ch + j)).toInt ∧ (c2 22 (12 * ch + j)).toInt ≤ 99)
        by_cases zj : j = K
        · subst zj
          have x1 : c2 21 (12 * ch + j) = u := by rw [C, if_neg (by omega), if_neg (by omega), if_neg (by omega), if_pos ⟨rfl, rfl⟩]
          have x2 : c2 22 (12 * ch + j) = w := by rw [C, if_neg (by omega), if_neg (by omega), if_pos ⟨rfl, rfl⟩]
          rw [x1, x2, M, if_neg (by omega), if_neg (by omega), if_neg (by omega), if_pos ⟨rfl, rfl⟩, M, if_neg (by omega), if_neg (by omega), if_pos ⟨rfl, rfl⟩]
          exact ⟨rfl, rfl, z1, z2⟩
        · have x1 : c2 21 (12 * ch + j) = c 21 (12 * ch + j) := by rw [C, if_neg (by omega), if_neg (by omega), if_neg (by omega), if_neg (by omega)]
          have x2 : c2 22 (12 * ch + j) = c 22 (12 * ch + j) := by rw [C, if_neg (by omega), if_neg (by omega), if_neg (by omega), if_neg (by omega)]
          rw [x1, x2, M, if_neg (by omega), if_neg (by omega), if_neg (by omega), if_neg (by omega), M, if_neg (by omega), if_neg (by omega), if_neg (by omega), if_neg (by omega)]
          exact a5 j (by omega)
    · obtain ⟨K2, g0, g1, g2, g3, g4, g5⟩ := hC ch hch
      refine ⟨K2, g0, ?_, ?_, ?_, ?_, fun j hj => ?_⟩
      · show c2 23 ch = nI K2
        rw [C, if_neg (by omega), if_neg (by omega), if_neg (by omega), if_neg (by omega)]; exact g1
      · rw [M, if_neg (by omega), if_neg (by omega), if_neg (by omega), if_neg (by omega)]; exact g2
      · show m2 85 (341 + 26 * ch) = c2 24 ch
        rw [M, if_neg (by omega), if_neg (by omega), if_neg (by omega), if_neg (by omega), C, if_neg (by omega), if_neg (by omega), if_neg (by omega), if_neg (by omega)]; exact g3
      · show 0 ≤ (c2 24 ch).toInt ∧ (c2 24 ch).toInt ≤ 140
        rw [C, if_neg (by omega), if_neg (by omega), if_neg (by omega), if_neg (by omega)]; exact g4
      · show m2 85 (342 + 26 * ch + 2 * j) = c2 21 (12 * ch + j) ∧ m2 85 (343 + 26 * ch + 2 * j) = c2 22 (12 * ch + j) ∧ (-999 ≤ (c2 21 (12 * ch + j)).toInt ∧ (c2 21 (12 * ch + j)).toInt ≤ 999) ∧ (0 ≤ (c2 22 (12 * ch + j)).toInt ∧ (c2 22 (12 * ch + j)).toInt ≤ 99)
        have x1 : c2 21 (12 * ch + j) = c 21 (12 * ch + j) := by rw [C, if_neg (by omega), if_neg (by omega), if_neg (by omega), if_neg (by omega)]
        have x2 : c2 22 (12 * ch + j) = c 22 (12 * ch + j) := by rw [C, if_neg (by omega), if_neg (by omega), if_neg (by omega), if_neg (by omega)]
        rw [x1, x2, M, if_neg (by omega), if_neg (by omega), if_neg (by omega), if_neg (by omega), M, if_neg (by omega), if_neg (by omega), if_neg (by omega), if_neg (by omega)]
        exact g5 j hj
  exact fr_state h ⟨L, T, U, fr_N hN (by rw [ev 1 (by omega)]) (by rw [ev 9 (by omega)]) (by rw [ev 9 (by omega)]) (es _ (by omega)) (es _ (by omega)) (es _ (by omega)), fr_G hG (ev 0 (by omega)) (fun j hj => es j (by omega)), fun l2 hl2 => fr_L1 (hL l2 hl2) (by omega) (by rw [ev 0 (by omega)]) (by rw [ev 2 (by omega)]) (by rw [ev 3 (by omega)]) (by rw [ev 4 (by omega)]) (by rw [ev 5 (by omega)]) (by rw [ev 6 (by omega)]) (by rw [ev 7 (by omega)]) (fun j _ _ => es j (by omega)), fr_P hP (fun l2 _ => by rw [ev 2 (by omega)]), fr_A hA (ev 8 (by omega)) (ev 24 (by omega)) (fun j _ _ => es j (by omega)), fun w2 hw2 => fr_W1 (hW w2 hw2) (by omega) (Nat.le_refl L) (by rw [ev 10 (by omega)]) (by rw [ev 11 (by omega)]) (by rw [ev 12 (by omega)]) (by rw [ev 13 (by omega)]) (by rw [ev 14 (by omega)]) (by rw [ev 15 (by omega)]) (fun j _ _ => es j (by omega)), fun q2 hq2 => by rw [es _ (by omega), ev 16 (by omega)]; exact hT q2 hq2, fr_X hX (ev 17 (by omega)) (ev 18 (by omega)) (es _ (by omega)) (es _ (by omega)) (fun j _ _ => es j (by omega)), hC2⟩ (by funext j; rw [C, if_neg (by omega), if_neg (by omega), if_neg (by omega), if_neg (by omega)]) (fun r _ _ => by funext j; rw [C, if_neg (by omega), if_neg (by omega), if_neg (by omega), if_neg (by omega)]) (fun r _ _ => by funext j; rw [M, if_neg (by omega), if_neg (by omega), if_neg (by omega), if_neg (by omega)]) (by funext j; rw [M, if_neg (by omega), if_neg (by omega), if_neg (by omega), if_neg (by omega)]) (by funext j; rw [C, if_neg (by omega), if_neg (by omega), if_neg (by omega), if_neg (by omega)])
end OK
