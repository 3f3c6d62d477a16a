/-! ===== set, out, wash, link ===== -/
section OS
variable {k : Nat} {c m : Nat → Nat → Int32}
theorem fr_G0 (h : Inv k c m) {q j : Nat} {x : Int32} (hq : q = 6 ∨ q = 7 ∨ q = 8) (hj : j = 4 ∨ j = 5 ∨ j = 6) (hG2 : iG (i_v (kv_st c 1 q x) 1) (kv_st m 85 j x 85)) : Inv (k + 1) (kv_st c 1 q x) (kv_st m 85 j x) := by
  obtain ⟨L, T, U, hN, hG, hL, hP, hA, hW, hT, hX, hC⟩ := h.1
  have L10 := hN.1
  have T20 := hN.2.1
  have UT := hN.2.2.1
  have ev : ∀ i, 0 < i → i_v (kv_st c 1 q x) 1 i = i_v c 1 i := fun i hi => kp_st_ne (by omega)
  have e0 : i_v (kv_st c 1 q x) 1 0 5 = i_v c 1 0 5 := by
    show kv_st c 1 q x 1 5 = c 1 5
    rw [kp_st, if_neg (by omega)]
  have es : ∀ n, n ≠ j → kv_st m 85 j x 85 n = m 85 n := fun n hn => by rw [kp_st, if_neg (by omega)]
  exact fr_state h ⟨L, T, U, fr_N hN (by rw [ev 1 (by omega)]) (by rw [ev 9 (by omega)]) (by rw [ev 9 (by omega)]) (es _ (by omega)) (es _ (by omega)) (es _ (by omega)), hG2, fun l2 hl2 => fr_L1 (hL l2 hl2) (by omega) (by rw [e0]) (by rw [ev 2 (by omega)]) (by rw [ev 3 (by omega)]) (by rw [ev 4 (by omega)]) (by rw [ev 5 (by omega)]) (by rw [ev 6 (by omega)]) (by rw [ev 7 (by omega)]) (fun n _ _ => es n (by omega)), fr_P hP (fun l2 _ => by rw [ev 2 (by omega)]), fr_A hA (ev 8 (by omega)) (ev 24 (by omega)) (fun n _ _ => es n (by omega)), fun w2 hw2 => fr_W1 (hW w2 hw2) (by omega) (Nat.le_refl L) (by rw [ev 10 (by omega)]) (by rw [ev 11 (by omega)]) (by rw [ev 12 (by omega)]) (by rw [ev 13 (by omega)]) (by rw [ev 14 (by omega)]) (by rw [ev 15 (by omega)]) (fun n _ _ => es n (by omega)), fun q2 hq2 => by rw [es _ (by omega), ev 16 (by omega)]; exact hT q2 hq2, fr_X hX (ev 17 (by omega)) (ev 18 (by omega)) (es _ (by omega)) (es _ (by omega)) (fun n _ _ => es n (by omega)), fun q2 hh2 => fr_C1 hh2 (hC q2 hh2) (ev 20 (by omega)) (ev 21 (by omega)) (ev 22 (by omega)) (ev 23 (by omega)) (fun n _ _ => es n (by omega))⟩ (kp_st_ne (by omega)) (fun r _ _ => kp_st_ne (by omega)) (fun r _ _ => kp_st_ne (by omega)) (kp_st_ne (by omega)) (kp_st_ne (by omega))
theorem fr_A0 (h : Inv k c m) {r q j : Nat} {x : Int32} (hr : r = 9 ∨ r = 25) (hj : 70 ≤ j ∧ j < 80) (hA2 : iA (i_v (kv_st c r q x) 1) (kv_st m 85 j x 85)) : Inv (k + 1) (kv_st c r q x) (kv_st m 85 j x) := by
  obtain ⟨L, T, U, hN, hG, hL, hP, hA, hW, hT, hX, hC⟩ := h.1
  have L10 := hN.1
  have T20 := hN.2.1
  have UT := hN.2.2.1
  have ev : ∀ i, i ≠ 8 → i ≠ 24 → i_v (kv_st c r q x) 1 i = i_v c 1 i := fun i h1 h2 => kp_st_ne (by omega)
  have es : ∀ n, n ≠ j → kv_st m 85 j x 85 n = m 85 n := fun n hn => by rw [kp_st, if_neg (by omega)]
  exact fr_state h ⟨L, T, U, fr_N hN (by rw [ev 1 (by omega) (by omega)]) (by rw [ev 9 (by omega) (by omega)]) (by rw [ev 9 (by omega) (by omega)]) (es _ (by omega)) (es _ (by omega)) (es _ (by omega)), fr_G hG (ev 0 (by omega) (by omega)) (fun n hn => es n (by omega)), fun l2 hl2 => fr_L1 (hL l2 hl2) (by omega) (by rw [ev 0 (by omega) (by omega)]) (by rw [ev 2 (by omega) (by omega)]) (by rw [ev 3 (by omega) (by omega)]) (by rw [ev 4 (by omega) (by omega)]) (by rw [ev 5 (by omega) (by omega)]) (by rw [ev 6 (by omega) (by omega)]) (by rw [ev 7 (by omega) (by omega)]) (fun n _ _ => es n (by omega)), fr_P hP (fun l2 _ => by rw [ev 2 (by omega) (by omega)]), hA2, fun w2 hw2 => fr_W1 (hW w2 hw2) (by omega) (Nat.le_refl L) (by rw [ev 10 (by omega) (by omega)]) (by rw [ev 11 (by omega) (by omega)]) (by rw [ev 12 (by omega) (by omega)]) (by rw [ev 13 (by omega) (by omega)]) (by rw [ev 14 (by omega) (by omega)]) (by rw [ev 15 (by omega) (by omega)]) (fun n _ _ => es n (by omega)), fun q2 hq2 => by rw [es _ (by omega), ev 16 (by omega) (by omega)]; exact hT q2 hq2, fr_X hX (ev 17 (by omega) (by omega)) (ev 18 (by omega) (by omega)) (es _ (by omega)) (es _ (by omega)) (fun n _ _ => es n (by omega)), fun q2 hh2 => fr_C1 hh2 (hC q2 hh2) (ev 20 (by omega) (by omega)) (ev 21 (by omega) (by omega)) (ev 22 (by omega) (by omega)) (ev 23 (by omega) (by omega)) (fun n _ _ => es n (by omega))⟩ (kp_st_ne (by omega)) (fun r2 _ _ => kp_st_ne (by omega)) (fun r2 _ _ => kp_st_ne (by omega)) (kp_st_ne (by omega)) (kp_st_ne (by omega))
theorem op_set (h : Inv k c m) (w p n : Int32) : ∃ r c2 m2, fx_K_set w p n c = some (r, c2) ∧ fx_D_set w p n m = some (r, m2) ∧ Inv (k + 1) c2 m2 := by
  have hh := h
  obtain ⟨L, T, U, hN, hG, hL, hP, hA, hW, hT, hX, hC⟩ := h.1
  have L10 := hN.1
  have T20 := hN.2.1
  have UT := hN.2.2.1
  have no : ∃ r c2 m2, some ((-1000000001 : Int32), c) = some (r, c2) ∧ some ((-1000000001 : Int32), m) = some (r, m2) ∧ Inv (k + 1) c2 m2 := ⟨_, _, _, rfl, rfl, fr_same h⟩
  obtain ⟨G1, G2, G3, G4, G5, G6, G7, G8, G9⟩ := hG
  have G1 : 0 ≤ (c 1 5).toInt := G1
  have G2 : (c 1 5).toInt ≤ 140 := G2
  have G3 : m 85 0 = c 1 5 := G3
  have G4 : m 85 4 = c 1 6 := G4
  have G5 : m 85 5 = c 1 7 := G5
  have G6 : m 85 6 = c 1 8 := G6
  have G7 : -99 ≤ (c 1 7).toInt := G7
  have G8 : (c 1 7).toInt ≤ (c 1 8).toInt := G8
  have G9 : (c 1 8).toInt ≤ 99 := G9
  unfold fx_K_set fx_D_set
  by_cases w0 : w = 0
  · simp only [if_pos w0]
    rw [sx_isWithin, sx_isInL p 0 5 (by decide) (by decide), sx_isInL n 0 9 (by decide) (by decide), ki_0, ki_9]
    simp only [kp_b1]
    by_cases z : 0 ≤ n.toInt ∧ n.toInt ≤ 9
    · rw [decide_eq_true z]
      simp only [if_true]
      unfold fx_K_exchange
      have e6 : ((6 : Int32) - 1).toInt = 5 := by decide
      rw [sx_isWithin, ki_0, e6, kp_b1]
      by_cases z2 : 0 ≤ p.toInt ∧ p.toInt ≤ 5
      · rw [decide_eq_true z2]
        obtain ⟨i, rfl, e1, -⟩ := kp_nat z2.1
        have hi : i < 6 := by omega
        have e70 : (70 : Int32) + nI i = nI (70 + i) := nI_add 70 i
        simp only [if_true, kp_gd _ (kp_in_nI hi (by omega)), nI_clamp (show i < 2 ^ 31 by omega), kp_let, kp_b2, e70, sx_becomes (show 70 + i < 444 by omega)]
        have e2 : m 85 (70 + i) = c 9 i := (hA.1 i hi).1
        refine ⟨c 9 i, _, _, rfl, by rw [e2], fr_A0 h (Or.inl rfl) (by omega) ⟨fun i2 hi2 => ?_, fun i2 hi2 => ?_⟩⟩
        · show kv_st m 85 (70 + i) n 85 (70 + i2) = kv_st c 9 i n 9 i2 ∧ 0 ≤ (kv_st c 9 i n 9 i2).toInt ∧ (kv_st c 9 i n 9 i2).toInt ≤ 9
          rw [kp_st, kp_st]
          by_cases q : i2 = i
          · rw [if_pos ⟨rfl, by omega⟩, if_pos ⟨rfl, q⟩]
            exact ⟨rfl, z⟩
          · rw [if_neg (by omega), if_neg (fun q2 => q q2.2)]
            exact hA.1 i2 hi2
        · show kv_st m 85 (70 + i) n 85 (76 + i2) = kv_st c 9 i n 25 i2 ∧ 0 ≤ (kv_st c 9 i n 25 i2).toInt ∧ (kv_st c 9 i n 25 i2).toInt ≤ 99
          rw [kp_st, kp_st, if_neg (by omega), if_neg (by omega)]
          exact hA.2 i2 hi2
      · rw [decide_eq_false z2]
        exact no
    · rw [decide_eq_false z]
      by_cases z2 : 0 ≤ p.toInt ∧ p.toInt ≤ 5
      · rw [decide_eq_true z2]; exact no
      · rw [decide_eq_false z2]; exact no
  simp only [if_neg w0]
  by_cases w1 : w = 1
  · simp only [if_pos w1]
    rw [sx_isWithin, sx_isInL p 0 3 (by decide) (by decide), sx_isInL n 0 99 (by decide) (by decide), ki_0, ki_99]
    simp only [kp_b1]
    by_cases z : 0 ≤ n.toInt ∧ n.toInt ≤ 99
    · rw [decide_eq_true z]
      simp only [if_true]
      unfold fx_K_exchange_25
      have e6 : ((4 : Int32) - 1).toInt = 3 := by decide
      rw [sx_isWithin, ki_0, e6, kp_b1]
      by_cases z2 : 0 ≤ p.toInt ∧ p.toInt ≤ 3
      · rw [decide_eq_true z2]
        obtain ⟨i, rfl, e1, -⟩ := kp_nat z2.1
        have hi : i < 4 := by omega
        have e76 : (76 : Int32) + nI i = nI (76 + i) := nI_add 76 i
        simp only [if_true, kp_gd _ (kp_in_nI hi (by omega)), nI_clamp (show i < 2 ^ 31 by omega), kp_let, kp_b2, e76, sx_becomes (show 76 + i < 444 by omega)]
        have e2 : m 85 (76 + i) = c 25 i := (hA.2 i hi).1
        refine ⟨c 25 i, _, _, rfl, by rw [e2], fr_A0 h (Or.inr rfl) (by omega) ⟨fun i2 hi2 => ?_, fun i2 hi2 => ?_⟩⟩
        · show kv_st m 85 (76 + i) n 85 (70 + i2) = kv_st c 25 i n 9 i2 ∧ 0 ≤ (kv_st c 25 i n 9 i2).toInt ∧ (kv_st c 25 i n 9 i2).toInt ≤ 9
          rw [kp_st, kp_st, if_neg (by omega), if_neg (by omega)]
          exact hA.1 i2 hi2
        · show kv_st m 85 (76 + i) n 85 (76 + i2) = kv_st c 25 i n 25 i2 ∧ 0 ≤ (kv_st c 25 i n 25 i2).toInt ∧ (kv_st c 25 i n 25 i2).toInt ≤ 99
          rw [kp_st, kp_st]
          by_cases q : i2 = i
          · rw [if_pos ⟨rfl, by omega⟩, if_pos ⟨rfl, q⟩]
            exact ⟨rfl, z⟩
          · rw [if_neg (by omega), if_neg (fun q2 => q q2.2)]
            exact hA.2 i2 hi2
      · rw [decide_eq_false z2]
        exact no
    · rw [decide_eq_false z]
      by_cases z2 : 0 ≤ p.toInt ∧ p.toInt ≤ 3
      · rw [decide_eq_true z2]; exact no
      · rw [decide_eq_false z2]; exact no
  simp only [if_neg w1]
  by_cases w2 : w = 2
  · simp only [if_pos w2]
    by_cases p0 : p = 0
    · simp only [if_pos p0]
      rw [sx_isWithin, sx_isInL n (-99) (c 1 8).toInt (by decide) (by rw [Int32.toInt_toInt64, G6]), ki_m99]
      simp only [kp_b1]
      by_cases z : -99 ≤ n.toInt ∧ n.toInt ≤ (c 1 8).toInt
      · rw [decide_eq_true z]
        have e5 : fx_D_becomes 5 n m = some (m 85 5, kv_st m 85 5 n) := sx_becomes (n := 5) (by omega)
        unfold fx_State_exchangeLow
        simp only [if_true, kp_let, kp_b2, e5]
        refine ⟨c 1 7, _, _, rfl, by rw [G5], fr_G0 h (by omega) (by omega) ?_⟩
        show 0 ≤ (kv_st c 1 7 n 1 5).toInt ∧ (kv_st c 1 7 n 1 5).toInt ≤ 140 ∧ kv_st m 85 5 n 85 0 = kv_st c 1 7 n 1 5 ∧ kv_st m 85 5 n 85 4 = kv_st c 1 7 n 1 6 ∧ kv_st m 85 5 n 85 5 = kv_st c 1 7 n 1 7 ∧ kv_st m 85 5 n 85 6 = kv_st c 1 7 n 1 8 ∧ -99 ≤ (kv_st c 1 7 n 1 7).toInt ∧ (kv_st c 1 7 n 1 7).toInt ≤ (kv_st c 1 7 n 1 8).toInt ∧ (kv_st c 1 7 n 1 8).toInt ≤ 99
        simp only [kp_st]
        simp
        exact ⟨G1, G2, G3, G4, G6, z.1, z.2, G9⟩
      · rw [decide_eq_false z]; exact no
    · simp only [if_neg p0]; exact no
  simp only [if_neg w2]
  by_cases w3 : w = 3
  · simp only [if_pos w3]
    by_cases p0 : p = 0
    · simp only [if_pos p0]
      rw [sx_isWithin, sx_isInL n (c 1 7).toInt 99 (by rw [Int32.toInt_toInt64, G5]) (by decide), ki_99]
      simp only [kp_b1]
      by_cases z : (c 1 7).toInt ≤ n.toInt ∧ n.toInt ≤ 99
      · rw [decide_eq_true z]
        have e5 : fx_D_becomes 6 n m = some (m 85 6, kv_st m 85 6 n) := sx_becomes (n := 6) (by omega)
        unfold fx_State_exchangeHigh
        simp only [if_true, kp_let, kp_b2, e5]
        refine ⟨c 1 8, _, _, rfl, by rw [G6], fr_G0 h (by omega) (by omega) ?_⟩
        show 0 ≤ (kv_st c 1 8 n 1 5).toInt ∧ (kv_st c 1 8 n 1 5).toInt ≤ 140 ∧ kv_st m 85 6 n 85 0 = kv_st c 1 8 n 1 5 ∧ kv_st m 85 6 n 85 4 = kv_st c 1 8 n 1 6 ∧ kv_st m 85 6 n 85 5 = kv_st c 1 8 n 1 7 ∧ kv_st m 85 6 n 85 6 = kv_st c 1 8 n 1 8 ∧ -99 ≤ (kv_st c 1 8 n 1 7).toInt ∧ (kv_st c 1 8 n 1 7).toInt ≤ (kv_st c 1 8 n 1 8).toInt ∧ (kv_st c 1 8 n 1 8).toInt ≤ 99
        simp only [kp_st]
        simp
        exact ⟨G1, G2, G3, G4, G5, G7, z.1, z.2⟩
      · rw [decide_eq_false z]; exact no
    · simp only [if_neg p0]; exact no
  simp only [if_neg w3]
  exact no
end OS
