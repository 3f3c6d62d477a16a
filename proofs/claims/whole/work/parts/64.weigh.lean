/-! ===== weigh, hear: a weighing more ===== -/
section WG
variable {k k2 : Nat} {c m c2 m2 : Nat → Nat → Int32}
theorem fr_stateK (h : Inv k c m) (hk : k ≤ k2) (hs : iS (i_v c2 1) (m2 85) (9999 + 100 * (k2 : Int))) (e0 : c2 0 = c 0) (e : ∀ r, 26 ≤ r → r < 68 → c2 r = c r) (f : ∀ r, 86 ≤ r → r < 93 → m2 r = m r) (g : m2 84 = m 84) (hB : iB c2) : Inv k2 c2 m2 := by
  obtain ⟨h1, h2, h3, h4, h5, h6, h7⟩ := h
  refine ⟨hs, ?_, fun d hd => fr_H1 hd (h3 d hd) (e _ (by omega) (by omega)) (e _ (by omega) (by omega)) (fun r h1 h2 => f r (by omega) (by omega)), by rw [g]; exact h4, by rw [g]; exact h5, by rw [g]; exact h6, hB⟩
  rcases h2 with h2 | h2
  · exact Or.inl ⟨by rw [e0]; exact h2.1, by rw [g]; exact h2.2⟩
  · exact Or.inr ⟨by rw [e0]; exact h2.1, by rw [g]; exact h2.2.1, fr_S h2.2.2 (by omega) (fun i hi => e _ (by omega) (by omega)) (fun j _ => by rw [f 86 (by omega) (by omega)])⟩
theorem wg_z (h : Inv k c m) (x : Int32) : Inv k (kv_st c 1 6 x) (kv_st m 85 4 x) := by
  obtain ⟨L, T, U, hN, hG, hL, hP, hA, hW, hT, hX, hC⟩ := h.1
  have ev : ∀ i, 0 < i → i_v (kv_st c 1 6 x) 1 i = i_v c 1 i := fun i hi => kp_st_ne (by omega)
  have e0 : ∀ j, j ≠ 6 → i_v (kv_st c 1 6 x) 1 0 j = i_v c 1 0 j := fun j hj => by
    show kv_st c 1 6 x 1 j = c 1 j
    rw [kp_st, if_neg (by omega)]
  have es : ∀ j, j ≠ 4 → kv_st m 85 4 x 85 j = m 85 j := fun j hj => by rw [kp_st, if_neg (by omega)]
  refine fr_stateK h (Nat.le_refl _) ⟨L, T, U, fr_N hN (by rw [ev 1 (by omega)]) (by rw [ev 9 (by omega)]) (by rw [ev 9 (by omega)]) (es _ (by omega)) (es _ (by omega)) (es _ (by omega)), ?_, fun l hl => fr_L1 (hL l hl) (by omega) (by rw [e0 5 (by omega)]) (by rw [ev 2 (by omega)]) (by rw [ev 3 (by omega)]) (by rw [ev 4 (by omega)]) (by rw [ev 5 (by omega)]) (by rw [ev 6 (by omega)]) (by rw [ev 7 (by omega)]) (fun j _ _ => es j (by omega)), fr_P hP (fun l _ => by rw [ev 2 (by omega)]), fr_A hA (ev 8 (by omega)) (ev 24 (by omega)) (fun j _ _ => es j (by omega)), fun w hw => fr_W1 (hW w hw) (by omega) (Nat.le_refl L) (by rw [ev 10 (by omega)]) (by rw [ev 11 (by omega)]) (by rw [ev 12 (by omega)]) (by rw [ev 13 (by omega)]) (by rw [ev 14 (by omega)]) (by rw [ev 15 (by omega)]) (fun j _ _ => es j (by omega)), fun q hq => by rw [es _ (by omega), ev 16 (by omega)]; exact hT q hq, fr_X hX (ev 17 (by omega)) (ev 18 (by omega)) (es _ (by omega)) (es _ (by omega)) (fun j _ _ => es j (by omega)), fun q hh => fr_C1 hh (hC q hh) (ev 20 (by omega)) (ev 21 (by omega)) (ev 22 (by omega)) (ev 23 (by omega)) (fun j _ _ => es j (by omega))⟩ (kp_st_ne (by omega)) (fun r _ _ => kp_st_ne (by omega)) (fun r _ _ => kp_st_ne (by omega)) (kp_st_ne (by omega)) (fun w hw => by rw [kp_st_ne (by omega), kp_st_ne (by omega)]; exact h.2.2.2.2.2.2 w hw)
  unfold iG at hG ⊢
  rw [e0 5 (by omega), e0 7 (by omega), e0 8 (by omega), es 0 (by omega), es 5 (by omega), es 6 (by omega)]
  have f1 : kv_st m 85 4 x 85 4 = x := by rw [kp_st, if_pos ⟨rfl, rfl⟩]
  have f2 : i_v (kv_st c 1 6 x) 1 0 6 = x := by show kv_st c 1 6 x 1 6 = x; rw [kp_st, if_pos ⟨rfl, rfl⟩]
  rw [f1, f2]
  exact ⟨hG.1, hG.2.1, hG.2.2.1, rfl, hG.2.2.2.2.1, hG.2.2.2.2.2⟩
/-- a weighing is told: on both sides -/
theorem wg_tell (h : Inv k c m) {L T : Nat} (hcL : c 2 7 = nI L) (hcT : c 10 7 = nI T) (hL10 : L ≤ 10) (hT20 : T < 20) {y an db : Int32} {a b : Nat} (hy : 0 ≤ y.toInt ∧ y.toInt ≤ 140) (ha : a < L) (hb : b < L) (hab : a ≠ b) (han : -(2 * (9999 + 100 * (k : Int)) + 100000) ≤ an.toInt ∧ an.toInt ≤ 2 * (9999 + 100 * (k : Int)) + 100000) (hdb : 0 ≤ db.toInt ∧ db.toInt ≤ 99) : ∃ c2 m2, fx_Weighings_add y (nI a) (nI b) an db c = some (nI T, c2) ∧ fx_D_tells y (nI a) (nI b) an db m = some m2 ∧ Inv k c2 m2 ∧ (∀ q, q < 10 ∨ 16 < q → c2 q = c q) ∧ (∀ j, j ≠ 7 → c2 10 j = c 10 j) ∧ c2 10 7 = nI (T + 1) ∧ (∀ q, q ≠ 85 → m2 q = m q) ∧ (∀ j, j ≠ 2 → j < 80 + 6 * T ∨ 86 + 6 * T ≤ j → m2 85 j = m 85 j) ∧ m2 85 2 = nI (T + 1) := by
  obtain ⟨L0, T0, U, hN, hG, hL, hP, hA, hW, hT, hX, hC⟩ := h.1
  have eL : L0 = L := (nI_eq (by have := hN.1; omega) (by omega)).mp (hN.2.2.2.1.symm.trans hcL)
  have eT : T0 = T := (nI_eq (by have := hN.2.1; omega) (by omega)).mp (hN.2.2.2.2.2.1.symm.trans hcT)
  subst eL eT
  have hmT : m 85 2 = nI T0 := hN.2.2.2.2.2.2.1
  have UT := hN.2.2.1
  have b1 : (80 : Int32) + ((6 : Int32) * nI T0) = nI (80 + 6 * T0) := kp_ix2 80 6 T0
  have b2 : ∀ n : Nat, nI (80 + 6 * T0) + nI n = nI (80 + n + 6 * T0) := fun n => by rw [nI_add]; congr 1; omega
  have b21 : nI (80 + 6 * T0) + (1 : Int32) = nI (81 + 6 * T0) := b2 1
  have b22 : nI (80 + 6 * T0) + (2 : Int32) = nI (82 + 6 * T0) := b2 2
  have b23 : nI (80 + 6 * T0) + (3 : Int32) = nI (83 + 6 * T0) := b2 3
  have b24 : nI (80 + 6 * T0) + (4 : Int32) = nI (84 + 6 * T0) := b2 4
  have b25 : nI (80 + 6 * T0) + (5 : Int32) = nI (85 + 6 * T0) := b2 5
  unfold fx_Weighings_add fx_D_tells
  simp only [kp_let, hcT, hmT, b1, b21, b22, b23, b24, b25, kp_gd _ (kp_in_nI hT20 (show 20 < 2 ^ 31 by omega)), nI_clamp (show T0 < 2 ^ 31 by omega), kp_gd _ (kp_in_nI (show 80 + 6 * T0 < 444 by omega) (by omega)), nI_clamp (show 80 + 6 * T0 < 2 ^ 31 by omega), kp_gd _ (kp_in_nI (show 81 + 6 * T0 < 444 by omega) (by omega)), nI_clamp (show 81 + 6 * T0 < 2 ^ 31 by omega), kp_gd _ (kp_in_nI (show 82 + 6 * T0 < 444 by omega) (by omega)), nI_clamp (show 82 + 6 * T0 < 2 ^ 31 by omega), kp_gd _ (kp_in_nI (show 83 + 6 * T0 < 444 by omega) (by omega)), nI_clamp (show 83 + 6 * T0 < 2 ^ 31 by omega), kp_gd _ (kp_in_nI (show 84 + 6 * T0 < 444 by omega) (by omega)), nI_clamp (show 84 + 6 * T0 < 2 ^ 31 by omega), kp_gd _ (kp_in_nI (show 85 + 6 * T0 < 444 by omega) (by omega)), nI_clamp (show 85 + 6 * T0 < 2 ^ 31 by omega), kp_vnar0]
  generalize hc1 : kv_st (kv_st (kv_st (kv_st (kv_st (kv_st c 11 T0 y) 12 T0 (nI a)) 13 T0 (nI b)) 14 T0 an) 15 T0 db) 16 T0 0 = c1
  generalize hm1 : kv_st (kv_st (kv_st (kv_st (kv_st (kv_st m 85 (80 + 6 * T0) y) 85 (81 + 6 * T0) (nI a)) 85 (82 + 6 * T0) (nI b)) 85 (83 + 6 * T0) an) 85 (84 + 6 * T0) db) 85 (85 + 6 * T0) 0 = m1
  have q1 : c1 10 7 = nI T0 := by rw [← hc1, kp_st_ne (by omega), kp_st_ne (by omega), kp_st_ne (by omega), kp_st_ne (by omega), kp_st_ne (by omega), kp_st_ne (by omega), hcT]
  have q2 : m1 85 2 = nI T0 := by rw [← hm1, kp_st, if_neg (by omega), kp_st, if_neg (by omega), kp_st, if_neg (by omega), kp_st, if_neg (by omega), kp_st, if_neg (by omega), kp_st, if_neg (by omega), hmT]
  rw [q1, q2, nI_1]
  generalize hc2 : kv_st c1 10 7 (nI (T0 + 1)) = c2
  generalize hm2 : kv_st m1 85 2 (nI (T0 + 1)) = m2
  have C : ∀ r j, c2 r j = if r = 10 ∧ j = 7 then nI (T0 + 1) else if r = 16 ∧ j = T0 then 0 else if r = 15 ∧ j = T0 then db else if r = 14 ∧ j = T0 then an else if r = 13 ∧ j = T0 then nI b else if r = 12 ∧ j = T0 then nI a else if r = 11 ∧ j = T0 then y else c r j := by
    intro r j
    rw [← hc2, kp_st, ← hc1, kp_st, kp_st, kp_st, kp_st, kp_st, kp_st]
  have M : ∀ r j, m2 r j = if r = 85 ∧ j = 2 then nI (T0 + 1) else if r = 85 ∧ j = 85 + 6 * T0 then 0 else if r = 85 ∧ j = 84 + 6 * T0 then db else if r = 85 ∧ j = 83 + 6 * T0 then an else if r = 85 ∧ j = 82 + 6 * T0 then nI b else if r = 85 ∧ j = 81 + 6 * T0 then nI a else if r = 85 ∧ j = 80 + 6 * T0 then y else m r j := by
    intro r j
    rw [← hm2, kp_st, ← hm1, kp_st, kp_st, kp_st, kp_st, kp_st, kp_st]
  have eo : ∀ q, q < 10 ∨ 16 < q → c2 q = c q := fun q hq => by
    funext j
    rw [C, if_neg (by omega), if_neg (by omega), if_neg (by omega), if_neg (by omega), if_neg (by omega), if_neg (by omega), if_neg (by omega)]
  have e10 : ∀ j, j ≠ 7 → c2 10 j = c 10 j := fun j hj => by
    rw [C, if_neg (by omega), if_neg (by omega), if_neg (by omega), if_neg (by omega), if_neg (by omega), if_neg (by omega), if_neg (by omega)]
  have e107 : c2 10 7 = nI (T0 + 1) := by rw [C, if_pos ⟨rfl, rfl⟩]
  have em : ∀ q, q ≠ 85 → m2 q = m q := fun q hq => by
    funext j
    rw [M, if_neg (by omega), if_neg (by omega), if_neg (by omega), if_neg (by omega), if_neg (by omega), if_neg (by omega), if_neg (by omega)]
  have es : ∀ n, n ≠ 2 → n < 80 + 6 * T0 ∨ 86 + 6 * T0 ≤ n → m2 85 n = m 85 n := fun n h0 h1 => by rw [M, if_neg (by omega), if_neg (by omega), if_neg (by omega), if_neg (by omega), if_neg (by omega), if_neg (by omega), if_neg (by omega)]
  have em2 : m2 85 2 = nI (T0 + 1) := by rw [M, if_pos ⟨rfl, rfl⟩]
  refine ⟨c2, m2, rfl, rfl, ?_, eo, e10, e107, em, es, em2⟩
  have ev : ∀ n, n < 9 ∨ 15 < n → i_v c2 1 n = i_v c 1 n := fun n h1 => eo _ (by omega)
  have rows : ∀ n w, 10 ≤ n → n ≤ 15 → w < T0 → i_v c2 1 n w = i_v c 1 n w := fun n w h1 h2 h3 => by
    show c2 (1 + n) w = c (1 + n) w
    rw [C, if_neg (by omega), if_neg (by omega), if_neg (by omega), if_neg (by omega), if_neg (by omega), if_neg (by omega), if_neg (by omega)]
  have hW2 : ∀ w, w < T0 + 1 → iW1 (i_v c2 1) (m2 85) (9999 + 100 * (k : Int)) L0 w := by
    intro w hw
    by_cases z : w = T0
    · subst z
      have k10 : i_v c2 1 10 w = y := by show c2 11 w = _; rw [C, if_neg (by omega), if_neg (by omega), if_neg (by omega), if_neg (by omega), if_neg (by omega), if_neg (by omega), if_pos ⟨rfl, rfl⟩]
      have k11 : i_v c2 1 11 w = nI a := by show c2 12 w = _; rw [C, if_neg (by omega), if_neg (by omega), if_neg (by omega), if_neg (by omega), if_neg (by omega), if_pos ⟨rfl, rfl⟩]
      have k12 : i_v c2 1 12 w = nI b := by show c2 13 w = _; rw [C, if_neg (by omega), if_neg (by omega), if_neg (by omega), if_neg (by omega), if_pos ⟨rfl, rfl⟩]
      have k13 : i_v c2 1 13 w = an := by show c2 14 w = _; rw [C, if_neg (by omega), if_neg (by omega), if_neg (by omega), if_pos ⟨rfl, rfl⟩]
      have k14 : i_v c2 1 14 w = db := by show c2 15 w = _; rw [C, if_neg (by omega), if_neg (by omega), if_pos ⟨rfl, rfl⟩]
      have k15 : i_v c2 1 15 w = 0 := by show c2 16 w = _; rw [C, if_neg (by omega), if_pos ⟨rfl, rfl⟩]
      have n0 : m2 85 (80 + 6 * w) = y := by rw [M, if_neg (by omega), if_neg (by omega), if_neg (by omega), if_neg (by omega), if_neg (by omega), if_neg (by omega), if_pos ⟨rfl, rfl⟩]
      have n1 : m2 85 (81 + 6 * w) = nI a := by rw [M, if_neg (by omega), if_neg (by omega), if_neg (by omega), if_neg (by omega), if_neg (by omega), if_pos ⟨rfl, rfl⟩]
      have n2 : m2 85 (82 + 6 * w) = nI b := by rw [M, if_neg (by omega), if_neg (by omega), if_neg (by omega), if_neg (by omega), if_pos ⟨rfl, rfl⟩]
      have n3 : m2 85 (83 + 6 * w) = an := by rw [M, if_neg (by omega), if_neg (by omega), if_neg (by omega), if_pos ⟨rfl, rfl⟩]
      have n4 : m2 85 (84 + 6 * w) = db := by rw [M, if_neg (by omega), if_neg (by omega), if_pos ⟨rfl, rfl⟩]
      have n5 : m2 85 (85 + 6 * w) = 0 := by rw [M, if_neg (by omega), if_pos ⟨rfl, rfl⟩]
      unfold iW1
      rw [k10, k11, k12, k13, k14, k15, n0, n1, n2, n3, n4, n5]
      exact ⟨rfl, rfl, rfl, rfl, rfl, rfl, hy, ⟨a, b, ha, hb, hab, rfl, rfl⟩, han, hdb, Or.inl rfl⟩
    · have hw3 : w < T0 := by omega
      exact fr_W1 (hW w hw3) (by omega) (Nat.le_refl L0) (rows 10 w (by omega) (by omega) hw3) (rows 11 w (by omega) (by omega) hw3) (rows 12 w (by omega) (by omega) hw3) (rows 13 w (by omega) (by omega) hw3) (rows 14 w (by omega) (by omega) hw3) (rows 15 w (by omega) (by omega) hw3) (fun j _ _ => es j (by omega) (by omega))
  have hN2 : iN (i_v c2 1) (m2 85) L0 (T0 + 1) U := ⟨hN.1, by omega, by omega, by rw [ev 1 (by omega)]; exact hN.2.2.2.1, by rw [es _ (by omega) (by omega)]; exact hN.2.2.2.2.1, e107, em2, by show c2 10 8 = _; rw [e10 8 (by omega)]; exact hN.2.2.2.2.2.2.2.1, by rw [es _ (by omega) (by omega)]; exact hN.2.2.2.2.2.2.2.2⟩
  have hG2 : iG (i_v c2 1) (m2 85) := by
    unfold iG at hG ⊢
    rw [ev 0 (by omega), es 0 (by omega) (by omega), es 4 (by omega) (by omega), es 5 (by omega) (by omega), es 6 (by omega) (by omega)]
    exact hG
  exact fr_stateK h (Nat.le_refl _) ⟨L0, T0 + 1, U, hN2, hG2, fun l hl => fr_L1 (hL l hl) (by omega) (by rw [ev 0 (by omega)]) (by rw [ev 2 (by omega)]) (by rw [ev 3 (by omega)]) (by rw [ev 4 (by omega)]) (by rw [ev 5 (by omega)]) (by rw [ev 6 (by omega)]) (by rw [ev 7 (by omega)]) (fun j _ _ => es j (by omega) (by omega)), fr_P hP (fun l _ => by rw [ev 2 (by omega)]), fr_A hA (ev 8 (by omega)) (ev 24 (by omega)) (fun j _ _ => es j (by omega) (by omega)), hW2, fun q hq => by rw [es _ (by omega) (by omega), ev 16 (by omega)]; exact hT q hq, fr_X hX (ev 17 (by omega)) (ev 18 (by omega)) (es _ (by omega) (by omega)) (es _ (by omega) (by omega)) (fun j _ _ => es j (by omega) (by omega)), fun q2 hh2 => fr_C1 hh2 (hC q2 hh2) (ev 20 (by omega)) (ev 21 (by omega)) (ev 22 (by omega)) (ev 23 (by omega)) (fun j _ _ => es j (by omega) (by omega))⟩ (eo 0 (by omega)) (fun r _ _ => eo r (by omega)) (fun r _ _ => em r (by omega)) (em 84 (by omega)) (fun w hw => ⟨by
    rw [C, if_neg (by omega)]
    by_cases z : (16 : Nat) = 16 ∧ w = T0
    · rw [if_pos z]; exact Or.inl rfl
    · rw [if_neg z, if_neg (by omega), if_neg (by omega), if_neg (by omega), if_neg (by omega), if_neg (by omega)]
      exact (h.2.2.2.2.2.2 w hw).1, by rw [eo 41 (by omega)]; exact (h.2.2.2.2.2.2 w hw).2⟩)
/-- the prime was touched, on both sides -/
theorem wg_touch (h : Inv k c m) {L T U l : Nat} (hcL : c 2 7 = nI L) (hcT : c 10 7 = nI T) (hcU : c 10 8 = nI U) (hL10 : L ≤ 10) (hT20 : T ≤ 20) (hUT : U < T) (hl : l < L) : Inv (k + 1) (kv_st (kv_st (kv_st c 17 U (c 1 5)) 10 8 (nI (U + 1))) 6 l (c 6 l - 1)) (kv_st (kv_st (kv_st m 85 (13 + 6 * l) (c 6 l - 1)) 85 (200 + U) (c 1 5)) 85 3 (nI (U + 1))) ∧ m 85 3 = nI U ∧ m 85 0 = c 1 5 ∧ m 85 (13 + 6 * l) = c 6 l := by
  obtain ⟨L0, T0, U0, hN, hG, hL, hP, hA, hW, hT, hX, hC⟩ := h.1
  have eL : L0 = L := (nI_eq (by have := hN.1; omega) (by omega)).mp (hN.2.2.2.1.symm.trans hcL)
  have eT : T0 = T := (nI_eq (by have := hN.2.1; omega) (by omega)).mp (hN.2.2.2.2.2.1.symm.trans hcT)
  have eU : U0 = U := (nI_eq (by have := hN.2.1; have := hN.2.2.1; omega) (by omega)).mp (hN.2.2.2.2.2.2.2.1.symm.trans hcU)
  subst eL eT eU
  refine ⟨?_, hN.2.2.2.2.2.2.2.2, hG.2.2.1, (hL l hl).2.2.2.1⟩
  generalize hc2 : kv_st (kv_st (kv_st c 17 U0 (c 1 5)) 10 8 (nI (U0 + 1))) 6 l (c 6 l - 1) = c2
  generalize hm2 : kv_st (kv_st (kv_st m 85 (13 + 6 * l) (c 6 l - 1)) 85 (200 + U0) (c 1 5)) 85 3 (nI (U0 + 1)) = m2
  have C : ∀ r j, c2 r j = if r = 6 ∧ j = l then c 6 l - 1 else if r = 10 ∧ j = 8 then nI (U0 + 1) else if r = 17 ∧ j = U0 then c 1 5 else c r j := by
    intro r j
    rw [← hc2, kp_st, kp_st, kp_st]
  have M : ∀ r j, m2 r j = if r = 85 ∧ j = 3 then nI (U0 + 1) else if r = 85 ∧ j = 200 + U0 then c 1 5 else if r = 85 ∧ j = 13 + 6 * l then c 6 l - 1 else m r j := by
    intro r j
    rw [← hm2, kp_st, kp_st, kp_st]
  have ev : ∀ n, n ≠ 5 → n ≠ 9 → n ≠ 16 → i_v c2 1 n = i_v c 1 n := fun n h1 h2 h3 => by
    funext j
    show c2 (1 + n) j = c (1 + n) j
    rw [C, if_neg (by omega), if_neg (by omega), if_neg (by omega)]
  have es : ∀ n, n ≠ 3 → n ≠ 200 + U0 → n ≠ 13 + 6 * l → m2 85 n = m 85 n := fun n h0 h1 h2 => by rw [M, if_neg (by omega), if_neg (by omega), if_neg (by omega)]
  have evr : ∀ r, r ≠ 6 → r ≠ 10 → r ≠ 17 → c2 r = c r := fun r h1 h2 h3 => by
    funext j
    rw [C, if_neg (by omega), if_neg (by omega), if_neg (by omega)]
  have em : ∀ q, q ≠ 85 → m2 q = m q := fun q hq => by
    funext j
    rw [M, if_neg (by omega), if_neg (by omega), if_neg (by omega)]
  have hL2 : ∀ l2, l2 < L0 → iL1 (i_v c2 1) (m2 85) (9999 + 100 * ((k + 1 : Nat) : Int)) l2 := by
    intro l2 hl2
    by_cases z : l2 = l
    · subst z
      obtain ⟨r0, r1, r2, r3, r4, r5, r6, r7, r8, r9, r10, r11⟩ := hL l2 hl
      have k5 : i_v c2 1 5 l2 = c 6 l2 - 1 := by show c2 6 l2 = _; rw [C, if_pos ⟨rfl, rfl⟩]
      have g0 : 0 ≤ (c 1 5).toInt := hG.1
      have g1 : (c 1 5).toInt ≤ 140 := hG.2.1
      have r9 : -(9999 + 100 * (k : Int) + 60 * (c 1 5).toInt) ≤ (c 6 l2).toInt ∧ (c 6 l2).toInt ≤ 9999 + 100 * (k : Int) + 60 * (c 1 5).toInt := r9
      have hr := kp_rng (c 6 l2)
      have r10' : (0 ≤ (i_v c 1 7 l2).toInt ∧ (i_v c 1 7 l2).toInt ≤ 9999 + 100 * (k : Int)) := r10
      unfold iL1
      rw [ev 0 (by omega) (by omega) (by omega), ev 2 (by omega) (by omega) (by omega), ev 3 (by omega) (by omega) (by omega), ev 4 (by omega) (by omega) (by omega), ev 6 (by omega) (by omega) (by omega), ev 7 (by omega) (by omega) (by omega), k5, es _ (by omega) (by omega) (by omega), es (11 + 6 * l2) (by omega) (by omega) (by omega), es (12 + 6 * l2) (by omega) (by omega) (by omega), es (14 + 6 * l2) (by omega) (by omega) (by omega), es (15 + 6 * l2) (by omega) (by omega) (by omega)]
      refine ⟨r0, r1, r2, by rw [M, if_neg (by omega), if_neg (by omega), if_pos ⟨rfl, rfl⟩], r4, r5, r6, r7, r8, ?_, ⟨r10'.1, by omega⟩, r11⟩
      have k5n : -2000000 ≤ (c 6 l2).toInt ∨ (c 6 l2).toInt < -2000000 := by omega
      show -(9999 + 100 * ((k + 1 : Nat) : Int) + 60 * (c 1 5).toInt) ≤ (c 6 l2 - 1).toInt ∧ (c 6 l2 - 1).toInt ≤ 9999 + 100 * ((k + 1 : Nat) : Int) + 60 * (c 1 5).toInt
      by_cases zz : (c 6 l2).toInt = -2147483648
      · have : (c 6 l2 - 1).toInt = 2147483647 := by
          have e : c 6 l2 = -2147483648 := by rw [kp_eq, zz]; decide
          rw [e]; decide
        rw [this]
        exact ⟨by omega, by omega⟩
      · rw [kp_sub (by rw [ki_1]; omega) (by rw [ki_1]; omega), ki_1]
        exact ⟨by omega, by omega⟩
    · refine fr_L1 (hL l2 hl2) (by omega) (by rw [ev 0 (by omega) (by omega) (by omega)]) (by rw [ev 2 (by omega) (by omega) (by omega)]) (by rw [ev 3 (by omega) (by omega) (by omega)]) (by rw [ev 4 (by omega) (by omega) (by omega)]) ?_ (by rw [ev 6 (by omega) (by omega) (by omega)]) (by rw [ev 7 (by omega) (by omega) (by omega)]) (fun j _ _ => es j (by omega) (by omega) (by omega))
      show c2 6 l2 = c 6 l2
      rw [C, if_neg (by omega), if_neg (by omega), if_neg (by omega)]
  have hN2 : iN (i_v c2 1) (m2 85) L0 T0 (U0 + 1) := ⟨hN.1, hN.2.1, by omega, by rw [ev 1 (by omega) (by omega) (by omega)]; exact hN.2.2.2.1, by rw [es _ (by omega) (by omega) (by omega)]; exact hN.2.2.2.2.1, by show c2 10 7 = _; rw [C, if_neg (by omega), if_neg (by omega), if_neg (by omega)]; exact hcT, by rw [es _ (by omega) (by omega) (by omega)]; exact hN.2.2.2.2.2.2.1, by show c2 10 8 = _; rw [C, if_neg (by omega), if_pos ⟨rfl, rfl⟩], by rw [M, if_pos ⟨rfl, rfl⟩]⟩
  have hG2 : iG (i_v c2 1) (m2 85) := by
    unfold iG at hG ⊢
    rw [ev 0 (by omega) (by omega) (by omega), es 0 (by omega) (by omega) (by omega), es 4 (by omega) (by omega) (by omega), es 5 (by omega) (by omega) (by omega), es 6 (by omega) (by omega) (by omega)]
    exact hG
  have hT2 : ∀ q, q < U0 + 1 → m2 85 (200 + q) = i_v c2 1 16 q := by
    intro q hq
    show m2 85 (200 + q) = c2 17 q
    have e1 : m2 85 (200 + q) = if q = U0 then c 1 5 else m 85 (200 + q) := by
      rw [M, if_neg (by omega)]
      by_cases z : q = U0
      · rw [if_pos ⟨rfl, by omega⟩, if_pos z]
      · rw [if_neg (by omega), if_neg (by omega), if_neg z]
    have e2 : c2 17 q = if q = U0 then c 1 5 else c 17 q := by
      rw [C, if_neg (by omega), if_neg (by omega)]
      by_cases z : q = U0
      · rw [if_pos ⟨rfl, z⟩, if_pos z]
      · rw [if_neg (by omega), if_neg z]
    rw [e1, e2]
    by_cases z : q = U0
    · rw [if_pos z, if_pos z]
    · rw [if_neg z, if_neg z]
      exact hT q (by omega)
  refine fr_stateK h (Nat.le_succ _) ⟨L0, T0, U0 + 1, hN2, hG2, hL2, fr_P hP (fun l2 _ => by rw [ev 2 (by omega) (by omega) (by omega)]), fr_A hA (ev 8 (by omega) (by omega) (by omega)) (ev 24 (by omega) (by omega) (by omega)) (fun j _ _ => es j (by omega) (by omega) (by omega)), fun w hw => fr_W1 (hW w hw) (by omega) (Nat.le_refl L0) (by rw [ev 10 (by omega) (by omega) (by omega)]) (by rw [ev 11 (by omega) (by omega) (by omega)]) (by rw [ev 12 (by omega) (by omega) (by omega)]) (by rw [ev 13 (by omega) (by omega) (by omega)]) (by rw [ev 14 (by omega) (by omega) (by omega)]) (by rw [ev 15 (by omega) (by omega) (by omega)]) (fun j _ _ => es j (by omega) (by omega) (by omega)), hT2, fr_X hX (ev 17 (by omega) (by omega) (by omega)) (ev 18 (by omega) (by omega) (by omega)) (es _ (by omega) (by omega) (by omega)) (es _ (by omega) (by omega) (by omega)) (fun j _ _ => es j (by omega) (by omega) (by omega)), fun q2 hh2 => fr_C1 hh2 (hC q2 hh2) (ev 20 (by omega) (by omega) (by omega)) (ev 21 (by omega) (by omega) (by omega)) (ev 22 (by omega) (by omega) (by omega)) (ev 23 (by omega) (by omega) (by omega)) (fun j _ _ => es j (by omega) (by omega) (by omega))⟩ (evr 0 (by omega) (by omega) (by omega)) (fun r _ _ => evr r (by omega) (by omega) (by omega)) (fun r _ _ => em r (by omega)) (em 84 (by omega)) (fun w hw => ⟨by rw [evr 16 (by omega) (by omega) (by omega)]; exact (h.2.2.2.2.2.2 w hw).1, by rw [evr 41 (by omega) (by omega) (by omega)]; exact (h.2.2.2.2.2.2 w hw).2⟩)
end WG
