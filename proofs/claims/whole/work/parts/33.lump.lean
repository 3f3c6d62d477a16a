/-! ===== lump ===== -/
section OL
variable {k : Nat} {c m : Nat → Nat → Int32}
theorem h_addLump (h : Inv k c m) {kd ld : Nat} (hkd : kd ≤ 7) (hld : ld ≤ 5) {p rt wt : Int32} (hp : p - p / 10 * 10 = nI ld) (hrt : -9 ≤ rt.toInt ∧ rt.toInt ≤ 9) (hwt : -9999 ≤ wt.toInt ∧ wt.toInt ≤ 9999) {L : Nat} (hL9 : L < 10) (hcL : c 2 7 = nI L) (hmL : m 85 1 = nI L) (hpr : kd = 1 → ∀ l, l < L → c 3 l ≠ 1) : ∃ r c2 m2, fj_K_lump_97 (nI kd) (nI ld) rt wt c = some (r, c2) ∧ fj_D_lump_86 m (nI kd) p rt wt = some (r, m2) ∧ Inv (k + 1) c2 m2 := by
  have hh := h
  obtain ⟨L0, T, U, hN, hG, hL, hP, hA, hW, hT, hX, hC⟩ := h.1
  have hLL : L0 = L := by
    have e : nI L0 = nI L := hN.2.2.2.1.symm.trans hcL
    exact (nI_eq (by have := hN.1; omega) (by omega)).mp e
  subst hLL
  have T20 := hN.2.1
  have UT := hN.2.2.1
  have b1 : (10 : Int32) + ((6 : Int32) * nI L0) = nI (10 + 6 * L0) := kp_ix2 10 6 L0
  have b2 : ∀ n : Nat, nI (10 + 6 * L0) + nI n = nI (10 + n + 6 * L0) := fun n => by rw [nI_add]; congr 1; omega
  have b21 : nI (10 + 6 * L0) + (1 : Int32) = nI (11 + 6 * L0) := b2 1
  have b22 : nI (10 + 6 * L0) + (2 : Int32) = nI (12 + 6 * L0) := b2 2
  have b23 : nI (10 + 6 * L0) + (3 : Int32) = nI (13 + 6 * L0) := b2 3
  have b24 : nI (10 + 6 * L0) + (4 : Int32) = nI (14 + 6 * L0) := b2 4
  have b25 : nI (10 + 6 * L0) + (5 : Int32) = nI (15 + 6 * L0) := b2 5
  unfold fj_K_lump_97 fj_D_lump_86 fx_Lumps_add
  simp only [kp_let, hcL, hmL, b1, b21, b22, b23, b24, b25, hp, kp_gd _ (kp_in_nI hL9 (show 10 < 2 ^ 31 by omega)), nI_clamp (show L0 < 2 ^ 31 by omega), kp_gd _ (kp_in_nI (show 10 + 6 * L0 < 444 by omega) (by omega)), nI_clamp (show 10 + 6 * L0 < 2 ^ 31 by omega), kp_gd _ (kp_in_nI (show 11 + 6 * L0 < 444 by omega) (by omega)), nI_clamp (show 11 + 6 * L0 < 2 ^ 31 by omega), kp_gd _ (kp_in_nI (show 12 + 6 * L0 < 444 by omega) (by omega)), nI_clamp (show 12 + 6 * L0 < 2 ^ 31 by omega), kp_gd _ (kp_in_nI (show 13 + 6 * L0 < 444 by omega) (by omega)), nI_clamp (show 13 + 6 * L0 < 2 ^ 31 by omega), kp_gd _ (kp_in_nI (show 14 + 6 * L0 < 444 by omega) (by omega)), nI_clamp (show 14 + 6 * L0 < 2 ^ 31 by omega), kp_gd _ (kp_in_nI (show 15 + 6 * L0 < 444 by omega) (by omega)), nI_clamp (show 15 + 6 * L0 < 2 ^ 31 by omega), kp_b2]
  generalize hc1 : kv_st (kv_st (kv_st (kv_st (kv_st c 3 L0 (nI kd)) 4 L0 (nI ld)) 5 L0 rt) 6 L0 wt) 8 L0 0 = c1
  generalize hm1 : kv_st (kv_st (kv_st (kv_st (kv_st (kv_st m 85 (10 + 6 * L0) (nI kd)) 85 (11 + 6 * L0) (nI ld)) 85 (12 + 6 * L0) rt) 85 (13 + 6 * L0) wt) 85 (14 + 6 * L0) 0) 85 (15 + 6 * L0) 0 = m1
  have q1 : c1 2 7 = nI L0 := by rw [← hc1, kp_st_ne (by omega), kp_st_ne (by omega), kp_st_ne (by omega), kp_st_ne (by omega), kp_st_ne (by omega), hcL]
  have q2 : m1 85 1 = nI L0 := by rw [← hm1, kp_st, if_neg (by omega), kp_st, if_neg (by omega), kp_st, if_neg (by omega), kp_st, if_neg (by omega), kp_st, if_neg (by omega), kp_st, if_neg (by omega), hmL]
  rw [q1, q2, nI_1]
  generalize hc2 : kv_st c1 2 7 (nI (L0 + 1)) = c2
  generalize hm2 : kv_st m1 85 1 (nI (L0 + 1)) = m2
  have C : ∀ r j, c2 r j = if r = 2 ∧ j = 7 then nI (L0 + 1) else if r = 8 ∧ j = L0 then 0 else if r = 6 ∧ j = L0 then wt else if r = 5 ∧ j = L0 then rt else if r = 4 ∧ j = L0 then nI ld else if r = 3 ∧ j = L0 then nI kd else c r j := by
    intro r j
    rw [← hc2, kp_st, ← hc1, kp_st, kp_st, kp_st, kp_st, kp_st]
  have M : ∀ r j, m2 r j = if r = 85 ∧ j = 1 then nI (L0 + 1) else if r = 85 ∧ j = 15 + 6 * L0 then 0 else if r = 85 ∧ j = 14 + 6 * L0 then 0 else if r = 85 ∧ j = 13 + 6 * L0 then wt else if r = 85 ∧ j = 12 + 6 * L0 then rt else if r = 85 ∧ j = 11 + 6 * L0 then nI ld else if r = 85 ∧ j = 10 + 6 * L0 then nI kd else m r j := by
    intro r j
    rw [← hm2, kp_st, ← hm1, kp_st, kp_st, kp_st, kp_st, kp_st, kp_st]
  have q3 : m2 85 1 - 1 = nI L0 := by rw [M, if_pos ⟨rfl, rfl⟩]; exact nI_pred L0
  refine ⟨nI L0, c2, m2, rfl, by rw [q3], ?_⟩
  have ev : ∀ n, n = 0 ∨ n = 6 ∨ 8 ≤ n → i_v c2 1 n = i_v c 1 n := fun n h1 => by
    funext j
    show c2 (1 + n) j = c (1 + n) j
    rw [C, if_neg (by omega), if_neg (by omega), if_neg (by omega), if_neg (by omega), if_neg (by omega), if_neg (by omega)]
  have es : ∀ n, n ≠ 1 → n < 10 + 6 * L0 ∨ 16 + 6 * L0 ≤ n → m2 85 n = m 85 n := fun n h0 h1 => by rw [M, if_neg (by omega), if_neg (by omega), if_neg (by omega), if_neg (by omega), if_neg (by omega), if_neg (by omega), if_neg (by omega)]
  have e17 : i_v c2 1 1 7 = nI (L0 + 1) := by show c2 2 7 = _; rw [C, if_pos ⟨rfl, rfl⟩]
  have rows : ∀ n l2, 2 ≤ n → n ≤ 7 → l2 < L0 → i_v c2 1 n l2 = i_v c 1 n l2 := fun n l2 h1 h2 h3 => by
    show c2 (1 + n) l2 = c (1 + n) l2
    rw [C, if_neg (by omega), if_neg (by omega), if_neg (by omega), if_neg (by omega), if_neg (by omega), if_neg (by omega)]
  have k2 : i_v c2 1 2 L0 = nI kd := by show c2 3 L0 = _; rw [C, if_neg (by omega), if_neg (by omega), if_neg (by omega), if_neg (by omega), if_neg (by omega), if_pos ⟨rfl, rfl⟩]
  have hL2 : ∀ l2, l2 < L0 + 1 → iL1 (i_v c2 1) (m2 85) (9999 + 100 * ((k + 1 : Nat) : Int)) l2 := by
    intro l2 hl2
    by_cases z : l2 = L0
    · subst z
      have k3 : i_v c2 1 3 l2 = nI ld := by show c2 4 l2 = _; rw [C, if_neg (by omega), if_neg (by omega), if_neg (by omega), if_neg (by omega), if_pos ⟨rfl, rfl⟩]
      have k4 : i_v c2 1 4 l2 = rt := by show c2 5 l2 = _; rw [C, if_neg (by omega), if_neg (by omega), if_neg (by omega), if_pos ⟨rfl, rfl⟩]
      have k5 : i_v c2 1 5 l2 = wt := by show c2 6 l2 = _; rw [C, if_neg (by omega), if_neg (by omega), if_pos ⟨rfl, rfl⟩]
      have k7 : i_v c2 1 7 l2 = 0 := by show c2 8 l2 = _; rw [C, if_neg (by omega), if_pos ⟨rfl, rfl⟩]
      have n0 : m2 85 (10 + 6 * l2) = nI kd := by rw [M, if_neg (by omega), if_neg (by omega), if_neg (by omega), if_neg (by omega), if_neg (by omega), if_neg (by omega), if_pos ⟨rfl, rfl⟩]
      have n1 : m2 85 (11 + 6 * l2) = nI ld := by rw [M, if_neg (by omega), if_neg (by omega), if_neg (by omega), if_neg (by omega), if_neg (by omega), if_pos ⟨rfl, rfl⟩]
      have n2 : m2 85 (12 + 6 * l2) = rt := by rw [M, if_neg (by omega), if_neg (by omega), if_neg (by omega), if_neg (by omega), if_pos ⟨rfl, rfl⟩]
      have n3 : m2 85 (13 + 6 * l2) = wt := by rw [M, if_neg (by omega), if_neg (by omega), if_neg (by omega), if_pos ⟨rfl, rfl⟩]
      have n4 : m2 85 (14 + 6 * l2) = 0 := by rw [M, if_neg (by omega), if_neg (by omega), if_pos ⟨rfl, rfl⟩]
      have n5 : m2 85 (15 + 6 * l2) = 0 := by rw [M, if_neg (by omega), if_pos ⟨rfl, rfl⟩]
      have g1 : 0 ≤ (i_v c 1 0 5).toInt := hG.1
      unfold iL1
      rw [k2, k3, k4, k5, k7, n0, n1, n2, n3, n4, n5, ev 0 (by omega), nI_toInt (show kd < 2 ^ 31 by omega), nI_toInt (show ld < 2 ^ 31 by omega), ki_0]
      exact ⟨rfl, rfl, rfl, rfl, by rw [if_pos rfl], rfl, ⟨by omega, by omega⟩, ⟨by omega, by omega⟩, hrt, ⟨by omega, by omega⟩, ⟨by omega, by omega⟩, fun q => absurd rfl q⟩
    · have hl3 : l2 < L0 := by omega
      exact fr_L1 (hL l2 hl3) (by omega) (by rw [ev 0 (by omega)]) (rows 2 l2 (by omega) (by omega) hl3) (rows 3 l2 (by omega) (by omega) hl3) (rows 4 l2 (by omega) (by omega) hl3) (rows 5 l2 (by omega) (by omega) hl3) (rows 6 l2 (by omega) (by omega) hl3) (rows 7 l2 (by omega) (by omega) hl3) (fun j _ _ => es j (by omega) (by omega))
  have hP2 : iP (i_v c2 1) (L0 + 1) := by
    intro l l2 h1 h2 q1 q2
    by_cases z1 : l = L0
    · by_cases z2 : l2 = L0
      · omega
      · rw [z1, k2] at q1
        have : kd = 1 := (nI_eq (a := kd) (b := 1) (by omega) (by omega)).mp q1
        rw [rows 2 l2 (by omega) (by omega) (by omega)] at q2
        exact absurd q2 (hpr this l2 (by omega))
    · by_cases z2 : l2 = L0
      · rw [z2, k2] at q2
        have : kd = 1 := (nI_eq (a := kd) (b := 1) (by omega) (by omega)).mp q2
        rw [rows 2 l (by omega) (by omega) (by omega)] at q1
        exact absurd q1 (hpr this l (by omega))
      · rw [rows 2 l (by omega) (by omega) (by omega)] at q1
        rw [rows 2 l2 (by omega) (by omega) (by omega)] at q2
        exact hP l l2 (by omega) (by omega) q1 q2
  have hN2 : iN (i_v c2 1) (m2 85) (L0 + 1) T U := ⟨by omega, hN.2.1, hN.2.2.1, e17, by rw [M, if_pos ⟨rfl, rfl⟩], by rw [ev 9 (by omega)]; exact hN.2.2.2.2.2.1, by rw [es _ (by omega) (by omega)]; exact hN.2.2.2.2.2.2.1, by rw [ev 9 (by omega)]; exact hN.2.2.2.2.2.2.2.1, by rw [es _ (by omega) (by omega)]; exact hN.2.2.2.2.2.2.2.2⟩
  have hG2 : iG (i_v c2 1) (m2 85) := by
    unfold iG at hG ⊢
    rw [ev 0 (by omega), es 0 (by omega) (by omega), es 4 (by omega) (by omega), es 5 (by omega) (by omega), es 6 (by omega) (by omega)]
    exact hG
  exact fr_state h ⟨L0 + 1, T, U, hN2, hG2, hL2, hP2, fr_A hA (ev 8 (by omega)) (ev 24 (by omega)) (fun j _ _ => es j (by omega) (by omega)), fun w2 hw2 => fr_W1 (hW w2 hw2) (by omega) (Nat.le_succ L0) (by rw [ev 10 (by omega)]) (by rw [ev 11 (by omega)]) (by rw [ev 12 (by omega)]) (by rw [ev 13 (by omega)]) (by rw [ev 14 (by omega)]) (by rw [ev 15 (by omega)]) (fun j _ _ => es j (by omega) (by omega)), fun q2 hq2 => by rw [es _ (by omega) (by omega), ev 16 (by omega)]; exact hT q2 hq2, fr_X hX (ev 17 (by omega)) (ev 18 (by omega)) (es _ (by omega) (by omega)) (es _ (by omega) (by omega)) (fun j _ _ => es j (by omega) (by omega)), fun q2 hh2 => fr_C1 hh2 (hC q2 hh2) (ev 20 (by omega)) (ev 21 (by omega)) (ev 22 (by omega)) (ev 23 (by omega)) (fun j _ _ => es j (by omega) (by omega))⟩ (by funext j; rw [C, if_neg (by omega), if_neg (by omega), if_neg (by omega), if_neg (by omega), if_neg (by omega), if_neg (by omega)]) (fun r _ _ => by funext j; rw [C, if_neg (by omega), if_neg (by omega), if_neg (by omega), if_neg (by omega), if_neg (by omega), if_neg (by omega)]) (fun r _ _ => by funext j; rw [M, if_neg (by omega), if_neg (by omega), if_neg (by omega), if_neg (by omega), if_neg (by omega), if_neg (by omega), if_neg (by omega)]) (by funext j; rw [M, if_neg (by omega), if_neg (by omega), if_neg (by omega), if_neg (by omega), if_neg (by omega), if_neg (by omega), if_neg (by omega)]) (by funext j; rw [C, if_neg (by omega), if_neg (by omega), if_neg (by omega), if_neg (by omega), if_neg (by omega), if_neg (by omega)])
theorem op_lump (h : Inv k c m) (p rt wt : Int32) : ∃ r c2 m2, fx_K_lump p rt wt c = some (r, c2) ∧ fx_D_lump p rt wt m = some (r, m2) ∧ Inv (k + 1) c2 m2 := by
  have no : ∃ r c2 m2, some ((-1 : Int32), c) = some (r, c2) ∧ some ((-1 : Int32), m) = some (r, m2) ∧ Inv (k + 1) c2 m2 := ⟨_, _, _, rfl, rfl, fr_same h⟩
  obtain ⟨L, T, U, hN, hG, hL, hP, hA, hW, hT, hX, hC⟩ := h.1
  have L10 := hN.1
  have T20 := hN.2.1
  have UT := hN.2.2.1
  unfold fx_K_lump fx_D_lump
  simp only [kp_let]
  rw [sx_isWithin, sx_isWithin, sx_isInL p 0 79 (by decide) (by decide), sx_isInL rt (-9) 9 (by decide) (by decide), sx_isInL wt (-9999) 9999 (by decide) (by decide), ki_m9, ki_9, ki_m9999, ki_9999]
  simp only [kp_b1]
  by_cases z0 : p < 0
  · rw [if_pos z0]
    rw [kp_lt, ki_0] at z0
    rw [decide_eq_false (show ¬ (0 ≤ p.toInt ∧ p.toInt ≤ 79) by omega)]
    exact no
  rw [if_neg z0]
  rw [kp_lt, ki_0] at z0
  obtain ⟨n, rfl, e1, e2⟩ := kp_nat (show 0 ≤ p.toInt by omega)
  have d1 : nI n / (10 : Int32) = nI (n / 10) := pk_div (d := 10) e2 (by omega) (by omega)
  have d2 : nI n - nI n / (10 : Int32) * (10 : Int32) = nI (n % 10) := pk_rem (d := 10) e2 (by omega) (by omega)
  rw [d2, d1]
  have c7 : ((7 : Int32) < nI (n / 10)) ↔ 7 < n / 10 := nI_ltI (a := 7) (by omega) (by omega)
  have c6 : (nI (n % 10) < (6 : Int32)) ↔ n % 10 < 6 := nI_ltI (b := 6) (by omega) (by omega)
  have c5 : ((5 : Int32) < nI (n % 10)) ↔ 5 < n % 10 := nI_ltI (a := 5) (by omega) (by omega)
  simp only [c7, c6, c5]
  by_cases z1 : 7 < n / 10
  · rw [if_pos z1, decide_eq_false (show ¬ (0 ≤ (nI n).toInt ∧ (nI n).toInt ≤ 79) by omega)]
    exact no
  rw [if_neg z1, decide_eq_true (show 0 ≤ (nI n).toInt ∧ (nI n).toInt ≤ 79 by omega), if_pos rfl]
  by_cases z2 : n % 10 < 6
  rotate_left
  · rw [if_neg z2, if_pos (show 5 < n % 10 by omega)]
    exact no
  rw [if_pos z2, if_neg (show ¬ 5 < n % 10 by omega)]
  by_cases z3 : -9 ≤ rt.toInt ∧ rt.toInt ≤ 9
  rotate_left
  · rw [decide_eq_false z3]; exact no
  rw [decide_eq_true z3]
  simp only [if_true]
  by_cases z4 : -9999 ≤ wt.toInt ∧ wt.toInt ≤ 9999
  rotate_left
  · rw [decide_eq_false z4]; exact no
  rw [decide_eq_true z4]
  simp only [if_true]
  have hcL : c 2 7 = nI L := hN.2.2.2.1
  have hmL : m 85 1 = nI L := hN.2.2.2.2.1
  rw [hcL, hmL]
  have c10 : (nI L < (10 : Int32)) ↔ L < 10 := nI_ltI (b := 10) (by omega) (by omega)
  have c11 : (nI L = (10 : Int32)) ↔ L = 10 := nI_eq (b := 10) (by omega) (by omega)
  have c1 : (nI (n / 10) = (1 : Int32)) ↔ n / 10 = 1 := nI_eq (b := 1) (by omega) (by omega)
  simp only [c10, c11, c1]
  by_cases z5 : L < 10
  rotate_left
  · rw [if_neg z5, if_pos (show L = 10 by omega)]
    exact ⟨-2, c, m, rfl, rfl, fr_same h⟩
  rw [if_pos z5, if_neg (show ¬ L = 10 by omega)]
  by_cases z6 : n / 10 = 1
  · rw [if_pos z6, if_pos z6]
    rcases h_prime hcL hmL hN.1 (fun l hl => (hL l hl).1) with ⟨l, hl, -, f1, f2⟩ | ⟨f0, f1, f2⟩
    · rw [f1, f2, kp_b1, kp_b1, if_neg (nI_pos (by omega)), if_neg (nI_pos (by omega))]
      exact ⟨-3, c, m, rfl, rfl, fr_same h⟩
    · rw [f1, f2, kp_b1, kp_b1, if_pos (by decide), if_pos (by decide)]
      exact h_addLump h (by omega) (by omega) d2 z3 z4 z5 hcL hmL (fun _ => f0)
  · rw [if_neg z6, if_neg z6]
    exact h_addLump h (by omega) (by omega) d2 z3 z4 z5 hcL hmL (fun q => absurd q z6)
end OL
