/-! ===== image, restore ===== -/
theorem h_takeXI (c : Nat → Nat → Int32) {N : Nat} (hN : N ≤ 100) (x : Int32) : ∃ c2, fx_Law_write_43_19 (nI N) x c = some c2 ∧ ∀ q j, c2 q j = if q = 43 ∧ j = 2 then x else if q = 43 ∧ j = 1 then nI N else if q = 44 ∧ j < N then c 19 j else c q j := by
  unfold fx_Law_write_43_19
  rw [kp_gd _ (show kv_cp 0 0 (nI N) 100 100 = true by unfold kv_cp; rw [nI_toInt (by omega), nI_clamp (by omega), kp_c0]; simp; omega)]
  simp only [kp_let, kp_c0, nI_clamp (show N < 2 ^ 31 by omega)]
  refine ⟨_, rfl, fun q j => ?_⟩
  simp only [kp_st, kp_cp]
theorem h_takeI (c : Nat → Nat → Int32) (hB : ∀ w, w < 20 → c 16 w = 0 ∨ c 16 w = 1) {N : Nat} (hN : N ≤ 100) (hX : c 18 1 = nI N) : ∃ c2, fx_State_takeFrom c = some c2 ∧ (∀ q j, q < 26 ∨ 50 < q → c2 q j = c q j) ∧ (∀ j, 5 ≤ j → j ≤ 8 → c2 26 j = c 1 j) ∧ c2 27 7 = c 2 7 ∧ (∀ i j, 2 ≤ i → i ≤ 7 → j < 10 → c2 (26 + i) j = c (1 + i) j) ∧ (∀ j, j < 6 → c2 34 j = c 9 j) ∧ (c2 35 7 = c 10 7 ∧ c2 35 8 = c 10 8) ∧ (∀ i j, 10 ≤ i → i ≤ 16 → j < 20 → c2 (26 + i) j = c (1 + i) j) ∧ (c2 43 1 = c 18 1 ∧ c2 43 2 = c 18 2) ∧ (∀ j, j < N → c2 44 j = c 19 j) ∧ (∀ i j, 20 ≤ i → i ≤ 21 → j < 48 → c2 (26 + i) j = c (1 + i) j) ∧ (∀ i j, 22 ≤ i → i ≤ 24 → j < 4 → c2 (26 + i) j = c (1 + i) j) := by
  obtain ⟨c1, a1, b1⟩ := h_takeL c
  obtain ⟨c2, a2, b2⟩ := h_takeW c1 (fun w hw => by rw [b1, if_neg (by omega), if_neg (by omega), if_neg (by omega)]; exact hB w hw)
  have e1 : c2 18 1 = nI N := by rw [b2, if_neg (by omega), if_neg (by omega), if_neg (by omega), b1, if_neg (by omega), if_neg (by omega), if_neg (by omega)]; exact hX
  have e2 : c2 18 2 = c 18 2 := by rw [b2, if_neg (by omega), if_neg (by omega), if_neg (by omega), b1, if_neg (by omega), if_neg (by omega), if_neg (by omega)]
  obtain ⟨c3, a3, b3⟩ := h_takeXI c2 hN (c 18 2)
  obtain ⟨c4, a4, b4⟩ := h_takeC c3
  unfold fx_State_takeFrom
  rw [a1, kp_b1, a2, kp_b1, e1, e2, a3, kp_b1, a4, kp_b1]
  simp only [kp_let, kp_c0, kp_c4]
  refine ⟨_, rfl, ?_⟩
  have F : ∀ q j, kv_st (kv_st (kv_st (kv_st (va_up c4 50 (va_cpy (c4 25) (c4 50) 0 0 4)) 26 5 (va_up c4 50 (va_cpy (c4 25) (c4 50) 0 0 4) 1 5)) 26 6 (kv_st (va_up c4 50 (va_cpy (c4 25) (c4 50) 0 0 4)) 26 5 (va_up c4 50 (va_cpy (c4 25) (c4 50) 0 0 4) 1 5) 1 6)) 26 7 (kv_st (kv_st (va_up c4 50 (va_cpy (c4 25) (c4 50) 0 0 4)) 26 5 (va_up c4 50 (va_cpy (c4 25) (c4 50) 0 0 4) 1 5)) 26 6 (kv_st (va_up c4 50 (va_cpy (c4 25) (c4 50) 0 0 4)) 26 5 (va_up c4 50 (va_cpy (c4 25) (c4 50) 0 0 4) 1 5) 1 6) 1 7)) 26 8 (kv_st (kv_st (kv_st (va_up c4 50 (va_cpy (c4 25) (c4 50) 0 0 4)) 26 5 (va_up c4 50 (va_cpy (c4 25) (c4 50) 0 0 4) 1 5)) 26 6 (kv_st (va_up c4 50 (va_cpy (c4 25) (c4 50) 0 0 4)) 26 5 (va_up c4 50 (va_cpy (c4 25) (c4 50) 0 0 4) 1 5) 1 6)) 26 7 (kv_st (kv_st (va_up c4 50 (va_cpy (c4 25) (c4 50) 0 0 4)) 26 5 (va_up c4 50 (va_cpy (c4 25) (c4 50) 0 0 4) 1 5)) 26 6 (kv_st (va_up c4 50 (va_cpy (c4 25) (c4 50) 0 0 4)) 26 5 (va_up c4 50 (va_cpy (c4 25) (c4 50) 0 0 4) 1 5) 1 6) 1 7) 1 8) q j = (if q = 26 ∧ 5 ≤ j ∧ j ≤ 8 then c4 1 j else if q = 50 ∧ j < 4 then c4 25 j else c4 q j) := by
    intro q j
    simp only [kp_st, kp_cp]
    by_cases z : q = 26 ∧ 5 ≤ j ∧ j ≤ 8
    · rw [if_pos z]
      obtain ⟨rfl, z2, z3⟩ := z
      have : j = 5 ∨ j = 6 ∨ j = 7 ∨ j = 8 := by omega
      rcases this with rfl | rfl | rfl | rfl <;> simp
    · rw [if_neg z, if_neg (by omega), if_neg (by omega), if_neg (by omega), if_neg (by omega)]
  refine ⟨fun q j hq => ?_, fun j h1 h2 => ?_, ?_, fun i j h1 h2 h3 => ?_, fun j h1 => ?_, ⟨?_, ?_⟩, fun i j h1 h2 h3 => ?_, ⟨?_, ?_⟩, fun j h1 => ?_, fun i j h1 h2 h3 => ?_, fun i j h1 h2 h3 => ?_⟩
  · rw [F]; (repeat (first | rw [if_pos (by omega)] | rw [if_neg (by omega)])); (try rw [b4]); (repeat (first | rw [if_pos (by omega)] | rw [if_neg (by omega)])); (try rw [b3]); (repeat (first | rw [if_pos (by omega)] | rw [if_neg (by omega)])); (try rw [b2]); (repeat (first | rw [if_pos (by omega)] | rw [if_neg (by omega)])); (try rw [b1]); (repeat (first | rw [if_pos (by omega)] | rw [if_neg (by omega)])); first | done | (with_reducible rfl) | exact hX.symm | (congr 1; omega)
  · rw [F]; (repeat (first | rw [if_pos (by omega)] | rw [if_neg (by omega)])); (try rw [b4]); (repeat (first | rw [if_pos (by omega)] | rw [if_neg (by omega)])); (try rw [b3]); (repeat (first | rw [if_pos (by omega)] | rw [if_neg (by omega)])); (try rw [b2]); (repeat (first | rw [if_pos (by omega)] | rw [if_neg (by omega)])); (try rw [b1]); (repeat (first | rw [if_pos (by omega)] | rw [if_neg (by omega)])); first | done | (with_reducible rfl) | exact hX.symm | (congr 1; omega)
  · rw [F]; (repeat (first | rw [if_pos (by omega)] | rw [if_neg (by omega)])); (try rw [b4]); (repeat (first | rw [if_pos (by omega)] | rw [if_neg (by omega)])); (try rw [b3]); (repeat (first | rw [if_pos (by omega)] | rw [if_neg (by omega)])); (try rw [b2]); (repeat (first | rw [if_pos (by omega)] | rw [if_neg (by omega)])); (try rw [b1]); (repeat (first | rw [if_pos (by omega)] | rw [if_neg (by omega)])); first | done | (with_reducible rfl) | exact hX.symm | (congr 1; omega)
  · rw [F]; (repeat (first | rw [if_pos (by omega)] | rw [if_neg (by omega)])); (try rw [b4]); (repeat (first | rw [if_pos (by omega)] | rw [if_neg (by omega)])); (try rw [b3]); (repeat (first | rw [if_pos (by omega)] | rw [if_neg (by omega)])); (try rw [b2]); (repeat (first | rw [if_pos (by omega)] | rw [if_neg (by omega)])); (try rw [b1]); (repeat (first | rw [if_pos (by omega)] | rw [if_neg (by omega)])); first | done | (with_reducible rfl) | exact hX.symm | (congr 1; omega)
  · rw [F]; (repeat (first | rw [if_pos (by omega)] | rw [if_neg (by omega)])); (try rw [b4]); (repeat (first | rw [if_pos (by omega)] | rw [if_neg (by omega)])); (try rw [b3]); (repeat (first | rw [if_pos (by omega)] | rw [if_neg (by omega)])); (try rw [b2]); (repeat (first | rw [if_pos (by omega)] | rw [if_neg (by omega)])); (try rw [b1]); (repeat (first | rw [if_pos (by omega)] | rw [if_neg (by omega)])); first | done | (with_reducible rfl) | exact hX.symm | (congr 1; omega)
  · rw [F]; (repeat (first | rw [if_pos (by omega)] | rw [if_neg (by omega)])); (try rw [b4]); (repeat (first | rw [if_pos (by omega)] | rw [if_neg (by omega)])); (try rw [b3]); (repeat (first | rw [if_pos (by omega)] | rw [if_neg (by omega)])); (try rw [b2]); (repeat (first | rw [if_pos (by omega)] | rw [if_neg (by omega)])); (try rw [b1]); (repeat (first | rw [if_pos (by omega)] | rw [if_neg (by omega)])); first | done | (with_reducible rfl) | exact hX.symm | (congr 1; omega)
  · rw [F]; (repeat (first | rw [if_pos (by omega)] | rw [if_neg (by omega)])); (try rw [b4]); (repeat (first | rw [if_pos (by omega)] | rw [if_neg (by omega)])); (try rw [b3]); (repeat (first | rw [if_pos (by omega)] | rw [if_neg (by omega)])); (try rw [b2]); (repeat (first | rw [if_pos (by omega)] | rw [if_neg (by omega)])); (try rw [b1]); (repeat (first | rw [if_pos (by omega)] | rw [if_neg (by omega)])); first | done | (with_reducible rfl) | exact hX.symm | (congr 1; omega)
  · rw [F]; (repeat (first | rw [if_pos (by omega)] | rw [if_neg (by omega)])); (try rw [b4]); (repeat (first | rw [if_pos (by omega)] | rw [if_neg (by omega)])); (try rw [b3]); (repeat (first | rw [if_pos (by omega)] | rw [if_neg (by omega)])); (try rw [b2]); (repeat (first | rw [if_pos (by omega)] | rw [if_neg (by omega)])); (try rw [b1]); (repeat (first | rw [if_pos (by omega)] | rw [if_neg (by omega)])); first | done | (with_reducible rfl) | exact hX.symm | (congr 1; omega)
  · rw [F]; (repeat (first | rw [if_pos (by omega)] | rw [if_neg (by omega)])); (try rw [b4]); (repeat (first | rw [if_pos (by omega)] | rw [if_neg (by omega)])); (try rw [b3]); (repeat (first | rw [if_pos (by omega)] | rw [if_neg (by omega)])); (try rw [b2]); (repeat (first | rw [if_pos (by omega)] | rw [if_neg (by omega)])); (try rw [b1]); (repeat (first | rw [if_pos (by omega)] | rw [if_neg (by omega)])); first | done | (with_reducible rfl) | exact hX.symm | (congr 1; omega)
  · rw [F]; (repeat (first | rw [if_pos (by omega)] | rw [if_neg (by omega)])); (try rw [b4]); (repeat (first | rw [if_pos (by omega)] | rw [if_neg (by omega)])); (try rw [b3]); (repeat (first | rw [if_pos (by omega)] | rw [if_neg (by omega)])); (try rw [b2]); (repeat (first | rw [if_pos (by omega)] | rw [if_neg (by omega)])); (try rw [b1]); (repeat (first | rw [if_pos (by omega)] | rw [if_neg (by omega)])); first | done | (with_reducible rfl) | exact hX.symm | (congr 1; omega)
  · rw [F]; (repeat (first | rw [if_pos (by omega)] | rw [if_neg (by omega)])); (try rw [b4]); (repeat (first | rw [if_pos (by omega)] | rw [if_neg (by omega)])); (try rw [b3]); (repeat (first | rw [if_pos (by omega)] | rw [if_neg (by omega)])); (try rw [b2]); (repeat (first | rw [if_pos (by omega)] | rw [if_neg (by omega)])); (try rw [b1]); (repeat (first | rw [if_pos (by omega)] | rw [if_neg (by omega)])); first | done | (with_reducible rfl) | exact hX.symm | (congr 1; omega)
  · rw [F]; (repeat (first | rw [if_pos (by omega)] | rw [if_neg (by omega)])); (try rw [b4]); (repeat (first | rw [if_pos (by omega)] | rw [if_neg (by omega)])); (try rw [b3]); (repeat (first | rw [if_pos (by omega)] | rw [if_neg (by omega)])); (try rw [b2]); (repeat (first | rw [if_pos (by omega)] | rw [if_neg (by omega)])); (try rw [b1]); (repeat (first | rw [if_pos (by omega)] | rw [if_neg (by omega)])); first | done | (with_reducible rfl) | exact hX.symm | (congr 1; omega)
  · rcases (show i = 22 ∨ i = 23 ∨ i = 24 by omega) with rfl | rfl | rfl <;> (rw [F]; (repeat (first | rw [if_pos (by omega)] | rw [if_neg (by omega)])); (try rw [b4]); (repeat (first | rw [if_pos (by omega)] | rw [if_neg (by omega)])); (try rw [b3]); (repeat (first | rw [if_pos (by omega)] | rw [if_neg (by omega)])); (try rw [b2]); (repeat (first | rw [if_pos (by omega)] | rw [if_neg (by omega)])); (try rw [b1]); (repeat (first | rw [if_pos (by omega)] | rw [if_neg (by omega)])); first | done | (with_reducible rfl) | (congr 1; omega))
theorem h_takeLR (c : Nat → Nat → Int32) : ∃ c2, fx_Lumps_takeFrom_2_27 c = some c2 ∧ ∀ q j, c2 q j = if q = 2 ∧ j = 7 then c 27 7 else if 3 ≤ q ∧ q ≤ 8 ∧ j < 10 then c (q + 25) j else if q = 9 ∧ j < 6 then c 34 j else c q j := by
  unfold fx_Lumps_takeFrom_2_27
  simp only [kp_let, kp_c0, kp_c10, kp_c6]
  refine ⟨_, rfl, fun q j => ?_⟩
  simp only [kp_st, kp_cp]
  simp
  by_cases h1 : q = 2 ∧ j = 7
  · rw [if_pos h1, if_pos h1]
  rw [if_neg h1, if_neg h1]
  by_cases h2 : q = 9 ∧ j < 6
  · rw [if_pos h2, if_neg (by omega), if_pos h2]
  rw [if_neg h2]
  by_cases h3 : 3 ≤ q ∧ q ≤ 8 ∧ j < 10
  · rw [if_pos h3]
    have : q = 3 ∨ q = 4 ∨ q = 5 ∨ q = 6 ∨ q = 7 ∨ q = 8 := by omega
    rcases this with rfl | rfl | rfl | rfl | rfl | rfl <;> simp [h3.2.2]
  · rw [if_neg h3, if_neg (by omega), if_neg (by omega), if_neg (by omega), if_neg (by omega), if_neg (by omega), if_neg (by omega)]
    simp [h2]
theorem h_takeWlR {c0 : Nat → Nat → Int32} (hB : ∀ w, w < 20 → c0 41 w = 0 ∨ c0 41 w = 1) : ∃ c1, kv_loop (kv_u2 fb_Weighings_takeFrom_10_35_92) ((0 : Int32), c0) = some c1 ∧ ∀ q j, c1 q j = if q = 16 ∧ j < 20 then c0 41 j else c0 q j := by
  refine kp_inv (kv_u2 fb_Weighings_takeFrom_10_35_92) (fun i st => ∃ c3, st = (nI i, c3) ∧ ∀ q j, c3 q j = if q = 16 ∧ j < i then c0 41 j else c0 q j) (fun c1 => ∀ q j, c1 q j = if q = 16 ∧ j < 20 then c0 41 j else c0 q j) 20 ?_ ?_ ((0 : Int32), c0) ⟨c0, rfl, fun q j => by rw [if_neg (by omega)]⟩
  · rintro i st hi ⟨c3, rfl, h3⟩
    have e3 : c3 41 i = c0 41 i := by rw [h3, if_neg (by omega)]
    have e4 : vp_nar .boolean (c0 41 i) = c0 41 i := by rcases hB i hi with z | z <;> rw [z] <;> decide
    refine Or.inl ⟨(nI (i + 1), kv_st c3 16 i (c0 41 i)), ?_, _, rfl, fun q j => ?_⟩
    · show fb_Weighings_takeFrom_10_35_92 (nI i) c3 = _
      unfold fb_Weighings_takeFrom_10_35_92
      have b2 : ¬ (20 : Int32) ≤ nI i := nI_ge (b := 20) hi (by omega)
      rw [if_neg b2, kp_gd _ (kp_in_nI hi (by omega)), nI_clamp (by omega), e3, e4, kp_let, nI_1]
    · rw [kp_st]
      by_cases z : q = 16 ∧ j = i
      · obtain ⟨rfl, rfl⟩ := z
        rw [if_pos ⟨rfl, rfl⟩, if_pos ⟨rfl, by omega⟩]
      · rw [if_neg z, h3]
        by_cases z2 : q = 16 ∧ j < i
        · rw [if_pos z2, if_pos ⟨z2.1, by omega⟩]
        · rw [if_neg z2, if_neg (by omega)]
  · rintro st ⟨c3, rfl, h3⟩
    exact ⟨c3, rfl, h3⟩
theorem h_takeWR (c : Nat → Nat → Int32) (hB : ∀ w, w < 20 → c 41 w = 0 ∨ c 41 w = 1) : ∃ c2, fx_Weighings_takeFrom_10_35 c = some c2 ∧ ∀ q j, c2 q j = if q = 10 ∧ j = 7 then c 35 7 else if q = 10 ∧ j = 8 then c 35 8 else if 11 ≤ q ∧ q ≤ 17 ∧ j < 20 then c (q + 25) j else c q j := by
  unfold fx_Weighings_takeFrom_10_35
  rw [kp_let, kp_let, kp_let, kp_let, kp_let, kp_let]
  generalize hc0 : va_up _ 17 _ = c0
  have f0 : ∀ q j, c0 q j = if 11 ≤ q ∧ q ≤ 17 ∧ q ≠ 16 ∧ j < 20 then c (q + 25) j else c q j := by
    intro q j
    rw [← hc0]
    simp only [kp_c0, kp_c20, kp_cp]
    by_cases h3 : 11 ≤ q ∧ q ≤ 17 ∧ q ≠ 16 ∧ j < 20
    · rw [if_pos h3]
      have : q = 11 ∨ q = 12 ∨ q = 13 ∨ q = 14 ∨ q = 15 ∨ q = 17 := by omega
      rcases this with rfl | rfl | rfl | rfl | rfl | rfl <;> simp [h3.2.2.2]
    · rw [if_neg h3]
      repeat rw [if_neg (by omega)]
  clear hc0
  obtain ⟨c1, a1, f1⟩ := h_takeWlR (c0 := c0) (fun w hw => by rw [f0, if_neg (by omega)]; exact hB w hw)
  rw [a1]
  refine ⟨_, rfl, fun q j => ?_⟩
  show kv_st (kv_st c1 10 7 (c1 35 7)) 10 8 (kv_st c1 10 7 (c1 35 7) 35 8) q j = _
  have e7 : c1 35 7 = c 35 7 := by rw [f1, if_neg (by omega), f0, if_neg (by omega)]
  have e8 : kv_st c1 10 7 (c1 35 7) 35 8 = c 35 8 := by rw [kp_st, if_neg (by omega), f1, if_neg (by omega), f0, if_neg (by omega)]
  rw [e8, e7, kp_st, kp_st, f1, f0, f0]
  by_cases h1 : q = 10 ∧ j = 7
  · rw [if_neg (by omega), if_pos h1, if_pos h1]
  by_cases h2 : q = 10 ∧ j = 8
  · rw [if_pos h2, if_neg h1, if_pos h2]
  rw [if_neg h2, if_neg h1, if_neg h1, if_neg h2]
  by_cases h3 : 11 ≤ q ∧ q ≤ 17 ∧ j < 20
  · rw [if_pos h3]
    by_cases h4 : q = 16
    · subst h4
      rw [if_pos ⟨rfl, h3.2.2⟩, if_neg (by omega)]
      try rfl
    · rw [if_neg (by omega), if_pos ⟨h3.1, h3.2.1, h4, h3.2.2⟩]
  · rw [if_neg h3, if_neg (by omega), if_neg (by omega)]
theorem h_takeCR (c : Nat → Nat → Int32) : ∃ c2, fx_Chains_takeFrom_20_45 c = some c2 ∧ ∀ q j, c2 q j = if 21 ≤ q ∧ q ≤ 22 ∧ j < 48 then c (q + 25) j else if 23 ≤ q ∧ q ≤ 24 ∧ j < 4 then c (q + 25) j else c q j := by
  unfold fx_Chains_takeFrom_20_45
  simp only [kp_let, kp_c0, kp_c48, kp_c4]
  refine ⟨_, rfl, fun q j => ?_⟩
  simp only [kp_cp]
  simp
  by_cases h1 : 21 ≤ q ∧ q ≤ 22 ∧ j < 48
  · rw [if_pos h1]
    have : q = 21 ∨ q = 22 := by omega
    rcases this with rfl | rfl <;> simp [h1.2.2]
  rw [if_neg h1]
  by_cases h2 : 23 ≤ q ∧ q ≤ 24 ∧ j < 4
  · rw [if_pos h2]
    have : q = 23 ∨ q = 24 := by omega
    rcases this with rfl | rfl <;> simp [h2.2.2]
  · rw [if_neg h2, if_neg (by omega), if_neg (by omega), if_neg (by omega), if_neg (by omega)]
theorem h_takeXR (c : Nat → Nat → Int32) {N : Nat} (hN : N ≤ 100) (x : Int32) : ∃ c2, fx_Law_write_18_44 (nI N) x c = some c2 ∧ ∀ q j, c2 q j = if q = 18 ∧ j = 2 then x else if q = 18 ∧ j = 1 then nI N else if q = 19 ∧ j < N then c 44 j else c q j := by
  unfold fx_Law_write_18_44
  rw [kp_gd _ (show kv_cp 0 0 (nI N) 100 100 = true by unfold kv_cp; rw [nI_toInt (by omega), nI_clamp (by omega), kp_c0]; simp; omega)]
  simp only [kp_let, kp_c0, nI_clamp (show N < 2 ^ 31 by omega)]
  refine ⟨_, rfl, fun q j => ?_⟩
  simp only [kp_st, kp_cp]
theorem h_takeR (c : Nat → Nat → Int32) (hB : ∀ w, w < 20 → c 41 w = 0 ∨ c 41 w = 1) {N : Nat} (hN : N ≤ 100) (hX : c 43 1 = nI N) : ∃ c2, fx_State_takeFrom_1_26 c = some c2 ∧ (∀ q j, q < 1 ∨ 25 < q → c2 q j = c q j) ∧ (∀ j, 5 ≤ j → j ≤ 8 → c2 1 j = c 26 j) ∧ c2 2 7 = c 27 7 ∧ (∀ i j, 2 ≤ i → i ≤ 7 → j < 10 → c2 (1 + i) j = c (26 + i) j) ∧ (∀ j, j < 6 → c2 9 j = c 34 j) ∧ (c2 10 7 = c 35 7 ∧ c2 10 8 = c 35 8) ∧ (∀ i j, 10 ≤ i → i ≤ 16 → j < 20 → c2 (1 + i) j = c (26 + i) j) ∧ (c2 18 1 = c 43 1 ∧ c2 18 2 = c 43 2) ∧ (∀ j, j < N → c2 19 j = c 44 j) ∧ (∀ i j, 20 ≤ i → i ≤ 21 → j < 48 → c2 (1 + i) j = c (26 + i) j) ∧ (∀ i j, 22 ≤ i → i ≤ 24 → j < 4 → c2 (1 + i) j = c (26 + i) j) := by
  obtain ⟨c1, a1, b1⟩ := h_takeLR c
  obtain ⟨c2, a2, b2⟩ := h_takeWR c1 (fun w hw => by rw [b1, if_neg (by omega), if_neg (by omega), if_neg (by omega)]; exact hB w hw)
  have e1 : c2 43 1 = nI N := by rw [b2, if_neg (by omega), if_neg (by omega), if_neg (by omega), b1, if_neg (by omega), if_neg (by omega), if_neg (by omega)]; exact hX
  have e2 : c2 43 2 = c 43 2 := by rw [b2, if_neg (by omega), if_neg (by omega), if_neg (by omega), b1, if_neg (by omega), if_neg (by omega), if_neg (by omega)]
  obtain ⟨c3, a3, b3⟩ := h_takeXR c2 hN (c 43 2)
  obtain ⟨c4, a4, b4⟩ := h_takeCR c3
  unfold fx_State_takeFrom_1_26
  rw [a1, kp_b1, a2, kp_b1, e1, e2, a3, kp_b1, a4, kp_b1]
  simp only [kp_let, kp_c0, kp_c4]
  refine ⟨_, rfl, ?_⟩
  have F : ∀ q j, kv_st (kv_st (kv_st (kv_st (va_up c4 25 (va_cpy (c4 50) (c4 25) 0 0 4)) 1 5 (va_up c4 25 (va_cpy (c4 50) (c4 25) 0 0 4) 26 5)) 1 6 (kv_st (va_up c4 25 (va_cpy (c4 50) (c4 25) 0 0 4)) 1 5 (va_up c4 25 (va_cpy (c4 50) (c4 25) 0 0 4) 26 5) 26 6)) 1 7 (kv_st (kv_st (va_up c4 25 (va_cpy (c4 50) (c4 25) 0 0 4)) 1 5 (va_up c4 25 (va_cpy (c4 50) (c4 25) 0 0 4) 26 5)) 1 6 (kv_st (va_up c4 25 (va_cpy (c4 50) (c4 25) 0 0 4)) 1 5 (va_up c4 25 (va_cpy (c4 50) (c4 25) 0 0 4) 26 5) 26 6) 26 7)) 1 8 (kv_st (kv_st (kv_st (va_up c4 25 (va_cpy (c4 50) (c4 25) 0 0 4)) 1 5 (va_up c4 25 (va_cpy (c4 50) (c4 25) 0 0 4) 26 5)) 1 6 (kv_st (va_up c4 25 (va_cpy (c4 50) (c4 25) 0 0 4)) 1 5 (va_up c4 25 (va_cpy (c4 50) (c4 25) 0 0 4) 26 5) 26 6)) 1 7 (kv_st (kv_st (va_up c4 25 (va_cpy (c4 50) (c4 25) 0 0 4)) 1 5 (va_up c4 25 (va_cpy (c4 50) (c4 25) 0 0 4) 26 5)) 1 6 (kv_st (va_up c4 25 (va_cpy (c4 50) (c4 25) 0 0 4)) 1 5 (va_up c4 25 (va_cpy (c4 50) (c4 25) 0 0 4) 26 5) 26 6) 26 7) 26 8) q j = (if q = 1 ∧ 5 ≤ j ∧ j ≤ 8 then c4 26 j else if q = 25 ∧ j < 4 then c4 50 j else c4 q j) := by
    intro q j
    simp only [kp_st, kp_cp]
    by_cases z : q = 1 ∧ 5 ≤ j ∧ j ≤ 8
    · rw [if_pos z]
      obtain ⟨rfl, z2, z3⟩ := z
      have : j = 5 ∨ j = 6 ∨ j = 7 ∨ j = 8 := by omega
      rcases this with rfl | rfl | rfl | rfl <;> simp
    · rw [if_neg z, if_neg (by omega), if_neg (by omega), if_neg (by omega), if_neg (by omega)]
  refine ⟨fun q j hq => ?_, fun j h1 h2 => ?_, ?_, fun i j h1 h2 h3 => ?_, fun j h1 => ?_, ⟨?_, ?_⟩, fun i j h1 h2 h3 => ?_, ⟨?_, ?_⟩, fun j h1 => ?_, fun i j h1 h2 h3 => ?_, fun i j h1 h2 h3 => ?_⟩
  · rw [F]; (repeat (first | rw [if_pos (by omega)] | rw [if_neg (by omega)])); (try rw [b4]); (repeat (first | rw [if_pos (by omega)] | rw [if_neg (by omega)])); (try rw [b3]); (repeat (first | rw [if_pos (by omega)] | rw [if_neg (by omega)])); (try rw [b2]); (repeat (first | rw [if_pos (by omega)] | rw [if_neg (by omega)])); (try rw [b1]); (repeat (first | rw [if_pos (by omega)] | rw [if_neg (by omega)])); first | done | (with_reducible rfl) | exact hX.symm | (congr 1; omega)
  · rw [F]; (repeat (first | rw [if_pos (by omega)] | rw [if_neg (by omega)])); (try rw [b4]); (repeat (first | rw [if_pos (by omega)] | rw [if_neg (by omega)])); (try rw [b3]); (repeat (first | rw [if_pos (by omega)] | rw [if_neg (by omega)])); (try rw [b2]); (repeat (first | rw [if_pos (by omega)] | rw [if_neg (by omega)])); (try rw [b1]); (repeat (first | rw [if_pos (by omega)] | rw [if_neg (by omega)])); first | done | (with_reducible rfl) | exact hX.symm | (congr 1; omega)
  · rw [F]; (repeat (first | rw [if_pos (by omega)] | rw [if_neg (by omega)])); (try rw [b4]); (repeat (first | rw [if_pos (by omega)] | rw [if_neg (by omega)])); (try rw [b3]); (repeat (first | rw [if_pos (by omega)] | rw [if_neg (by omega)])); (try rw [b2]); (repeat (first | rw [if_pos (by omega)] | rw [if_neg (by omega)])); (try rw [b1]); (repeat (first | rw [if_pos (by omega)] | rw [if_neg (by omega)])); first | done | (with_reducible rfl) | exact hX.symm | (congr 1; omega)
  · rw [F]; (repeat (first | rw [if_pos (by omega)] | rw [if_neg (by omega)])); (try rw [b4]); (repeat (first | rw [if_pos (by omega)] | rw [if_neg (by omega)])); (try rw [b3]); (repeat (first | rw [if_pos (by omega)] | rw [if_neg (by omega)])); (try rw [b2]); (repeat (first | rw [if_pos (by omega)] | rw [if_neg (by omega)])); (try rw [b1]); (repeat (first | rw [if_pos (by omega)] | rw [if_neg (by omega)])); first | done | (with_reducible rfl) | exact hX.symm | (congr 1; omega)
  · rw [F]; (repeat (first | rw [if_pos (by omega)] | rw [if_neg (by omega)])); (try rw [b4]); (repeat (first | rw [if_pos (by omega)] | rw [if_neg (by omega)])); (try rw [b3]); (repeat (first | rw [if_pos (by omega)] | rw [if_neg (by omega)])); (try rw [b2]); (repeat (first | rw [if_pos (by omega)] | rw [if_neg (by omega)])); (try rw [b1]); (repeat (first | rw [if_pos (by omega)] | rw [if_neg (by omega)])); first | done | (with_reducible rfl) | exact hX.symm | (congr 1; omega)
  · rw [F]; (repeat (first | rw [if_pos (by omega)] | rw [if_neg (by omega)])); (try rw [b4]); (repeat (first | rw [if_pos (by omega)] | rw [if_neg (by omega)])); (try rw [b3]); (repeat (first | rw [if_pos (by omega)] | rw [if_neg (by omega)])); (try rw [b2]); (repeat (first | rw [if_pos (by omega)] | rw [if_neg (by omega)])); (try rw [b1]); (repeat (first | rw [if_pos (by omega)] | rw [if_neg (by omega)])); first | done | (with_reducible rfl) | exact hX.symm | (congr 1; omega)
  · rw [F]; (repeat (first | rw [if_pos (by omega)] | rw [if_neg (by omega)])); (try rw [b4]); (repeat (first | rw [if_pos (by omega)] | rw [if_neg (by omega)])); (try rw [b3]); (repeat (first | rw [if_pos (by omega)] | rw [if_neg (by omega)])); (try rw [b2]); (repeat (first | rw [if_pos (by omega)] | rw [if_neg (by omega)])); (try rw [b1]); (repeat (first | rw [if_pos (by omega)] | rw [if_neg (by omega)])); first | done | (with_reducible rfl) | exact hX.symm | (congr 1; omega)
  · rw [F]; (repeat (first | rw [if_pos (by omega)] | rw [if_neg (by omega)])); (try rw [b4]); (repeat (first | rw [if_pos (by omega)] | rw [if_neg (by omega)])); (try rw [b3]); (repeat (first | rw [if_pos (by omega)] | rw [if_neg (by omega)])); (try rw [b2]); (repeat (first | rw [if_pos (by omega)] | rw [if_neg (by omega)])); (try rw [b1]); (repeat (first | rw [if_pos (by omega)] | rw [if_neg (by omega)])); first | done | (with_reducible rfl) | exact hX.symm | (congr 1; omega)
  · rw [F]; (repeat (first | rw [if_pos (by omega)] | rw [if_neg (by omega)])); (try rw [b4]); (repeat (first | rw [if_pos (by omega)] | rw [if_neg (by omega)])); (try rw [b3]); (repeat (first | rw [if_pos (by omega)] | rw [if_neg (by omega)])); (try rw [b2]); (repeat (first | rw [if_pos (by omega)] | rw [if_neg (by omega)])); (try rw [b1]); (repeat (first | rw [if_pos (by omega)] | rw [if_neg (by omega)])); first | done | (with_reducible rfl) | exact hX.symm | (congr 1; omega)
  · rw [F]; (repeat (first | rw [if_pos (by omega)] | rw [if_neg (by omega)])); (try rw [b4]); (repeat (first | rw [if_pos (by omega)] | rw [if_neg (by omega)])); (try rw [b3]); (repeat (first | rw [if_pos (by omega)] | rw [if_neg (by omega)])); (try rw [b2]); (repeat (first | rw [if_pos (by omega)] | rw [if_neg (by omega)])); (try rw [b1]); (repeat (first | rw [if_pos (by omega)] | rw [if_neg (by omega)])); first | done | (with_reducible rfl) | exact hX.symm | (congr 1; omega)
  · rw [F]; (repeat (first | rw [if_pos (by omega)] | rw [if_neg (by omega)])); (try rw [b4]); (repeat (first | rw [if_pos (by omega)] | rw [if_neg (by omega)])); (try rw [b3]); (repeat (first | rw [if_pos (by omega)] | rw [if_neg (by omega)])); (try rw [b2]); (repeat (first | rw [if_pos (by omega)] | rw [if_neg (by omega)])); (try rw [b1]); (repeat (first | rw [if_pos (by omega)] | rw [if_neg (by omega)])); first | done | (with_reducible rfl) | exact hX.symm | (congr 1; omega)
  · rw [F]; (repeat (first | rw [if_pos (by omega)] | rw [if_neg (by omega)])); (try rw [b4]); (repeat (first | rw [if_pos (by omega)] | rw [if_neg (by omega)])); (try rw [b3]); (repeat (first | rw [if_pos (by omega)] | rw [if_neg (by omega)])); (try rw [b2]); (repeat (first | rw [if_pos (by omega)] | rw [if_neg (by omega)])); (try rw [b1]); (repeat (first | rw [if_pos (by omega)] | rw [if_neg (by omega)])); first | done | (with_reducible rfl) | exact hX.symm | (congr 1; omega)
  · rcases (show i = 22 ∨ i = 23 ∨ i = 24 by omega) with rfl | rfl | rfl <;> (rw [F]; (repeat (first | rw [if_pos (by omega)] | rw [if_neg (by omega)])); (try rw [b4]); (repeat (first | rw [if_pos (by omega)] | rw [if_neg (by omega)])); (try rw [b3]); (repeat (first | rw [if_pos (by omega)] | rw [if_neg (by omega)])); (try rw [b2]); (repeat (first | rw [if_pos (by omega)] | rw [if_neg (by omega)])); (try rw [b1]); (repeat (first | rw [if_pos (by omega)] | rw [if_neg (by omega)])); first | done | (with_reducible rfl) | (congr 1; omega))
section OI
variable {k : Nat} {c m : Nat → Nat → Int32}
theorem op_image (h : Inv k c m) : ∃ r c2 m2, fx_K_image c = some (r, c2) ∧ fx_D_image m = some (r, m2) ∧ Inv (k + 1) c2 m2 := by
  obtain ⟨L, T, U, hN, hG, hL, hP, hA, hW, hT, ⟨N, x1, x2, x3, x4, x5, x6⟩, hC⟩ := h.1
  obtain ⟨c2, a1, f0, f1, f2, f3, f4, f5, f6, f7, f8, f9, f10⟩ := h_takeI c (fun w hw => (h.2.2.2.2.2.2 w hw).1) x1 x2
  obtain ⟨m3, a2, g⟩ := h_imD m
  unfold fx_K_image fx_D_image
  rw [a1, kp_b1, a2]
  have e1 : m 85 1 = c 2 7 := by rw [hN.2.2.2.2.1]; exact hN.2.2.2.1.symm
  have C : ∀ q j, q ≠ 0 → kv_st c2 0 2 1 q j = c2 q j := fun q j hq => by rw [kp_st, if_neg (by omega)]
  have C0 : ∀ j, j ≠ 2 → kv_st c2 0 2 1 0 j = c2 0 j := fun j hq => by rw [kp_st, if_neg (by omega)]
  have C2 : kv_st c2 0 2 1 0 2 = 1 := by rw [kp_st, if_pos ⟨rfl, rfl⟩]
  have M : ∀ q j, q ≠ 84 → kv_st m3 84 8 1 q j = m3 q j := fun q j hq => by rw [kp_st, if_neg (by omega)]
  have M8 : ∀ j, j ≠ 8 → kv_st m3 84 8 1 84 j = m 84 j := fun j hq => by rw [kp_st, if_neg (by omega), g, if_neg (by omega)]
  have M0 : kv_st m3 84 8 1 84 8 = 1 := by rw [kp_st, if_pos ⟨rfl, rfl⟩]
  have M1 : ∀ q, 84 < q → q ≠ 86 → kv_st m3 84 8 1 q = m q := fun q h1 h2 => funext fun j => by rw [M q j (by omega), g, if_neg (by omega)]
  have CE : ∀ q, q ≠ 0 → q < 26 ∨ 50 < q → kv_st c2 0 2 1 q = c q := fun q hq h2 => funext fun j => by rw [C q j hq, f0 q j h2]
  refine ⟨c 2 7, kv_st c2 0 2 1, kv_st m3 84 8 1, ?_, ?_, ?_⟩
  · rw [kp_let, C 2 7 (by omega), f0 2 7 (by omega)]
  · show kv_let (kv_st m3 84 8 1) (fun m6 => some (m6 85 1, m6)) = _
    rw [kp_let, M 85 1 (by omega), g, if_neg (by omega), e1]
  obtain ⟨h1, h2, h3, h4, h5, h6, h7⟩ := h
  refine ⟨fr_S h1 (by omega) (fun i hi => CE _ (by omega) (by omega)) (fun j _ => by rw [M1 85 (by omega) (by omega)]), Or.inr ⟨C2, M0, ?_⟩, fun d hd => fr_H1 hd (h3 d hd) (CE _ (by omega) (by omega)) (CE _ (by omega) (by omega)) (fun r q1 q2 => M1 r (by omega) (by omega)), by rw [M8 14 (by omega)]; exact h4, by rw [M8 15 (by omega)]; exact h5, by rw [M8 17 (by omega)]; exact h6, fun w hw => ?_⟩
  · refine fr_trans h1 (by omega) (fun j hj => by rw [M 86 j (by omega), g, if_pos ⟨rfl, hj⟩]) (fun j q1 q2 => ?_) ?_ (fun i j q1 q2 q3 => ?_) (fun j q1 => ?_) ⟨?_, ?_⟩ (fun i j q1 q2 q3 => ?_) ⟨?_, ?_⟩ (fun N2 q0 q1 j q2 => ?_) (fun i j q1 q2 q3 => ?_) (fun i j q1 q2 q3 => ?_)
    · exact (C 26 j (by omega)).trans (f1 j q1 q2)
    · exact (C 27 7 (by omega)).trans f2
    · exact (C (26 + i) j (by omega)).trans (f3 i j q1 q2 q3)
    · exact (C 34 j (by omega)).trans (f4 j q1)
    · exact (C 35 7 (by omega)).trans f5.1
    · exact (C 35 8 (by omega)).trans f5.2
    · exact (C (26 + i) j (by omega)).trans (f6 i j q1 q2 q3)
    · exact (C 43 1 (by omega)).trans f7.1
    · exact (C 43 2 (by omega)).trans f7.2
    · have : N2 = N := (nI_eq (by omega) (by omega)).mp (q0.symm.trans x2)
      exact (C 44 j (by omega)).trans (f8 j (by omega))
    · exact (C (26 + i) j (by omega)).trans (f9 i j q1 q2 q3)
    · exact (C (26 + i) j (by omega)).trans (f10 i j q1 q2 q3)
  · have := h7 w hw
    rw [C 16 w (by omega), C 41 w (by omega), f0 16 w (by omega), show c2 41 w = c 16 w from f6 15 w (by omega) (by omega) hw]
    exact ⟨this.1, this.1⟩
theorem op_restore (h : Inv k c m) : ∃ r c2 m2, fx_K_restore c = some (r, c2) ∧ fx_D_restore m = some (r, m2) ∧ Inv (k + 1) c2 m2 := by
  unfold fx_K_restore fx_D_restore
  obtain ⟨h1, h2, h3, h4, h5, h6, h7⟩ := h
  rcases h2 with ⟨z1, z2⟩ | ⟨z1, z2, hI⟩
  · rw [z1, z2, if_pos rfl, if_pos rfl]
    exact ⟨-3, c, m, rfl, rfl, fr_same ⟨h1, Or.inl ⟨z1, z2⟩, h3, h4, h5, h6, h7⟩⟩
  rw [if_neg (by rw [z1]; decide), if_neg (by rw [z2]; decide)]
  have hI2 := hI
  obtain ⟨L, T, U, hN, hG, hL, hP, hA, hW, hT, ⟨N, x1, x2, x3, x4, x5, x6⟩, hC⟩ := hI2
  obtain ⟨c2, a1, f0, f1, f2, f3, f4, f5, f6, f7, f8, f9, f10⟩ := h_takeR c (fun w hw => (h7 w hw).2) x1 x2
  obtain ⟨m3, a2, g⟩ := h_reD m
  rw [a1, kp_b1, a2]
  have e1 : m 86 1 = c 27 7 := by rw [hN.2.2.2.2.1]; exact hN.2.2.2.1.symm
  have M1 : ∀ q, q ≠ 85 → m3 q = m q := fun q h2 => funext fun j => by rw [g, if_neg (by omega)]
  have CE : ∀ q, q < 1 ∨ 25 < q → c2 q = c q := fun q h2 => funext fun j => f0 q j h2
  refine ⟨c 27 7, c2, m3, by rw [f2], ?_, ?_⟩
  · show some (m3 85 1, m3) = _
    rw [g, if_pos ⟨rfl, by omega⟩, e1]
  refine ⟨?_, Or.inr ⟨by rw [CE 0 (by omega)]; exact z1, by rw [M1 84 (by omega)]; exact z2, fr_S hI (by omega) (fun i hi => CE _ (by omega)) (fun j _ => by rw [M1 86 (by omega)])⟩, fun d hd => fr_H1 hd (h3 d hd) (CE _ (by omega)) (CE _ (by omega)) (fun r q1 q2 => M1 r (by omega)), by rw [M1 84 (by omega)]; exact h4, by rw [M1 84 (by omega)]; exact h5, by rw [M1 84 (by omega)]; exact h6, fun w hw => ?_⟩
  · refine fr_trans hI (by omega) (fun j hj => by rw [g, if_pos ⟨rfl, hj⟩]) (fun j q1 q2 => f1 j q1 q2) f2 (fun i j q1 q2 q3 => f3 i j q1 q2 q3) (fun j q1 => f4 j q1) f5 (fun i j q1 q2 q3 => f6 i j q1 q2 q3) f7 (fun N2 q0 q1 j q2 => ?_) (fun i j q1 q2 q3 => f9 i j q1 q2 q3) (fun i j q1 q2 q3 => f10 i j q1 q2 q3)
    have : N2 = N := (nI_eq (by omega) (by omega)).mp (q0.symm.trans x2)
    exact f8 j (by omega)
  · have := h7 w hw
    rw [CE 41 (by omega), show c2 16 w = c 41 w from f6 15 w (by omega) (by omega) hw]
    exact ⟨this.2, this.2⟩
end OI
