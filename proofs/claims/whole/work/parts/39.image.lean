/-! ===== image ===== -/
theorem kp_bits {f : Nat → Int32} (h : ∀ w, w < 20 → f w = 0 ∨ f w = 1) : kv_bits f 0 20 = true := by
  unfold kv_bits
  rw [List.all_eq_true]
  intro w hw
  have := h w (List.mem_range.mp hw)
  rw [Nat.zero_add]
  rcases this with q | q <;> rw [q] <;> decide
theorem kp_c0 : (0 : Int32).toNatClampNeg = 0 := by decide
theorem kp_c4 : (4 : Int32).toNatClampNeg = 4 := by decide
theorem kp_c6 : (6 : Int32).toNatClampNeg = 6 := by decide
theorem kp_c10 : (10 : Int32).toNatClampNeg = 10 := by decide
theorem kp_c20 : (20 : Int32).toNatClampNeg = 20 := by decide
theorem kp_c48 : (48 : Int32).toNatClampNeg = 48 := by decide
theorem h_takeL (c : Nat → Nat → Int32) : ∃ c2, fx_Lumps_takeFrom c = some c2 ∧ ∀ q j, c2 q j = if q = 27 ∧ j = 7 then c 2 7 else if 28 ≤ q ∧ q ≤ 33 ∧ j < 10 then c (q - 25) j else if q = 34 ∧ j < 6 then c 9 j else c q j := by
  unfold fx_Lumps_takeFrom
  simp only [kp_let, kp_c0, kp_c10, kp_c6]
  refine ⟨_, rfl, fun q j => ?_⟩
  simp only [kp_st, kp_cp]
  simp
  by_cases h1 : q = 27 ∧ j = 7
  · rw [if_pos h1, if_pos h1]
  rw [if_neg h1, if_neg h1]
  by_cases h2 : q = 34 ∧ j < 6
  · rw [if_pos h2, if_neg (by omega), if_pos h2]
  rw [if_neg h2]
  by_cases h3 : 28 ≤ q ∧ q ≤ 33 ∧ j < 10
  · rw [if_pos h3]
    have : q = 28 ∨ q = 29 ∨ q = 30 ∨ q = 31 ∨ q = 32 ∨ q = 33 := by omega
    rcases this with rfl | rfl | rfl | rfl | rfl | rfl <;> simp [h3.2.2]
  · rw [if_neg h3, if_neg (by omega), if_neg (by omega), if_neg (by omega), if_neg (by omega), if_neg (by omega), if_neg (by omega)]
    simp [h2]
theorem h_takeWl {c0 : Nat → Nat → Int32} (hB : ∀ w, w < 20 → c0 16 w = 0 ∨ c0 16 w = 1) : ∃ c1, kv_loop (kv_u2 fb_Weighings_takeFrom_92) ((0 : Int32), c0) = some c1 ∧ ∀ q j, c1 q j = if q = 41 ∧ j < 20 then c0 16 j else c0 q j := by
  refine kp_inv (kv_u2 fb_Weighings_takeFrom_92) (fun i st => ∃ c3, st = (nI i, c3) ∧ ∀ q j, c3 q j = if q = 41 ∧ j < i then c0 16 j else c0 q j) (fun c1 => ∀ q j, c1 q j = if q = 41 ∧ j < 20 then c0 16 j else c0 q j) 20 ?_ ?_ ((0 : Int32), c0) ⟨c0, rfl, fun q j => by rw [if_neg (by omega)]⟩
  · rintro i st hi ⟨c3, rfl, h3⟩
    have e3 : c3 16 i = c0 16 i := by rw [h3, if_neg (by omega)]
    have e4 : vp_nar .boolean (c0 16 i) = c0 16 i := by rcases hB i hi with z | z <;> rw [z] <;> decide
    refine Or.inl ⟨(nI (i + 1), kv_st c3 41 i (c0 16 i)), ?_, _, rfl, fun q j => ?_⟩
    · show fb_Weighings_takeFrom_92 (nI i) c3 = _
      unfold fb_Weighings_takeFrom_92
      have b2 : ¬ (20 : Int32) ≤ nI i := nI_ge (b := 20) hi (by omega)
      rw [if_neg b2, kp_gd _ (kp_in_nI hi (by omega)), nI_clamp (by omega), e3, e4, kp_let, nI_1]
    · rw [kp_st]
      by_cases z : q = 41 ∧ j = i
      · obtain ⟨rfl, rfl⟩ := z
        rw [if_pos ⟨rfl, rfl⟩, if_pos ⟨rfl, by omega⟩]
      · rw [if_neg z, h3]
        by_cases z2 : q = 41 ∧ j < i
        · rw [if_pos z2, if_pos ⟨z2.1, by omega⟩]
        · rw [if_neg z2, if_neg (by omega)]
  · rintro st ⟨c3, rfl, h3⟩
    exact ⟨c3, rfl, h3⟩
theorem h_takeW (c : Nat → Nat → Int32) (hB : ∀ w, w < 20 → c 16 w = 0 ∨ c 16 w = 1) : ∃ c2, fx_Weighings_takeFrom c = some c2 ∧ ∀ q j, c2 q j = if q = 35 ∧ j = 7 then c 10 7 else if q = 35 ∧ j = 8 then c 10 8 else if 36 ≤ q ∧ q ≤ 42 ∧ j < 20 then c (q - 25) j else c q j := by
  unfold fx_Weighings_takeFrom
  rw [kp_let, kp_let, kp_let, kp_let, kp_let, kp_let]
  generalize hc0 : va_up _ 42 _ = c0
  have f0 : ∀ q j, c0 q j = if 36 ≤ q ∧ q ≤ 42 ∧ q ≠ 41 ∧ j < 20 then c (q - 25) j else c q j := by
    intro q j
    rw [← hc0]
    simp only [kp_c0, kp_c20, kp_cp]
    by_cases h3 : 36 ≤ q ∧ q ≤ 42 ∧ q ≠ 41 ∧ j < 20
    · rw [if_pos h3]
      have : q = 36 ∨ q = 37 ∨ q = 38 ∨ q = 39 ∨ q = 40 ∨ q = 42 := by omega
      rcases this with rfl | rfl | rfl | rfl | rfl | rfl <;> simp [h3.2.2.2]
    · rw [if_neg h3]
      repeat rw [if_neg (by omega)]
  clear hc0
  obtain ⟨c1, a1, f1⟩ := h_takeWl (c0 := c0) (fun w hw => by rw [f0, if_neg (by omega)]; exact hB w hw)
  rw [a1]
  refine ⟨_, rfl, fun q j => ?_⟩
  show kv_st (kv_st c1 35 7 (c1 10 7)) 35 8 (kv_st c1 35 7 (c1 10 7) 10 8) q j = _
  have e7 : c1 10 7 = c 10 7 := by rw [f1, if_neg (by omega), f0, if_neg (by omega)]
  have e8 : kv_st c1 35 7 (c1 10 7) 10 8 = c 10 8 := by rw [kp_st, if_neg (by omega), f1, if_neg (by omega), f0, if_neg (by omega)]
  rw [e8, e7, kp_st, kp_st, f1, f0, f0]
  by_cases h1 : q = 35 ∧ j = 7
  · rw [if_neg (by omega), if_pos h1, if_pos h1]
  by_cases h2 : q = 35 ∧ j = 8
  · rw [if_pos h2, if_neg h1, if_pos h2]
  rw [if_neg h2, if_neg h1, if_neg h1, if_neg h2]
  by_cases h3 : 36 ≤ q ∧ q ≤ 42 ∧ j < 20
  · rw [if_pos h3]
    by_cases h4 : q = 41
    · subst h4
      rw [if_pos ⟨rfl, h3.2.2⟩, if_neg (by omega)]
      try rfl
    · rw [if_neg (by omega), if_pos ⟨h3.1, h3.2.1, h4, h3.2.2⟩]
  · rw [if_neg h3, if_neg (by omega), if_neg (by omega)]
theorem h_takeC (c : Nat → Nat → Int32) : ∃ c2, fx_Chains_takeFrom c = some c2 ∧ ∀ q j, c2 q j = if 46 ≤ q ∧ q ≤ 47 ∧ j < 48 then c (q - 25) j else if 48 ≤ q ∧ q ≤ 49 ∧ j < 4 then c (q - 25) j else c q j := by
  unfold fx_Chains_takeFrom
  simp only [kp_let, kp_c0, kp_c48, kp_c4]
  refine ⟨_, rfl, fun q j => ?_⟩
  simp only [kp_cp]
  simp
  by_cases h1 : 46 ≤ q ∧ q ≤ 47 ∧ j < 48
  · rw [if_pos h1]
    have : q = 46 ∨ q = 47 := by omega
    rcases this with rfl | rfl <;> simp [h1.2.2]
  rw [if_neg h1]
  by_cases h2 : 48 ≤ q ∧ q ≤ 49 ∧ j < 4
  · rw [if_pos h2]
    have : q = 48 ∨ q = 49 := by omega
    rcases this with rfl | rfl <;> simp [h2.2.2]
  · rw [if_neg h2, if_neg (by omega), if_neg (by omega), if_neg (by omega), if_neg (by omega)]
