/-! ===== image ===== -/
theorem kp_bits {f : Nat → Int32} (h : ∀ w, w < 20 → f w = 0 ∨ f w = 1) : kv_bits f 0 20 = true := by
  unfold kv_bits
  rw [List.all_eq_true]
  intro w hw
  have := h w (List.mem_range.mp hw)
  rw [Nat.zero_add]
  rcases this with q | q <;> rw [q] <;> decide
theorem kp_c0 : (0 : Int32).toNatClampNeg = 0 := by decide
theorem kp_c4 : (4 : Int32).toNatClampNeg = 4 := by decide
theorem kp_c6 : (6 : Int32).toNatClampNeg = 6 := by decide
theorem kp_c10 : (10 : Int32).toNatClampNeg = 10 := by decide
theorem kp_c20 : (20 : Int32).toNatClampNeg = 20 := by decide
theorem kp_c48 : (48 : Int32).toNatClampNeg = 48 := by decide
theorem h_takeL (c : Nat → Nat → Int32) : ∃ c2, fx_Lumps_takeFrom c = some c2 ∧ ∀ q j, c2 q j = if q = 27 ∧ j = 7 then c 2 7 else if 28 ≤ q ∧ q ≤ 33 ∧ j < 10 then c (q - 25) j else if q = 34 ∧ j < 6 then c 9 j else c q j := by
  unfold fx_Lumps_takeFrom
  simp only [kp_let, kp_c0, kp_c10, kp_c6]
  refine ⟨_, rfl, fun q j => ?_⟩
  simp only [kp_st, kp_cp]
  simp
  by_cases h1 : q = 27 ∧ j = 7
  · rw [if_pos h1, if_pos h1]
  rw [if_neg h1, if_neg h1]
  by_cases h2 : q = 34 ∧ j < 6
  · rw [if_pos h2, if_neg (by omega), if_pos h2]
  rw [if_neg h2]
  by_cases h3 : 28 ≤ q ∧ q ≤ 33 ∧ j < 10
  · rw [if_pos h3]
    have : q = 28 ∨ q = 29 ∨ q = 30 ∨ q = 31 ∨ q = 32 ∨ q = 33 := by omega
    rcases this with rfl | rfl | rfl | rfl | rfl | rfl <;> simp [h3.2.2]
  · rw [if_neg h3, if_neg (by omega), if_neg (by omega), if_neg (by omega), if_neg (by omega), if_neg (by omega), if_neg (by omega)]
    simp [h2]
theorem h_takeW (c : Nat → Nat → Int32) (hB : ∀ w, w < 20 → c 16 w = 0 ∨ c 16 w = 1) : ∃ c2, fx_Weighings_takeFrom c = some c2 ∧ ∀ q j, c2 q j = if q = 35 ∧ j = 7 then c 10 7 else if q = 35 ∧ j = 8 then c 10 8 else if 36 ≤ q ∧ q ≤ 42 ∧ j < 20 then c (q - 25) j else c q j := by
  unfold fx_Weighings_takeFrom
  simp only [kp_let, kp_c0, kp_c20]
  rw [kp_gd _ (kp_bits (fun w hw => by simp only [kp_cp]; simp; exact hB w hw))]
  refine ⟨_, rfl, fun q j => ?_⟩
  simp only [kp_st, kp_cp]
  simp
  by_cases h1 : q = 35 ∧ j = 7
  · rw [if_neg (by omega), if_pos h1, if_pos h1]
  by_cases h2 : q = 35 ∧ j = 8
  · rw [if_pos h2, if_neg h1, if_pos h2]
  rw [if_neg h2, if_neg h1, if_neg h1, if_neg h2]
  by_cases h3 : 36 ≤ q ∧ q ≤ 42 ∧ j < 20
  · rw [if_pos h3]
    have : q = 36 ∨ q = 37 ∨ q = 38 ∨ q = 39 ∨ q = 40 ∨ q = 41 ∨ q = 42 := by omega
    rcases this with rfl | rfl | rfl | rfl | rfl | rfl | rfl <;> simp [h3.2.2]
  · rw [if_neg h3, if_neg (by omega), if_neg (by omega), if_neg (by omega), if_neg (by omega), if_neg (by omega), if_neg (by omega), if_neg (by omega)]
theorem h_takeC (c : Nat → Nat → Int32) : ∃ c2, fx_Chains_takeFrom c = some c2 ∧ ∀ q j, c2 q j = if 46 ≤ q ∧ q ≤ 47 ∧ j < 48 then c (q - 25) j else if 48 ≤ q ∧ q ≤ 49 ∧ j < 4 then c (q - 25) j else c q j := by
  unfold fx_Chains_takeFrom
  simp only [kp_let, kp_c0, kp_c48, kp_c4]
  refine ⟨_, rfl, fun q j => ?_⟩
  simp only [kp_cp]
  simp
  by_cases h1 : 46 ≤ q ∧ q ≤ 47 ∧ j < 48
  · rw [if_pos h1]
    have : q = 46 ∨ q = 47 := by omega
    rcases this with rfl | rfl <;> simp [h1.2.2]
  rw [if_neg h1]
  by_cases h2 : 48 ≤ q ∧ q ≤ 49 ∧ j < 4
  · rw [if_pos h2]
    have : q = 48 ∨ q = 49 := by omega
    rcases this with rfl | rfl <;> simp [h2.2.2]
  · rw [if_neg h2, if_neg (by omega), if_neg (by omega), if_neg (by omega), if_neg (by omega)]
