/-! ===== calls that only read ===== -/
theorem ki_0 : (0 : Int32).toInt = 0 := by decide
theorem ki_1 : (1 : Int32).toInt = 1 := by decide
theorem ki_2 : (2 : Int32).toInt = 2 := by decide
theorem ki_3 : (3 : Int32).toInt = 3 := by decide
theorem ki_4 : (4 : Int32).toInt = 4 := by decide
theorem ki_5 : (5 : Int32).toInt = 5 := by decide
theorem ki_6 : (6 : Int32).toInt = 6 := by decide
theorem ki_7 : (7 : Int32).toInt = 7 := by decide
theorem ki_8 : (8 : Int32).toInt = 8 := by decide
theorem ki_9 : (9 : Int32).toInt = 9 := by decide
theorem ki_10 : (10 : Int32).toInt = 10 := by decide
theorem ki_11 : (11 : Int32).toInt = 11 := by decide
theorem ki_12 : (12 : Int32).toInt = 12 := by decide
theorem ki_40 : (40 : Int32).toInt = 40 := by decide
theorem ki_48 : (48 : Int32).toInt = 48 := by decide
theorem ki_57 : (57 : Int32).toInt = 57 := by decide
theorem ki_58 : (58 : Int32).toInt = 58 := by decide
theorem ki_59 : (59 : Int32).toInt = 59 := by decide
theorem ki_99 : (99 : Int32).toInt = 99 := by decide
theorem ki_100 : (100 : Int32).toInt = 100 := by decide
theorem ki_140 : (140 : Int32).toInt = 140 := by decide
theorem ki_999 : (999 : Int32).toInt = 999 := by decide
theorem ki_9999 : (9999 : Int32).toInt = 9999 := by decide
theorem ki_99999 : (99999 : Int32).toInt = 99999 := by decide
theorem ki_m1 : (-1 : Int32).toInt = -1 := by decide
theorem ki_m2 : (-2 : Int32).toInt = -2 := by decide
theorem ki_m3 : (-3 : Int32).toInt = -3 := by decide
theorem ki_m4 : (-4 : Int32).toInt = -4 := by decide
theorem ki_m9 : (-9 : Int32).toInt = -9 := by decide
theorem ki_m99 : (-99 : Int32).toInt = -99 := by decide
theorem ki_m128 : (-128 : Int32).toInt = -128 := by decide
theorem ki_m999 : (-999 : Int32).toInt = -999 := by decide
theorem ki_m9999 : (-9999 : Int32).toInt = -9999 := by decide
theorem ki_m32768 : (-32768 : Int32).toInt = -32768 := by decide
theorem ki_m99999 : (-99999 : Int32).toInt = -99999 := by decide
section O1
variable {k : Nat} {c m : Nat → Nat → Int32}
theorem h_has {L : Nat} (h : c 2 7 = nI L) (hL : L ≤ 10) (p : Int32) : (∃ l, l < L ∧ p = nI l ∧ fx_Lumps_has p c = some true) ∨ (¬ (0 ≤ p.toInt ∧ p.toInt < L) ∧ fx_Lumps_has p c = some false) := by
  by_cases q : 0 ≤ p.toInt ∧ p.toInt < L
  · obtain ⟨l, e1, e2, e3⟩ := kp_nat q.1
    exact Or.inl ⟨l, by omega, e1, by rw [sx_has p c h (by omega)]; simp [q]⟩
  · exact Or.inr ⟨q, by rw [sx_has p c h (by omega)]; simp only [q]; rfl⟩
theorem h_isLump {L : Nat} (h : m 85 1 = nI L) (hL : L ≤ 10) (p : Int32) : (∃ l, l < L ∧ p = nI l ∧ fx_D_isLump p m = some true) ∨ (¬ (0 ≤ p.toInt ∧ p.toInt < L) ∧ fx_D_isLump p m = some false) := by
  by_cases q : 0 ≤ p.toInt ∧ p.toInt < L
  · obtain ⟨l, e1, e2, e3⟩ := kp_nat q.1
    exact Or.inl ⟨l, by omega, e1, by rw [sx_isLump p m h (by omega)]; simp [q]⟩
  · exact Or.inr ⟨q, by rw [sx_isLump p m h (by omega)]; simp only [q]; rfl⟩
/-- both at once -/
theorem h_lump {L : Nat} (h : c 2 7 = nI L) (h2 : m 85 1 = nI L) (hL : L ≤ 10) (p : Int32) : (∃ l, l < L ∧ p = nI l ∧ fx_Lumps_has p c = some true ∧ fx_D_isLump p m = some true) ∨ (¬ (0 ≤ p.toInt ∧ p.toInt < L) ∧ fx_Lumps_has p c = some false ∧ fx_D_isLump p m = some false) := by
  by_cases q : 0 ≤ p.toInt ∧ p.toInt < L
  · obtain ⟨l, e1, e2, e3⟩ := kp_nat q.1
    exact Or.inl ⟨l, by omega, e1, by rw [sx_has p c h (by omega)]; simp [q], by rw [sx_isLump p m h2 (by omega)]; simp [q]⟩
  · exact Or.inr ⟨q, by rw [sx_has p c h (by omega)]; simp only [q]; rfl, by rw [sx_isLump p m h2 (by omega)]; simp only [q]; rfl⟩
theorem sx_isInL (p : Int32) {x y : Int64} (a b : Int) (ha : x.toInt = a) (hb : y.toInt = b) : fx_D_isIn p.toInt64 x y = some (decide (a ≤ p.toInt ∧ p.toInt ≤ b)) := by rw [sx_isIn, ha, hb]
theorem op_of (h : Inv k c m) (p q : Int32) : ∃ r, fx_K_of p q c = some r ∧ fx_D_of p q m = some r := by
  obtain ⟨⟨L, T, U, hN, hG, hL, -⟩, -⟩ := h
  unfold fx_K_of fx_D_of
  rcases h_lump hN.2.2.2.1 hN.2.2.2.2.1 hN.1 p with ⟨l, hl, rfl, e1, e2⟩ | ⟨-, e1, e2⟩
  · rw [e1, e2, kp_b1, kp_b1, if_pos rfl, if_pos rfl]
    have hl10 : l < 10 := by have := hN.1; omega
    have G : kv_in (nI l) 10 = true := kp_in_nI hl10 (by omega)
    obtain ⟨r0, r1, r2, r3, r4, r5, -, -, -, -, ⟨r6, -⟩, -⟩ := hL l hl
    have g0 : fx_D_get (nI l) 0 m = some (c 3 l) := by show fx_D_get (nI l) (nI 0) m = _; rw [sx_get hl10 (by omega)]; exact congrArg some r0
    have g1 : fx_D_get (nI l) 1 m = some (c 4 l) := by show fx_D_get (nI l) (nI 1) m = _; rw [sx_get hl10 (by omega), show 10 + 6 * l + 1 = 11 + 6 * l by omega]; exact congrArg some r1
    have g2 : fx_D_get (nI l) 2 m = some (c 5 l) := by show fx_D_get (nI l) (nI 2) m = _; rw [sx_get hl10 (by omega), show 10 + 6 * l + 2 = 12 + 6 * l by omega]; exact congrArg some r2
    have g3 : fx_D_get (nI l) 3 m = some (c 6 l) := by show fx_D_get (nI l) (nI 3) m = _; rw [sx_get hl10 (by omega), show 10 + 6 * l + 3 = 13 + 6 * l by omega]; exact congrArg some r3
    have g4 : fx_D_get (nI l) 4 m = some (if c 8 l = 0 then 0 else c 7 l + 1) := by show fx_D_get (nI l) (nI 4) m = _; rw [sx_get hl10 (by omega), show 10 + 6 * l + 4 = 14 + 6 * l by omega]; exact congrArg some r4
    have g5 : fx_D_get (nI l) 5 m = some (c 8 l) := by show fx_D_get (nI l) (nI 5) m = _; rw [sx_get hl10 (by omega), show 10 + 6 * l + 5 = 15 + 6 * l by omega]; exact congrArg some r5
    rw [sx_isInL q 0 5 (by decide) (by decide), kp_b1]
    simp only [kp_gd _ G, nI_clamp (show l < 2 ^ 31 by omega)]
    by_cases q0 : q = 0
    · subst q0; exact ⟨c 3 l, rfl, by rw [if_pos (by decide), if_neg (by decide), g0]; rfl⟩
    by_cases q1 : q = 1
    · subst q1; exact ⟨c 4 l, rfl, by rw [if_pos (by decide), if_neg (by decide), g1]; rfl⟩
    by_cases q2 : q = 2
    · subst q2; exact ⟨c 5 l, rfl, by rw [if_pos (by decide), if_neg (by decide), g2]; rfl⟩
    by_cases q3 : q = 3
    · subst q3; exact ⟨c 6 l, rfl, by rw [if_pos (by decide), if_neg (by decide), g3]; rfl⟩
    by_cases q4 : q = 4
    · subst q4
      have r6 : 0 ≤ (c 8 l).toInt := r6
      by_cases z : c 8 l = 0
      · refine ⟨-1000000004, ?_, ?_⟩
        · rw [if_neg q0, if_neg q1, if_neg q2, if_neg q3, if_pos rfl, z]; rfl
        · rw [if_pos (by decide), if_pos rfl, g4, if_pos z]; rfl
      · have z2 : ¬ c 8 l ≤ 0 := fun q => by
          rw [kp_le, ki_0] at q
          exact z (by rw [kp_eq, ki_0]; omega)
        have r7 := (hL l hl).2.2.2.2.2.2.2.2.2.2.2 z
        have r8 : 0 ≤ (c 7 l).toInt ∧ (c 7 l).toInt ≤ 140 := r7
        have r9 : (c 7 l + 1).toInt = (c 7 l).toInt + 1 := by rw [kp_add] <;> rw [ki_1] <;> omega
        refine ⟨c 7 l, ?_, ?_⟩
        · rw [if_neg q0, if_neg q1, if_neg q2, if_neg q3, if_pos rfl, if_neg z2]
        · rw [if_pos (by decide), if_pos rfl, g4, if_neg z, kp_b1, if_neg, kp_b1]
          · congr 1
            rw [kp_eq, kp_sub] <;> rw [r9, ki_1] <;> omega
          · intro q
            rw [kp_eq, r9, ki_0] at q
            omega
    by_cases q5 : q = 5
    · subst q5; exact ⟨c 8 l, rfl, by rw [if_pos (by decide), if_neg (by decide), g5]; rfl⟩
    · refine ⟨-1000000001, by rw [if_neg q0, if_neg q1, if_neg q2, if_neg q3, if_neg q4, if_neg q5], ?_⟩
      rw [if_neg]
      rw [decide_eq_true_eq]
      rw [kp_eq] at q0 q1 q2 q3 q4 q5
      rw [ki_0] at q0; rw [ki_1] at q1; rw [ki_2] at q2; rw [ki_3] at q3; rw [ki_4] at q4; rw [ki_5] at q5
      omega
  · exact ⟨-1000000001, by rw [e1]; rfl, by rw [e2]; rfl⟩
end O1
