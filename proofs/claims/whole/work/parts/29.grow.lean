/-! ===== growth ===== -/
section OG
variable {k : Nat} {c m : Nat → Nat → Int32}
theorem kp_vnar0 : vp_nar .boolean 0 = 0 := by decide
theorem kp_vnar1 : vp_nar .boolean 1 = 1 := by decide
/-- what growth reads of lump l: six numbers each -/
def g_at (c m : Nat → Nat → Int32) (l : Nat) : Prop := m 85 (10 + 6 * l) = c 3 l ∧ m 85 (11 + 6 * l) = c 4 l ∧ m 85 (12 + 6 * l) = c 5 l ∧ m 85 (14 + 6 * l) = (if c 8 l = 0 then 0 else c 7 l + 1) ∧ (0 ≤ (c 4 l).toInt ∧ (c 4 l).toInt ≤ 5) ∧ (-9 ≤ (c 5 l).toInt ∧ (c 5 l).toInt ≤ 9) ∧ 0 ≤ (c 8 l).toInt ∧ (c 8 l ≠ 0 → 0 ≤ (c 7 l).toInt ∧ (c 7 l).toInt ≤ 140) ∧ ∀ i, i < 6 → m 85 (70 + i) = c 9 i ∧ 0 ≤ (c 9 i).toInt ∧ (c 9 i).toInt ≤ 9
theorem g_of {v : Nat} {b : Int} {l : Nat} (h : iL1 (i_v c 1) (m 85) b l) (hA : iA (i_v c 1) (m 85)) : g_at c m l := by
  obtain ⟨h1, h2, h3, h4, h5, h6, h7, h8, h9, h10, h11, h12⟩ := h
  exact ⟨h1, h2, h3, h5, h8, h9, h11.1, h12, hA.1⟩
theorem h_growth {l : Nat} (hl : l < 10) (h : g_at c m l) {y : Int32} (hy1 : 0 ≤ y.toInt) (hy2 : y.toInt ≤ 140) : ∃ g : Int32, fx_Lumps_growth (nI l) y c = some g ∧ fx_D_growth (nI l) y m = some g ∧ -60 ≤ g.toInt ∧ g.toInt ≤ 60 := by
  obtain ⟨r0, r1, r2, r4, a1, a2, a3, a4, a5⟩ := h
  have g0 : fx_D_get (nI l) 0 m = some (c 3 l) := by show fx_D_get (nI l) (nI 0) m = _; rw [sx_get hl (by omega)]; exact congrArg some r0
  have g1 : fx_D_get (nI l) 1 m = some (c 4 l) := by show fx_D_get (nI l) (nI 1) m = _; rw [sx_get hl (by omega), show 10 + 6 * l + 1 = 11 + 6 * l by omega]; exact congrArg some r1
  have g2 : fx_D_get (nI l) 2 m = some (c 5 l) := by show fx_D_get (nI l) (nI 2) m = _; rw [sx_get hl (by omega), show 10 + 6 * l + 2 = 12 + 6 * l by omega]; exact congrArg some r2
  have g4 : fx_D_get (nI l) 4 m = some (if c 8 l = 0 then 0 else c 7 l + 1) := by show fx_D_get (nI l) (nI 4) m = _; rw [sx_get hl (by omega), show 10 + 6 * l + 4 = 14 + 6 * l by omega]; exact congrArg some r4
  obtain ⟨ld, e1, e2, e3⟩ := kp_nat a1.1
  have hld : ld < 6 := by omega
  obtain ⟨b1, b2, b3⟩ := a5 ld hld
  have G : kv_in (nI l) 10 = true := kp_in_nI hl (by omega)
  have cl : (nI l).toNatClampNeg = l := nI_clamp (by omega)
  have e70 : (70 : Int32) + nI ld = nI (70 + ld) := nI_add 70 ld
  unfold fx_Lumps_growth fx_D_growth
  simp only [kp_gd _ G, cl, g0, g1, g2, g4, kp_b1, kp_let]
  by_cases k2 : c 3 l = 2
  · simp only [if_pos k2]
    by_cases z : y - y / 4 * 4 = 0
    · simp only [if_pos z]
      exact ⟨_, rfl, rfl, by rw [kp_add] <;> rw [ki_1] <;> omega, by rw [kp_add] <;> rw [ki_1] <;> omega⟩
    · simp only [if_neg z]
      exact ⟨_, rfl, rfl, by omega, by omega⟩
  simp only [if_neg k2]
  by_cases k3 : c 3 l = 3
  · simp only [if_pos k3, e1, kp_gd _ (kp_in_nI hld (by omega)), e70, kp_gd _ (kp_in_nI (show 70 + ld < 444 by omega) (by omega)), nI_clamp (show ld < 2 ^ 31 by omega), nI_clamp (show 70 + ld < 2 ^ 31 by omega), b1]
    exact ⟨_, rfl, rfl, by rw [kp_add] <;> omega, by rw [kp_add] <;> omega⟩
  simp only [if_neg k3]
  by_cases k4 : c 3 l = 4
  · simp only [if_pos k4, e1, kp_gd _ (kp_in_nI hld (by omega)), e70, kp_gd _ (kp_in_nI (show 70 + ld < 444 by omega) (by omega)), nI_clamp (show ld < 2 ^ 31 by omega), nI_clamp (show 70 + ld < 2 ^ 31 by omega), b1]
    have q : (c 5 l + c 9 ld).toInt = (c 5 l).toInt + (c 9 ld).toInt := by rw [kp_add] <;> omega
    exact ⟨_, rfl, rfl, by rw [kp_sub] <;> rw [q, ki_2] <;> omega, by rw [kp_sub] <;> rw [q, ki_2] <;> omega⟩
  simp only [if_neg k4]
  by_cases k5 : c 3 l = 5
  · simp only [if_pos k5]
    have q2 : ((2 : Int32) * c 5 l).toInt = 2 * (c 5 l).toInt := by rw [kp_mul] <;> rw [ki_2] <;> omega
    by_cases z : c 8 l = 0
    · have e : fx_Lumps_isFreshlyWashed (nI l) y c = some false := by
        unfold fx_Lumps_isFreshlyWashed
        rw [kp_gd _ G, cl, z]; rfl
      rw [e, kp_b1, if_neg (by decide), if_pos z, if_pos (by decide)]
      exact ⟨_, rfl, rfl, by omega, by omega⟩
    · obtain ⟨u1, u2⟩ := a4 z
      have w1 : (c 7 l + 1).toInt = (c 7 l).toInt + 1 := by rw [kp_add] <;> rw [ki_1] <;> omega
      have w2 : c 7 l + 1 - 1 = c 7 l := by rw [kp_eq, kp_sub] <;> rw [w1, ki_1] <;> omega
      have e : fx_Lumps_isFreshlyWashed (nI l) y c = some (decide (0 ≤ (y - c 7 l).toInt ∧ (y - c 7 l).toInt ≤ 2)) := by
        unfold fx_Lumps_isFreshlyWashed
        have z2 : ¬ c 8 l ≤ 0 := fun q => by
          rw [kp_le, ki_0] at q
          exact z (by rw [kp_eq, ki_0]; omega)
        rw [kp_gd _ G, cl, if_neg z2, sx_isWithin, kp_b1, ki_0, ki_2]
        by_cases q : 0 ≤ (y - c 7 l).toInt ∧ (y - c 7 l).toInt ≤ 2
        · rw [if_pos (decide_eq_true q), decide_eq_true q]
        · rw [if_neg (fun r => q (of_decide_eq_true r)), decide_eq_false q]
      have z3 : ¬ c 7 l + 1 - 1 < 0 := by rw [w2, kp_lt, ki_0]; omega
      rw [e, kp_b1, if_neg z, if_neg z3, w2, sx_isInL _ 0 2 (by decide) (by decide), kp_b1]
      by_cases q : 0 ≤ (y - c 7 l).toInt ∧ (y - c 7 l).toInt ≤ 2
      · simp only [if_pos (decide_eq_true q)]
        exact ⟨_, rfl, rfl, by omega, by omega⟩
      · simp only [if_neg (fun r => q (of_decide_eq_true r))]
        exact ⟨_, rfl, rfl, by omega, by omega⟩
  simp only [if_neg k5]
  by_cases k6 : c 3 l = 6
  · simp only [if_pos k6]
    by_cases z : y - y / 40 * 40 = 13
    · simp only [if_pos z]
      have i50 : (50 : Int32).toInt = 50 := by decide
      exact ⟨_, rfl, rfl, by rw [kp_sub] <;> rw [i50] <;> omega, by rw [kp_sub] <;> rw [i50] <;> omega⟩
    · simp only [if_neg z]
      exact ⟨_, rfl, rfl, by omega, by omega⟩
  simp only [if_neg k6]
  by_cases k7 : c 3 l = 7
  · simp only [if_pos k7]
    exact ⟨_, rfl, rfl, by decide, by decide⟩
  simp only [if_neg k7]
  exact ⟨_, rfl, rfl, by omega, by omega⟩
theorem h_isYear (p : Int32) : (0 ≤ p.toInt ∧ p.toInt ≤ 140 ∧ fx_K_isYear p = some true ∧ fx_D_isYear p = some true) ∨ (¬ (0 ≤ p.toInt ∧ p.toInt ≤ 140) ∧ fx_K_isYear p = some false ∧ fx_D_isYear p = some false) := by
  have e1 : fx_K_isYear p = some (decide (0 ≤ p.toInt ∧ p.toInt ≤ 140)) := by
    unfold fx_K_isYear
    rw [sx_isWithin, kp_b1, ki_0, ki_140]
  have e2 : fx_D_isYear p = some (decide (0 ≤ p.toInt ∧ p.toInt ≤ 140)) := by
    unfold fx_D_isYear
    rw [sx_isInL p 0 140 (by decide) (by decide), kp_b1]
  by_cases q : 0 ≤ p.toInt ∧ p.toInt ≤ 140
  · exact Or.inl ⟨q.1, q.2, by rw [e1, decide_eq_true q], by rw [e2, decide_eq_true q]⟩
  · exact Or.inr ⟨q, by rw [e1, decide_eq_false q], by rw [e2, decide_eq_false q]⟩
theorem op_grows (h : Inv k c m) (p q : Int32) : ∃ r, fx_K_grows p q c = some r ∧ fx_D_grows p q m = some r := by
  obtain ⟨⟨L, T, U, hN, hG, hL, hP, hA, -⟩, -⟩ := h
  unfold fx_K_grows fx_D_grows
  rcases h_lump hN.2.2.2.1 hN.2.2.2.2.1 hN.1 p with ⟨l, hl, rfl, e1, e2⟩ | ⟨-, e1, e2⟩
  · rcases h_isYear q with ⟨y1, y2, e3, e4⟩ | ⟨-, e3, e4⟩
    · obtain ⟨g, g1, g2, -⟩ := h_growth (show l < 10 by have := hN.1; omega) (g_of (v := 0) (hL l hl) hA) y1 y2
      rw [e1, e2, e3, e4, g1, g2]
      exact ⟨g, rfl, rfl⟩
    · rw [e1, e2, e3, e4]
      exact ⟨_, rfl, rfl⟩
  · rw [e1, e2]
    exact ⟨_, rfl, rfl⟩
end OG
