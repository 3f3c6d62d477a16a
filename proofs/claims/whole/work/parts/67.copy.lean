/-! ===== copy ===== -/
section CY
variable {k : Nat} {c m : Nat → Nat → Int32}
theorem op_copy (h : Inv k c m) (p i q j n : Int32) : ∃ r c2 m2, fx_K_copy p i q j n c = some (r, c2) ∧ fx_D_copy p i q j n m = some (r, m2) ∧ Inv (k + 1) c2 m2 := by
  have no : ∀ r : Int32, ∃ r2 c2 m2, some (r, c) = some (r2, c2) ∧ some (r, m) = some (r2, m2) ∧ Inv (k + 1) c2 m2 := fun r => ⟨r, _, _, rfl, rfl, fr_same h⟩
  unfold fx_K_copy fx_D_copy
  rcases h_isShelf p with ⟨d, hd, rfl, e1, e2⟩ | ⟨e1, e2⟩
  rotate_left
  · rw [e1, e2]; exact no (-1)
  rw [e1, e2, kp_b1, kp_b1, if_pos rfl, if_pos rfl]
  rcases h_isShelf q with ⟨e, he, rfl, e1, e2⟩ | ⟨e1, e2⟩
  rotate_left
  · rw [e1, e2]; exact no (-1)
  have hD := h.2.2.1 d hd
  have hE := h.2.2.1 e he
  rw [e1, e2, kp_b1, kp_b1, if_pos rfl, if_pos rfl, kp_gd _ (kp_in_nI hd (by omega)), kp_gd _ (kp_in_nI he (by omega)), kp_gd _ (kp_in_nI hd (by omega)), nI_clamp (show d < 2 ^ 31 by omega), nI_clamp (show e < 2 ^ 31 by omega), tg_sh d hd, tg_sh e he, sx_empty, sx_empty, sx_row, sx_row, hD.1, hE.1, kp_b1]
  by_cases z1 : c (52 + 2 * d) 1 = 0
  · rw [decide_eq_true z1, if_pos rfl, if_pos z1]; exact no (-11)
  rw [decide_eq_false z1, if_neg (by decide), if_neg z1, kp_b1, kp_gd _ (kp_in_nI he (by omega))]
  by_cases z2 : c (52 + 2 * e) 1 = 0
  · rw [decide_eq_true z2, if_pos rfl, if_pos z2]; exact no (-11)
  rw [decide_eq_false z2, if_neg (by decide), if_neg z2, kp_b1]
  by_cases z3 : c (52 + 2 * d) 1 = 2
  rotate_left
  · rw [decide_eq_false z3, if_neg (by decide), if_neg z3]; exact no (-12)
  rw [decide_eq_true z3, if_pos rfl, if_pos z3, kp_b1]
  by_cases z4 : c (52 + 2 * e) 1 = 2
  rotate_left
  · rw [decide_eq_false z4, if_neg (by decide), if_neg z4]; exact no (-12)
  rw [decide_eq_true z4, if_pos rfl, if_pos z4]
  obtain ⟨sd, -, d2, d3, d4, d5, d6, d7⟩ := hr_of hD z3
  obtain ⟨se, -, s2, s3, s4, s5, s6, s7⟩ := hr_of hE z4
  rw [d2, s2]
  by_cases z5 : c (52 + 2 * d) 2 = c (52 + 2 * e) 2
  rotate_left
  · rw [if_neg z5, if_neg z5]; exact no (-12)
  rw [if_pos z5, if_pos z5, cy_part d5 d6, cy_part s5 s6, d4, s4, kp_b1]
  by_cases n0 : n < 0
  · have n0' := n0
    rw [kp_lt, ki_0] at n0'
    rw [if_pos n0, decide_eq_false (fun w => by omega)]
    exact no (-13)
  rw [if_neg n0]
  rw [kp_lt, ki_0] at n0
  by_cases i0 : i < 0
  · have i0' := i0
    rw [kp_lt, ki_0] at i0'
    rw [if_pos i0, decide_eq_false (fun w => by omega)]
    exact no (-13)
  rw [if_neg i0]
  rw [kp_lt, ki_0] at i0
  by_cases j0 : j < 0
  · have j0' := j0
    rw [kp_lt, ki_0] at j0'
    rw [if_pos j0, decide_eq_false (p := 0 ≤ j.toInt ∧ 0 ≤ n.toInt ∧ j.toInt + n.toInt ≤ se) (fun w => by omega)]
    by_cases w : 0 ≤ i.toInt ∧ 0 ≤ n.toInt ∧ i.toInt + n.toInt ≤ sd
    · rw [decide_eq_true w]; exact no (-13)
    · rw [decide_eq_false w]; exact no (-13)
  rw [if_neg j0]
  rw [kp_lt, ki_0] at j0
  have ri := kp_rng i
  have rj := kp_rng j
  have x1 : (nI sd - i).toInt = (sd : Int) - i.toInt := by rw [kp_sub] <;> rw [nI_toInt (by omega)] <;> omega
  have x2 : (nI se - j).toInt = (se : Int) - j.toInt := by rw [kp_sub] <;> rw [nI_toInt (by omega)] <;> omega
  by_cases z6 : nI sd - i < n
  · have z6' := z6
    rw [kp_lt, x1] at z6'
    rw [if_pos z6, decide_eq_false (fun w => by omega)]
    exact no (-13)
  rw [if_neg z6]
  rw [kp_lt, x1] at z6
  rw [decide_eq_true (p := 0 ≤ i.toInt ∧ 0 ≤ n.toInt ∧ i.toInt + n.toInt ≤ sd) ⟨by omega, by omega, by omega⟩, if_pos rfl, kp_b1]
  by_cases z7 : n ≤ nI se - j
  rotate_left
  · have z7' := z7
    rw [kp_le, x2] at z7'
    rw [if_neg z7, decide_eq_false (fun w => by omega)]
    exact no (-13)
  rw [if_pos z7]
  rw [kp_le, x2] at z7
  rw [decide_eq_true (p := 0 ≤ j.toInt ∧ 0 ≤ n.toInt ∧ j.toInt + n.toInt ≤ se) ⟨by omega, by omega, by omega⟩, if_pos rfl]
  obtain ⟨ni, rfl, hi, hi2⟩ := kp_nat (x := i) (by omega)
  obtain ⟨nj, rfl, hj, hj2⟩ := kp_nat (x := j) (by omega)
  obtain ⟨nn, rfl, hn, hn2⟩ := kp_nat (x := n) (by omega)
  have cp : kv_cp (nI ni) (nI nj) (nI nn) 100 100 = true := by
    unfold kv_cp
    rw [nI_toInt (by omega), nI_toInt (by omega), nI_toInt (by omega), nI_clamp (by omega), nI_clamp (by omega), nI_clamp (by omega)]
    simp
    omega
  obtain ⟨m3, g1, g2⟩ := cy_loop hd he (i := ni) (j := nj) (n := nn) (by omega) (by omega) m
  rw [kp_gd _ cp, tg_el d hd, tg_el e he, nI_clamp hi2, nI_clamp hj2, nI_clamp hn2, kp_let, g1, kp_sb1]
  have C : ∀ r, r ≠ 53 + 2 * e → va_up c (53 + 2 * e) (va_cpy (c (53 + 2 * d)) (c (53 + 2 * e)) ni nj nn) r = c r := fun r hr => if_neg hr
  have CE : va_up c (53 + 2 * e) (va_cpy (c (53 + 2 * d)) (c (53 + 2 * e)) ni nj nn) (53 + 2 * e) = va_cpy (c (53 + 2 * d)) (c (53 + 2 * e)) ni nj nn := if_pos rfl
  have M : ∀ r, r ≠ 90 → m3 r = m r := fun r hr => by
    funext v
    rw [g2, if_neg (fun w => hr w.1)]
  refine ⟨_, _, m3, rfl, rfl, fr_shelf h he ?_ (fun r _ q2 _ => C r q2) (fun r _ _ => M r (by omega)) (fun y hy hne => ?_)⟩
  · unfold iH1
    rw [C (52 + 2 * e) (by omega), CE, M 87 (by omega), M 88 (by omega), M 89 (by omega), M 91 (by omega), M 92 (by omega)]
    refine ⟨hE.1, Or.inr (Or.inr ⟨z4, s2, s3, s4.trans s5.symm, by rw [s5, nI_toInt (by omega)]; exact ⟨by omega, by omega⟩, fun v hv => ?_⟩)⟩
    rw [g2]
    by_cases z : nj ≤ v ∧ v < nj + nn
    · rw [if_pos ⟨rfl, by omega, by omega⟩, pk_cpy_in z.1 z.2, show 100 * d + ni + (100 * e + v - (100 * e + nj)) = 100 * d + (ni + (v - nj)) by omega, d7 _ (by omega)]
    · rw [if_neg (by omega), pk_cpy_out (by omega), s7 v hv]
  · refine ⟨by rw [M 87 (by omega)], by rw [M 88 (by omega)], by rw [M 89 (by omega)], by rw [M 91 (by omega)], by rw [M 92 (by omega)], fun v hv => ?_⟩
    rw [g2, if_neg (by omega)]
end CY
