/-! ===== row ===== -/
section OR
variable {k : Nat} {c m c2 m2 : Nat → Nat → Int32}
theorem ln_el : ∀ d, d < 8 → kv_ln (53 + 2 * d) = 100 := by decide
theorem h_fill (r : Nat) (v : Int32) (hr : kv_ln r < 2 ^ 31) : ∃ c3, fx_Arr_fill_s r v c = some c3 ∧ ∀ q j, c3 q j = if q = r ∧ j < kv_ln r then v else c q j := by
  have key := kp_inv (kv_u2 (fb_Arr_fill_s_5 (Int32.ofNat (kv_ln r)) r v)) (fun i s => ∃ c3, s = (nI i, c3) ∧ ∀ q j, c3 q j = if q = r ∧ j < i then v else c q j) (fun c3 => ∀ q j, c3 q j = if q = r ∧ j < kv_ln r then v else c q j) (kv_ln r) ?_ ?_ ((0 : Int32), c) ⟨c, rfl, fun q j => by rw [if_neg (by omega)]⟩
  · obtain ⟨c3, h1, h2⟩ := key
    refine ⟨c3, ?_, h2⟩
    unfold fx_Arr_fill_s
    rw [kp_let, h1]; rfl
  · rintro i s hi ⟨c3, rfl, h3⟩
    refine Or.inl ⟨(nI (i + 1), kv_st c3 r i v), ?_, _, rfl, fun q j => ?_⟩
    · show fb_Arr_fill_s_5 (nI (kv_ln r)) r v (nI i) c3 = _
      unfold fb_Arr_fill_s_5
      rw [if_neg (nI_ge hi hr), kp_gd _ (kp_in_nI hi hr), nI_clamp (by omega), kp_let, nI_1]
    · rw [kp_st, h3]
      by_cases z : q = r ∧ j = i
      · rw [if_pos z, if_pos ⟨z.1, by omega⟩]
      · rw [if_neg z]
        by_cases z2 : q = r ∧ j < i
        · rw [if_pos z2, if_pos ⟨z2.1, by omega⟩]
        · rw [if_neg z2, if_neg (by omega)]
  · rintro s ⟨c3, rfl, h3⟩
    refine ⟨c3, ?_, h3⟩
    show fb_Arr_fill_s_5 (nI (kv_ln r)) r v (nI (kv_ln r)) c3 = _
    unfold fb_Arr_fill_s_5
    rw [if_pos (nI_le (Nat.le_refl _) hr)]
theorem h_zero {d : Nat} (hd : d < 8) (m : Nat → Nat → Int32) : ∃ m3, kv_loop (kv_u2 (fb_D_row_58 (nI d))) ((0 : Int32), m) = some m3 ∧ ∀ q j, m3 q j = if q = 90 ∧ 100 * d ≤ j ∧ j < 100 * d + 100 then 0 else m q j := by
  refine kp_inv (kv_u2 (fb_D_row_58 (nI d))) (fun i s => ∃ m3, s = (nI i, m3) ∧ ∀ q j, m3 q j = if q = 90 ∧ 100 * d ≤ j ∧ j < 100 * d + i then 0 else m q j) _ 100 ?_ ?_ ((0 : Int32), m) ⟨m, rfl, fun q j => by rw [if_neg (by omega)]⟩
  · rintro i s hi ⟨c3, rfl, h3⟩
    refine Or.inl ⟨(nI (i + 1), kv_st c3 90 (100 * d + i) 0), ?_, _, rfl, fun q j => ?_⟩
    · show fb_D_row_58 (nI d) (nI i) c3 = _
      unfold fb_D_row_58
      have b1 : ((100 : Int32) * nI d) + nI i = nI (100 * d + i) := by
        have : (100 : Int32) * nI d = nI (100 * d) := pk_mul 100 d
        rw [this, nI_add]
      have b2 : ¬ (100 : Int32) ≤ nI i := nI_ge (b := 100) hi (by omega)
      rw [if_neg b2, b1, kp_gd _ (kp_in_nI (by omega) (by omega)), nI_clamp (by omega), kp_let, nI_1]
    · rw [kp_st, h3]
      by_cases z : q = 90 ∧ j = 100 * d + i
      · rw [if_pos z, if_pos ⟨z.1, by omega⟩]
      · rw [if_neg z]
        by_cases z2 : q = 90 ∧ 100 * d ≤ j ∧ j < 100 * d + i
        · rw [if_pos z2, if_pos ⟨z2.1, by omega⟩]
        · rw [if_neg z2, if_neg (by omega)]
  · rintro s ⟨c3, rfl, h3⟩
    exact ⟨c3, rfl, h3⟩
theorem op_row (h : Inv k c m) (p s n : Int32) : ∃ r c2 m2, fx_K_row p s n c = some (r, c2) ∧ fx_D_row p s n m = some (r, m2) ∧ Inv (k + 1) c2 m2 := by
  have no : ∃ r c2 m2, some ((-1 : Int32), c) = some (r, c2) ∧ some ((-1 : Int32), m) = some (r, m2) ∧ Inv (k + 1) c2 m2 := ⟨_, _, _, rfl, rfl, fr_same h⟩
  unfold fx_K_row fx_D_row
  rcases h_isShelf p with ⟨d, hd, rfl, e1, e2⟩ | ⟨e1, e2⟩
  rotate_left
  · rw [e1, e2]; exact no
  rw [e1, e2, sx_isWithin, sx_isInL s 0 2 (by decide) (by decide), ki_0, ki_2]
  simp only [kp_b1, if_true]
  by_cases z : 0 ≤ s.toInt ∧ s.toInt ≤ 2
  rotate_left
  · rw [decide_eq_false z]; exact no
  rw [decide_eq_true z]
  simp only [if_true]
  by_cases z1 : n ≤ 100
  rotate_left
  · rw [if_neg z1, if_neg z1]; exact no
  rw [if_pos z1, if_pos z1]
  by_cases z2 : 0 ≤ n
  rotate_left
  · rw [if_neg z2, if_neg z2]
    exact ⟨-14, c, m, rfl, rfl, fr_same h⟩
  rw [if_pos z2, if_pos z2, kp_gd _ (kp_in_nI hd (by omega)), kp_gd _ (kp_in_nI hd (by omega)), nI_clamp (by omega), tg_sh d hd]
  rw [kp_le, ki_100] at z1
  rw [kp_le, ki_0] at z2
  simp only [kp_let]
  unfold fx_Shelf_holdRow
  simp only [kp_let, tg_el d hd]
  obtain ⟨c3, f1, f2⟩ := h_fill (c := kv_st (kv_st (kv_st c (52 + 2 * d) 1 2) (52 + 2 * d) 2 s) (52 + 2 * d) 3 n) (53 + 2 * d) 0 (by rw [ln_el d hd]; omega)
  obtain ⟨m3, g1, g2⟩ := h_zero hd (kv_st (kv_st (kv_st m 87 d 2) 88 d s) 89 d n)
  rw [ln_el d hd] at f2
  rw [f1, g1]
  simp only [kp_b1]
  refine ⟨0, c3, m3, rfl, rfl, fr_shelf h hd ?_ (fun r q1 q2 _ => ?_) (fun r _ _ => ?_) (fun y hy hne => ?_)⟩
  · have s3 : s = 0 ∨ s = 1 ∨ s = 2 := by
      rw [kp_eq, kp_eq, kp_eq, ki_0, ki_1, ki_2]
      omega
    have x1 : c3 (52 + 2 * d) 1 = 2 := by rw [f2, if_neg (by omega)]; simp [kp_st]
    have x2 : c3 (52 + 2 * d) 2 = s := by rw [f2, if_neg (by omega)]; simp [kp_st]
    have x3 : c3 (52 + 2 * d) 3 = n := by rw [f2, if_neg (by omega)]; simp [kp_st]
    have y1 : m3 87 d = 2 := by rw [g2, if_neg (by omega)]; simp [kp_st]
    have y2 : m3 88 d = s := by rw [g2, if_neg (by omega)]; simp [kp_st]
    have y3 : m3 89 d = n := by rw [g2, if_neg (by omega)]; simp [kp_st]
    unfold iH1
    rw [x1, x2, x3, y1, y2, y3]
    refine ⟨rfl, Or.inr (Or.inr ⟨rfl, rfl, s3, rfl, ⟨by omega, by omega⟩, fun i hi => ?_⟩)⟩
    rw [g2, f2, if_pos ⟨rfl, by omega, by omega⟩, if_pos ⟨rfl, hi⟩]
  · funext j
    rw [f2, if_neg (by omega), kp_st_ne q1, kp_st_ne q1, kp_st_ne q1]
  · funext j
    rw [g2, if_neg (by omega), kp_st_ne (by omega), kp_st_ne (by omega), kp_st_ne (by omega)]
  · refine ⟨?_, ?_, ?_, ?_, ?_, fun i hi => ?_⟩ <;> (rw [g2, if_neg (by omega)]; simp [kp_st, hne])
end OR
