/-! ===== keep, row ===== -/
section OKp
variable {k : Nat} {c m c2 m2 : Nat → Nat → Int32}
theorem h_careOf {m : Nat → Nat → Int32} {l : Nat} (hl : l < 10) {kd ld rt : Int32} (r0 : m 85 (10 + 6 * l) = kd) (r1 : m 85 (11 + 6 * l) = ld) (r2 : m 85 (12 + 6 * l) = rt) : fx_D_careOf (nI l) m = some (i_care kd ld rt) := by
  have g0 : fx_D_get (nI l) 0 m = some kd := by show fx_D_get (nI l) (nI 0) m = _; rw [sx_get hl (by omega)]; exact congrArg some r0
  have g1 : fx_D_get (nI l) 1 m = some ld := by show fx_D_get (nI l) (nI 1) m = _; rw [sx_get hl (by omega), show 10 + 6 * l + 1 = 11 + 6 * l by omega]; exact congrArg some r1
  have g2 : fx_D_get (nI l) 2 m = some rt := by show fx_D_get (nI l) (nI 2) m = _; rw [sx_get hl (by omega), show 10 + 6 * l + 2 = 12 + 6 * l by omega]; exact congrArg some r2
  unfold fx_D_careOf i_care
  rw [g0, g1, g2]
  simp only [kp_b1, kp_let]
  split <;> (try split) <;> (try split) <;> (try split) <;> (try split) <;> (try split) <;> (try split) <;> rfl
theorem op_keep (h : Inv k c m) (p w q : Int32) : ∃ r c2 m2, fx_K_keep p w q c = some (r, c2) ∧ fx_D_keep p w q m = some (r, m2) ∧ Inv (k + 1) c2 m2 := by
  have no : ∃ r c2 m2, some ((-1 : Int32), c) = some (r, c2) ∧ some ((-1 : Int32), m) = some (r, m2) ∧ Inv (k + 1) c2 m2 := ⟨_, _, _, rfl, rfl, fr_same h⟩
  obtain ⟨L, T, U, hN, hG, hL, hP, hA, hW, hT, hX, hC⟩ := h.1
  have L10 := hN.1
  unfold fx_K_keep fx_D_keep
  rcases h_isShelf p with ⟨d, hd, rfl, e1, e2⟩ | ⟨e1, e2⟩
  rotate_left
  · rw [e1, e2]; exact no
  rw [e1, e2, sx_isWithin, sx_isInL w 0 1 (by decide) (by decide), ki_0, ki_1]
  simp only [kp_b1, if_true]
  by_cases z : 0 ≤ w.toInt ∧ w.toInt ≤ 1
  rotate_left
  · rw [decide_eq_false z]; exact no
  rw [decide_eq_true z]
  simp only [if_true]
  by_cases w0 : w = 0
  · subst w0
    unfold fj_D_keep_32 fx_Shelf_clear
    rw [if_pos rfl, if_neg (by decide), kp_gd _ (kp_in_nI hd (by omega)), kp_gd _ (kp_in_nI hd (by omega)), nI_clamp (by omega), tg_sh d hd, kp_let, kp_let, if_pos rfl, kp_b1]
    refine ⟨0, _, _, rfl, rfl, fr_shelf h hd ?_ (fun r q1 q2 _ => kp_st_ne q1) (fun r _ _ => kp_st_ne (by omega)) (fun y hy hne => ?_)⟩
    · refine ⟨?_, Or.inl ?_⟩
      · rw [kp_st, kp_st, if_pos ⟨rfl, rfl⟩, if_pos ⟨rfl, rfl⟩]
      · rw [kp_st, if_pos ⟨rfl, rfl⟩]
    · exact ⟨by rw [kp_st, if_neg (fun q => hne q.2)], by rw [kp_st_ne (by omega)], by rw [kp_st_ne (by omega)], by rw [kp_st_ne (by omega)], by rw [kp_st_ne (by omega)], fun n _ => by rw [kp_st_ne (by omega)]⟩
  have w1 : w = 1 := by
    rw [kp_eq, ki_0] at w0
    rw [kp_eq, ki_1]
    omega
  subst w1
  rw [if_neg w0, if_pos rfl]
  rcases h_lump hN.2.2.2.1 hN.2.2.2.2.1 hN.1 q with ⟨l, hl, rfl, e3, e4⟩ | ⟨-, e3, e4⟩
  rotate_left
  · rw [e3, e4]; exact no
  have hl10 : l < 10 := by omega
  obtain ⟨r0, r1, r2, r3, r4, r5, -⟩ := hL l hl
  have r0 : m 85 (10 + 6 * l) = c 3 l := r0
  have r1 : m 85 (11 + 6 * l) = c 4 l := r1
  have r2 : m 85 (12 + 6 * l) = c 5 l := r2
  have K1 : ∀ j, kv_st m 87 d 1 85 j = m 85 j := fun j => by rw [kp_st_ne (by omega)]
  have K2 : ∀ x j, kv_st (kv_st m 87 d 1) 91 d x 85 j = m 85 j := fun x j => by rw [kp_st_ne (by omega), kp_st_ne (by omega)]
  have g0 : fx_D_get (nI l) 0 (kv_st m 87 d 1) = some (c 3 l) := by show fx_D_get (nI l) (nI 0) _ = _; rw [sx_get hl10 (by omega), K1]; exact congrArg some r0
  have g1 : ∀ x, fx_D_get (nI l) 1 (kv_st (kv_st m 87 d 1) 91 d x) = some (c 4 l) := fun x => by show fx_D_get (nI l) (nI 1) _ = _; rw [sx_get hl10 (by omega), K2, show 10 + 6 * l + 1 = 11 + 6 * l by omega]; exact congrArg some r1
  have g2 : ∀ x, fx_D_get (nI l) 2 (kv_st (kv_st m 87 d 1) 91 d x) = some (c 5 l) := fun x => by show fx_D_get (nI l) (nI 2) _ = _; rw [sx_get hl10 (by omega), K2, show 10 + 6 * l + 2 = 12 + 6 * l by omega]; exact congrArg some r2
  have gc : fx_D_careOf (nI l) (kv_st m 87 d 1) = some (i_care (c 3 l) (c 4 l) (c 5 l)) := h_careOf hl10 (by rw [K1]; exact r0) (by rw [K1]; exact r1) (by rw [K1]; exact r2)
  have M : fj_D_keep_32 (nI d) m 1 (nI l) = some (0, kv_st (kv_st (kv_st m 87 d 1) 91 d (i_care (c 3 l) (c 4 l) (c 5 l))) 92 d (i_toss (c 3 l) (c 4 l) (c 5 l) (nI l))) := by
    unfold fj_D_keep_32 fj_D_keep_84 fj_D_keep_123 i_toss
    rw [kp_gd _ (kp_in_nI hd (by omega)), nI_clamp (by omega), kp_let, if_neg (by decide), g0, kp_b1, gc, kp_b1, kp_let, g2, kp_b1, g1, kp_b1]
    by_cases s1 : c 3 l = 1
    · rw [if_pos s1, if_pos (Or.inl s1)]; rfl
    rw [if_neg s1]
    by_cases s2 : c 5 l = 0
    · rw [if_pos s2, if_pos (Or.inr s2)]; rfl
    rw [if_neg s2, if_neg (show ¬ (c 3 l = 1 ∨ c 5 l = 0) from fun q => q.elim s1 s2)]
    by_cases s3 : c 3 l = 6
    · simp only [if_pos s3]
      rw [if_neg (show ¬ c 3 l = 4 by rw [s3]; decide), Int32.add_comm]; rfl
    simp only [if_neg s3]
    by_cases s4 : c 3 l = 4
    · simp only [if_pos s4]; rfl
    · simp only [if_neg s4]; rfl
  have Kc : fx_Shelf_holdLump (52 + 2 * d) (nI l) c = some (kv_st (kv_st (kv_st (kv_st (kv_st c (52 + 2 * d) 1 1) (52 + 2 * d) 4 (nI l)) (52 + 2 * d) 5 (c 3 l)) (52 + 2 * d) 6 (c 4 l)) (52 + 2 * d) 7 (c 5 l)) := by
    unfold fx_Shelf_holdLump
    rw [kp_let, kp_let, kp_gd _ (kp_in_nI hl10 (by omega)), nI_clamp (by omega), kp_let, kp_let, kp_let]
    congr 2
    · congr 1
      · rw [kp_st_ne (by omega), kp_st_ne (by omega)]
      · rw [kp_st_ne (by omega), kp_st_ne (by omega), kp_st_ne (by omega)]
    · rw [kp_st_ne (by omega), kp_st_ne (by omega), kp_st_ne (by omega), kp_st_ne (by omega)]
  rw [e3, e4, kp_b1, kp_b1, if_pos rfl, if_pos rfl, M, kp_gd _ (kp_in_nI hd (by omega)), nI_clamp (by omega), tg_sh d hd, Kc, kp_b1]
  refine ⟨0, _, _, rfl, rfl, fr_shelf h hd ?_ (fun r q1 q2 _ => by rw [kp_st_ne q1, kp_st_ne q1, kp_st_ne q1, kp_st_ne q1, kp_st_ne q1]) (fun r _ _ => by rw [kp_st_ne (by omega), kp_st_ne (by omega), kp_st_ne (by omega)]) (fun y hy hne => ?_)⟩
  · refine ⟨?_, Or.inr (Or.inl ?_)⟩
    · simp [kp_st]
    · simp [kp_st]
  · refine ⟨?_, ?_, ?_, ?_, ?_, fun n _ => ?_⟩ <;> simp [kp_st, hne]
end OKp
