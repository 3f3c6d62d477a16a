/-! ===== hear, copy ===== -/
section HR
variable {k : Nat} {c m : Nat → Nat → Int32}
/-- a row on both sides -/
def hr_row (c m : Nat → Nat → Int32) (d sz : Nat) : Prop := c (52 + 2 * d) 1 = 2 ∧ m 88 d = c (52 + 2 * d) 2 ∧ (c (52 + 2 * d) 2 = 0 ∨ c (52 + 2 * d) 2 = 1 ∨ c (52 + 2 * d) 2 = 2) ∧ m 89 d = nI sz ∧ c (52 + 2 * d) 3 = nI sz ∧ sz ≤ 100 ∧ ∀ i, i < 100 → m 90 (100 * d + i) = c (53 + 2 * d) i
theorem hr_of {d : Nat} (h : iH1 c m d) (z : c (52 + 2 * d) 1 = 2) : ∃ sz, hr_row c m d sz := by
  rcases h.2 with q | q | ⟨-, q1, q2, q3, ⟨q4, q5⟩, q6⟩
  · rw [z] at q; exact absurd q (by decide)
  · rw [z] at q; exact absurd q.1 (by decide)
  · obtain ⟨sz, e1, e2, -⟩ := kp_nat q4
    exact ⟨sz, z, q1, q2, by rw [q3, e1], e1, by omega, q6⟩
theorem hr_ix {d i : Nat} : ((100 : Int32) * nI d) + nI i = nI (100 * d + i) := by
  have : (100 : Int32) * nI d = nI (100 * d) := pk_mul 100 d
  rw [this, nI_add]
theorem hr_lost {d sz i : Nat} (hd : d < 8) (h : hr_row c m d sz) (hi : i + 5 ≤ 100) : ∃ b, fx_Shelf_isLost (52 + 2 * d) (nI i) c = some b ∧ fx_D_isLost (nI d) (nI (100 * d + i)) m = some b := by
  obtain ⟨h1, h2, h3, h4, h5, h6, h7⟩ := h
  have core : ∀ x : Int32, fx_Shelf_leastNumber (52 + 2 * d) c = some x → ∃ b, fx_Shelf_isLost (52 + 2 * d) (nI i) c = some b ∧ fj_D_isLost_32 (nI (100 * d + i)) m x = some b := by
    intro x hx
    obtain ⟨r, w, s1, s2, s3⟩ := kp_sim (kv_u1 (fb_Shelf_isLost_2 (nI i) (52 + 2 * d) c)) (kv_u1 (fb_D_isLost_36 (nI (100 * d + i)) m x)) (fun j s t => s = nI j ∧ t = nI j) (fun r w => r = w) 5 (by
      rintro j s t hj ⟨rfl, rfl⟩
      have b5 : ¬ (5 : Int32) ≤ nI j := nI_ge (b := 5) hj (by omega)
      have K1 : kv_u1 (fb_Shelf_isLost_2 (nI i) (52 + 2 * d) c) (nI j) = if c (53 + 2 * d) (i + j) = x then some (.inr (.inl ())) else some (.inl (nI (j + 1))) := by
        show fb_Shelf_isLost_2 (nI i) (52 + 2 * d) c (nI j) = _
        unfold fb_Shelf_isLost_2
        rw [if_neg b5, nI_add, kp_gd _ (kp_in_nI (by omega) (by omega)), nI_clamp (by omega), hx, kp_b1, tg_el d hd, nI_1]
      have D1 : kv_u1 (fb_D_isLost_36 (nI (100 * d + i)) m x) (nI j) = if c (53 + 2 * d) (i + j) = x then some (.inr (.inl ())) else some (.inl (nI (j + 1))) := by
        show fb_D_isLost_36 (nI (100 * d + i)) m x (nI j) = _
        unfold fb_D_isLost_36
        rw [if_neg b5, nI_add, kp_gd _ (kp_in_nI (by omega) (by omega)), nI_clamp (by omega), show 100 * d + i + j = 100 * d + (i + j) by omega, h7 (i + j) (by omega), nI_1]
      rw [K1, D1]
      by_cases z : c (53 + 2 * d) (i + j) = x
      · rw [if_pos z]
        exact Or.inr ⟨_, _, rfl, rfl, rfl⟩
      · rw [if_neg z]
        exact Or.inl ⟨_, _, rfl, rfl, rfl, rfl⟩) (by
      rintro s t ⟨rfl, rfl⟩
      exact ⟨.inr (), .inr (), rfl, rfl, rfl⟩) (0 : Int32) (0 : Int32) ⟨rfl, rfl⟩
    subst s3
    unfold fx_Shelf_isLost fj_D_isLost_32
    rw [s1, s2]
    cases r with
    | inl _ => exact ⟨true, rfl, rfl⟩
    | inr _ => exact ⟨false, rfl, rfl⟩
  unfold fx_D_isLost
  rw [kp_gd _ (kp_in_nI hd (by omega)), nI_clamp (by omega), h2]
  unfold fx_Shelf_leastNumber at core
  by_cases z0 : c (52 + 2 * d) 2 = 0
  · rw [if_pos z0]
    exact core _ (by rw [if_pos z0])
  · rw [if_neg z0]
    by_cases z1 : c (52 + 2 * d) 2 = 1
    · rw [if_pos z1]
      exact core _ (by rw [if_neg z0, if_pos z1])
    · rw [if_neg z1]
      exact core _ (by rw [if_neg z0, if_neg z1])
theorem hr_row_fr {c2 m2 : Nat → Nat → Int32} {d sz : Nat} (h : hr_row c m d sz) (e : ∀ q, q < 10 ∨ 16 < q → c2 q = c q) (f : ∀ q, q ≠ 85 → m2 q = m q) : hr_row c2 m2 d sz := by
  unfold hr_row at h ⊢
  rw [e (52 + 2 * d) (by omega), e (53 + 2 * d) (by omega), f 88 (by omega), f 89 (by omega), f 90 (by omega)]
  exact h
/-- one weighing of a row: it comes on both sides, or the reading ends -/
theorem hr_one (h : Inv k c m) {d sz i : Nat} (hd : d < 8) (hr : hr_row c m d sz) (hi : i + 5 ≤ 100) : ∃ L T : Nat, c 2 7 = nI L ∧ m 85 1 = nI L ∧ L ≤ 10 ∧ c 10 7 = nI T ∧ m 85 2 = nI T ∧ T ≤ 20 ∧ ((fx_K_isTold (52 + 2 * d) (nI i) c = some true ∧ (T < 20 ∧ (0 ≤ (c (53 + 2 * d) i).toInt ∧ (c (53 + 2 * d) i).toInt ≤ 140) ∧ (∃ a b, a < L ∧ b < L ∧ a ≠ b ∧ c (53 + 2 * d) (i + 1) = nI a ∧ c (53 + 2 * d) (i + 2) = nI b) ∧ (-99999 ≤ (c (53 + 2 * d) (i + 3)).toInt ∧ (c (53 + 2 * d) (i + 3)).toInt ≤ 99999) ∧ (0 ≤ (c (53 + 2 * d) (i + 4)).toInt ∧ (c (53 + 2 * d) (i + 4)).toInt ≤ 99))) ∨ (fx_K_isTold (52 + 2 * d) (nI i) c = some false ∧ ¬ (T < 20 ∧ (0 ≤ (c (53 + 2 * d) i).toInt ∧ (c (53 + 2 * d) i).toInt ≤ 140) ∧ (∃ a b, a < L ∧ b < L ∧ a ≠ b ∧ c (53 + 2 * d) (i + 1) = nI a ∧ c (53 + 2 * d) (i + 2) = nI b) ∧ (-99999 ≤ (c (53 + 2 * d) (i + 3)).toInt ∧ (c (53 + 2 * d) (i + 3)).toInt ≤ 99999) ∧ (0 ≤ (c (53 + 2 * d) (i + 4)).toInt ∧ (c (53 + 2 * d) (i + 4)).toInt ≤ 99)))) := by
  obtain ⟨L, T, U, hN, -⟩ := h.1
  have hcL : c 2 7 = nI L := hN.2.2.2.1
  have hcT : c 10 7 = nI T := hN.2.2.2.2.2.1
  refine ⟨L, T, hcL, hN.2.2.2.2.1, hN.1, hcT, hN.2.2.2.2.2.2.1, hN.2.1, ?_⟩
  have hL := hN.1
  have hT := hN.2.1
  have i1 : nI i + (1 : Int32) = nI (i + 1) := nI_1 i
  have i2 : nI i + (2 : Int32) = nI (i + 2) := nI_add i 2
  have i3 : nI i + (3 : Int32) = nI (i + 3) := nI_add i 3
  have i4 : nI i + (4 : Int32) = nI (i + 4) := nI_add i 4
  unfold fx_K_isTold
  rw [hcT]
  by_cases z0 : T < 20
  rotate_left
  · have b20 : (20 : Int32) ≤ nI T := nI_le (a := 20) (by omega) (by omega)
    rw [if_pos b20]
    exact Or.inr ⟨rfl, fun w => z0 w.1⟩
  have b20 : ¬ (20 : Int32) ≤ nI T := nI_ge (b := 20) z0 (by omega)
  rw [if_neg b20, kp_gd _ (kp_in_nI (show i < 100 by omega) (by omega)), nI_clamp (show i < 2 ^ 31 by omega), tg_el d hd]
  rcases h_isYear (c (53 + 2 * d) i) with ⟨y1, y2, e1, e2⟩ | ⟨y1, e1, e2⟩
  rotate_left
  · rw [e1]
    exact Or.inr ⟨rfl, fun w => y1 w.2.1⟩
  rw [e1, kp_b1, if_pos rfl, i1, kp_gd _ (kp_in_nI (show i + 1 < 100 by omega) (by omega)), nI_clamp (show i + 1 < 2 ^ 31 by omega), i2, kp_gd _ (kp_in_nI (show i + 2 < 100 by omega) (by omega)), nI_clamp (show i + 2 < 2 ^ 31 by omega)]
  unfold fx_Lumps_hasPair
  rcases h_has hcL hL (c (53 + 2 * d) (i + 1)) with ⟨a, ha, ea, e3⟩ | ⟨na, e3⟩
  rotate_left
  · rw [e3]
    exact Or.inr ⟨rfl, fun w => by
      obtain ⟨a, b, a1, a2, a3, a4, a5⟩ := w.2.2.1
      rw [a4, nI_toInt (by omega)] at na
      omega⟩
  rw [e3, kp_b1, if_pos rfl]
  rcases h_has hcL hL (c (53 + 2 * d) (i + 2)) with ⟨b, hb, eb, e4⟩ | ⟨nb, e4⟩
  rotate_left
  · rw [e4]
    exact Or.inr ⟨rfl, fun w => by
      obtain ⟨a, b, a1, a2, a3, a4, a5⟩ := w.2.2.1
      rw [a5, nI_toInt (by omega)] at nb
      omega⟩
  rw [e4, kp_b1, if_pos rfl]
  by_cases hab : c (53 + 2 * d) (i + 1) = c (53 + 2 * d) (i + 2)
  · rw [if_pos hab]
    exact Or.inr ⟨rfl, fun w => by
      obtain ⟨a, b, a1, a2, a3, a4, a5⟩ := w.2.2.1
      rw [a4, a5, nI_eq (by omega) (by omega)] at hab
      exact a3 hab⟩
  rw [if_neg hab, kp_b1, if_pos rfl, i3, kp_gd _ (kp_in_nI (show i + 3 < 100 by omega) (by omega)), nI_clamp (show i + 3 < 2 ^ 31 by omega), sx_isWithin, ki_m99999, ki_99999, kp_b1]
  by_cases z3 : -99999 ≤ (c (53 + 2 * d) (i + 3)).toInt ∧ (c (53 + 2 * d) (i + 3)).toInt ≤ 99999
  rotate_left
  · rw [decide_eq_false z3]
    exact Or.inr ⟨rfl, fun w => z3 w.2.2.2.1⟩
  rw [decide_eq_true z3, if_pos rfl, i4, kp_gd _ (kp_in_nI (show i + 4 < 100 by omega) (by omega)), nI_clamp (show i + 4 < 2 ^ 31 by omega), h_isDoubt, kp_b1]
  by_cases z4 : 0 ≤ (c (53 + 2 * d) (i + 4)).toInt ∧ (c (53 + 2 * d) (i + 4)).toInt ≤ 99
  · rw [decide_eq_true z4]
    exact Or.inl ⟨rfl, z0, ⟨y1, y2⟩, ⟨a, b, ha, hb, fun e => hab (by rw [ea, eb, e]), ea, eb⟩, z3, z4⟩
  · rw [decide_eq_false z4]
    exact Or.inr ⟨rfl, fun w => z4 w.2.2.2.2⟩
theorem hr_step (h : Inv k c m) {d sz i : Nat} (hd : d < 8) (hr : hr_row c m d sz) (hi : i + 5 ≤ sz) (x : Int32) : (∃ x2 c2 m2, fb_K_hear_25 (nI d) x (nI i) c = some (.inl (x2, nI (i + 5), c2)) ∧ fb_D_hear_18 (nI d) x (nI i) m = some (.inl (x2, nI (i + 5), m2)) ∧ Inv k c2 m2 ∧ hr_row c2 m2 d sz) ∨ (fb_K_hear_25 (nI d) x (nI i) c = some (.inr (.inl (x, c))) ∧ fb_D_hear_18 (nI d) x (nI i) m = some (.inr (.inl (x, m)))) := by
  have hr2 := hr
  obtain ⟨h1, h2, h3, h4, h5, h6, h7⟩ := hr2
  obtain ⟨bl, l1, l2⟩ := hr_lost hd hr (i := i) (by omega)
  have n5 : nI i + (5 : Int32) = nI (i + 5) := nI_add i 5
  unfold fb_K_hear_25 fb_D_hear_18 fj_K_hear_71 fj_D_hear_204
  rw [kp_gd _ (kp_in_nI hd (by omega)), nI_clamp (show d < 2 ^ 31 by omega), tg_sh d hd, h5, h4, n5, if_neg (nI_nlt hi (by omega)), if_neg (nI_nlt hi (by omega)), hr_ix, kp_let, l1, l2, kp_b1, kp_b1]
  by_cases zl : bl = true
  · rw [if_pos zl, if_pos zl]
    exact Or.inl ⟨x, c, m, rfl, rfl, h, hr⟩
  rw [if_neg zl, if_neg zl]
  obtain ⟨L, T, hcL, hmL, hL, hcT, hmT, hT, ho⟩ := hr_one h hd hr (i := i) (by omega)
  have i1 : nI (100 * d + i) + (1 : Int32) = nI (100 * d + (i + 1)) := nI_1 _
  have i2 : nI (100 * d + i) + (2 : Int32) = nI (100 * d + (i + 2)) := nI_add _ 2
  have i3 : nI (100 * d + i) + (3 : Int32) = nI (100 * d + (i + 3)) := nI_add _ 3
  have i4 : nI (100 * d + i) + (4 : Int32) = nI (100 * d + (i + 4)) := nI_add _ 4
  rw [i1, kp_gd _ (kp_in_nI (show 100 * d + (i + 1) < 800 by omega) (by omega)), nI_clamp (show 100 * d + (i + 1) < 2 ^ 31 by omega), kp_let, i2, kp_gd _ (kp_in_nI (show 100 * d + (i + 2) < 800 by omega) (by omega)), nI_clamp (show 100 * d + (i + 2) < 2 ^ 31 by omega), kp_let, kp_gd _ (kp_in_nI (show 100 * d + i < 800 by omega) (by omega)), nI_clamp (show 100 * d + i < 2 ^ 31 by omega), i3, nI_clamp (show 100 * d + (i + 3) < 2 ^ 31 by omega), i4, nI_clamp (show 100 * d + (i + 4) < 2 ^ 31 by omega), h7 i (by omega), h7 (i + 1) (by omega), h7 (i + 2) (by omega), h7 (i + 3) (by omega), h7 (i + 4) (by omega)]
  rcases ho with ⟨o1, t0, ty, ⟨a, b, ha, hb, hab, ea, eb⟩, t3, t4⟩ | ⟨o1, no⟩
  · have L1 : fx_D_isLump (nI a) m = some true := by rw [nd_lt hmL hL (by omega), decide_eq_true ha]
    have L2 : fx_D_isLump (nI b) m = some true := by rw [nd_lt hmL hL (by omega), decide_eq_true hb]
    have Y1 : fx_D_isYear (c (53 + 2 * d) i) = some true := by
      rcases h_isYear (c (53 + 2 * d) i) with ⟨-, -, -, e2⟩ | ⟨y1, -, -⟩
      · exact e2
      · exact absurd ty y1
    have n20 : ¬ nI T = (20 : Int32) := fun e => by
      have := (nI_eq (b := 20) (by omega) (by omega)).mp e
      omega
    obtain ⟨c2, m2, q1, q2, q3, q4, q5, q6, q7, q8, q9⟩ := wg_tell h hcL hcT hL t0 (y := c (53 + 2 * d) i) (an := c (53 + 2 * d) (i + 3)) (db := c (53 + 2 * d) (i + 4)) ty ha hb hab ⟨by omega, by omega⟩ t4
    have ko : fx_K_hearOne (53 + 2 * d) (nI i) c = some c2 := by
      have j1 : nI i + (1 : Int32) = nI (i + 1) := nI_1 i
      have j2 : nI i + (2 : Int32) = nI (i + 2) := nI_add i 2
      have j3 : nI i + (3 : Int32) = nI (i + 3) := nI_add i 3
      have j4 : nI i + (4 : Int32) = nI (i + 4) := nI_add i 4
      unfold fx_K_hearOne
      rw [ln_el d hd, j1, j2, j3, j4, kp_gd _ (kp_in_nI (show i < 100 by omega) (by omega)), kp_gd _ (kp_in_nI (show i + 1 < 100 by omega) (by omega)), kp_gd _ (kp_in_nI (show i + 2 < 100 by omega) (by omega)), kp_gd _ (kp_in_nI (show i + 3 < 100 by omega) (by omega)), kp_gd _ (kp_in_nI (show i + 4 < 100 by omega) (by omega)), nI_clamp (show i < 2 ^ 31 by omega), nI_clamp (show i + 1 < 2 ^ 31 by omega), nI_clamp (show i + 2 < 2 ^ 31 by omega), nI_clamp (show i + 3 < 2 ^ 31 by omega), nI_clamp (show i + 4 < 2 ^ 31 by omega), ea, eb, q1, kp_b2]
    rw [o1, kp_b1, if_pos rfl, tg_el d hd, ko, kp_b1, Y1, kp_b1, if_pos rfl, ea, L1, kp_b1, if_pos rfl, eb, L2, kp_b1, if_pos rfl, if_neg (fun e => hab ((nI_eq (by omega) (by omega)).mp e)), kp_gd _ (kp_in_nI (show 100 * d + (i + 3) < 800 by omega) (by omega)), sx_isInL _ (-99999) 99999 (by decide) (by decide), decide_eq_true t3, kp_b1, if_pos rfl, kp_gd _ (kp_in_nI (show 100 * d + (i + 4) < 800 by omega) (by omega)), sx_isInL _ 0 99 (by decide) (by decide), decide_eq_true t4, kp_b1, if_pos rfl, hmT, if_neg n20, q2, kp_b1]
    exact Or.inl ⟨_, c2, m2, rfl, rfl, q3, hr_row_fr hr q4 q7⟩
  · rw [o1, kp_b1, if_neg (by decide)]
    refine Or.inr ⟨rfl, ?_⟩
    rcases h_isYear (c (53 + 2 * d) i) with ⟨y1, y2, -, e2⟩ | ⟨y1, -, e2⟩
    rotate_left
    · rw [e2]; rfl
    rw [e2, kp_b1, if_pos rfl]
    rcases h_isLump hmL hL (c (53 + 2 * d) (i + 1)) with ⟨a, ha, ea, e3⟩ | ⟨-, e3⟩
    rotate_left
    · rw [e3]; rfl
    rw [e3, kp_b1, if_pos rfl]
    rcases h_isLump hmL hL (c (53 + 2 * d) (i + 2)) with ⟨b, hb, eb, e4⟩ | ⟨-, e4⟩
    rotate_left
    · rw [e4]; rfl
    rw [e4, kp_b1, if_pos rfl]
    by_cases hab : c (53 + 2 * d) (i + 1) = c (53 + 2 * d) (i + 2)
    · rw [if_pos hab]
    rw [if_neg hab, kp_gd _ (kp_in_nI (show 100 * d + (i + 3) < 800 by omega) (by omega)), sx_isInL _ (-99999) 99999 (by decide) (by decide), kp_b1]
    by_cases z3 : -99999 ≤ (c (53 + 2 * d) (i + 3)).toInt ∧ (c (53 + 2 * d) (i + 3)).toInt ≤ 99999
    rotate_left
    · rw [decide_eq_false z3]; rfl
    rw [decide_eq_true z3, if_pos rfl, kp_gd _ (kp_in_nI (show 100 * d + (i + 4) < 800 by omega) (by omega)), sx_isInL _ 0 99 (by decide) (by decide), kp_b1]
    by_cases z4 : 0 ≤ (c (53 + 2 * d) (i + 4)).toInt ∧ (c (53 + 2 * d) (i + 4)).toInt ≤ 99
    rotate_left
    · rw [decide_eq_false z4]; rfl
    rw [decide_eq_true z4, if_pos rfl, hmT]
    by_cases zT : T < 20
    · exact absurd ⟨zT, ⟨y1, y2⟩, ⟨a, b, ha, hb, fun e => hab (by rw [ea, eb, e]), ea, eb⟩, z3, z4⟩ no
    · rw [if_pos (by rw [show T = 20 by omega]; rfl)]
theorem op_hear (h : Inv k c m) (p : Int32) : ∃ r c2 m2, fx_K_hear p c = some (r, c2) ∧ fx_D_hear p m = some (r, m2) ∧ Inv (k + 1) c2 m2 := by
  unfold fx_K_hear fx_D_hear
  rcases h_row h p with ⟨d, hd, rfl, z, e1, e2⟩ | ⟨r, hr, e1, e2⟩
  rotate_left
  · rw [e1, e2, kp_b1, kp_b1, if_neg hr, if_neg hr]
    exact ⟨r, c, m, rfl, rfl, fr_same h⟩
  obtain ⟨sz, hr⟩ := hr_of (h.2.2.1 d hd) z
  rw [e1, e2, kp_b1, kp_b1, if_pos rfl, if_pos rfl, kp_gd _ (kp_in_nI hd (by omega))]
  obtain ⟨r, w, s1, s2, x, c2, m2, s3, s4⟩ := kp_sim (kv_u3 (fb_K_hear_25 (nI d))) (kv_u3 (fb_D_hear_18 (nI d))) (fun i s t => ∃ x c2 m2, s = (x, nI (5 * i), c2) ∧ t = (x, nI (5 * i), m2) ∧ Inv k c2 m2 ∧ hr_row c2 m2 d sz) (fun r w => ∃ x c2 m2, ((r = .inl (x, c2) ∧ w = .inl (x, m2)) ∨ (r = .inr (x, c2) ∧ w = .inr (x, m2))) ∧ Inv k c2 m2) 20 (by
    rintro i s t hi ⟨x, c2, m2, rfl, rfl, q1, q2⟩
    by_cases zs : 5 * i + 5 ≤ sz
    · rcases hr_step q1 hd q2 zs x with ⟨x2, c3, m3, g1, g2, g3, g4⟩ | ⟨g1, g2⟩
      · exact Or.inl ⟨_, _, g1, g2, x2, c3, m3, by rw [show 5 * (i + 1) = 5 * i + 5 by omega], by rw [show 5 * (i + 1) = 5 * i + 5 by omega], g3, g4⟩
      · exact Or.inr ⟨_, _, g1, g2, x, c2, m2, Or.inl ⟨rfl, rfl⟩, q1⟩
    · obtain ⟨h1, h2, h3, h4, h5, h6, h7⟩ := q2
      have n5 : nI (5 * i) + (5 : Int32) = nI (5 * i + 5) := nI_add _ 5
      refine Or.inr ⟨.inr (x, c2), .inr (x, m2), ?_, ?_, x, c2, m2, Or.inr ⟨rfl, rfl⟩, q1⟩
      · show fb_K_hear_25 (nI d) x (nI (5 * i)) c2 = _
        unfold fb_K_hear_25
        rw [nI_clamp (show d < 2 ^ 31 by omega), tg_sh d hd, h5, n5, if_pos (nI_lt (by omega) (by omega))]
      · show fb_D_hear_18 (nI d) x (nI (5 * i)) m2 = _
        unfold fb_D_hear_18
        rw [kp_gd _ (kp_in_nI hd (by omega)), nI_clamp (show d < 2 ^ 31 by omega), h4, n5, if_pos (nI_lt (by omega) (by omega))]) (by
    rintro s t ⟨x, c2, m2, rfl, rfl, q1, h1, h2, h3, h4, h5, h6, h7⟩
    have n5 : nI (5 * 20) + (5 : Int32) = nI (5 * 20 + 5) := nI_add _ 5
    refine ⟨.inr (x, c2), .inr (x, m2), ?_, ?_, x, c2, m2, Or.inr ⟨rfl, rfl⟩, q1⟩
    · show fb_K_hear_25 (nI d) x (nI (5 * 20)) c2 = _
      unfold fb_K_hear_25
      rw [nI_clamp (show d < 2 ^ 31 by omega), tg_sh d hd, h5, n5, if_pos (nI_lt (by omega) (by omega))]
    · show fb_D_hear_18 (nI d) x (nI (5 * 20)) m2 = _
      unfold fb_D_hear_18
      rw [kp_gd _ (kp_in_nI hd (by omega)), nI_clamp (show d < 2 ^ 31 by omega), h4, n5, if_pos (nI_lt (by omega) (by omega))]) ((0 : Int32), (0 : Int32), c) ((0 : Int32), (0 : Int32), m) ⟨0, c, m, rfl, rfl, h, hr⟩
  rw [s1, s2]
  rcases s3 with ⟨rfl, rfl⟩ | ⟨rfl, rfl⟩
  · exact ⟨x, c2, m2, rfl, rfl, fr_same s4⟩
  · exact ⟨x, c2, m2, rfl, rfl, fr_same s4⟩
theorem cy_part {d : Nat} {sz : Nat} (h : c (52 + 2 * d) 3 = nI sz) (hsz : sz ≤ 100) (i n : Int32) : fx_Shelf_hasPart (52 + 2 * d) i n c = some (decide (0 ≤ i.toInt ∧ 0 ≤ n.toInt ∧ i.toInt + n.toInt ≤ sz)) := by
  unfold fx_Shelf_hasPart
  rw [h]
  by_cases z1 : i < 0
  · rw [if_pos z1, decide_eq_false (fun w => by rw [kp_lt, ki_0] at z1; omega)]
  rw [if_neg z1]
  rw [kp_lt, ki_0] at z1
  by_cases z2 : n < 0
  · rw [if_pos z2, decide_eq_false (fun w => by rw [kp_lt, ki_0] at z2; omega)]
  rw [if_neg z2]
  rw [kp_lt, ki_0] at z2
  by_cases z3 : nI sz < i
  · rw [if_pos z3, decide_eq_false (fun w => by rw [kp_lt, nI_toInt (by omega)] at z3; omega)]
  rw [if_neg z3]
  rw [kp_lt, nI_toInt (by omega)] at z3
  have e : (nI sz - i).toInt = (sz : Int) - i.toInt := by rw [kp_sub] <;> rw [nI_toInt (by omega)] <;> omega
  by_cases z4 : nI sz - i < n
  · rw [if_pos z4, decide_eq_false (fun w => by rw [kp_lt, e] at z4; omega)]
  · rw [if_neg z4, decide_eq_true (by rw [kp_lt, e] at z4; omega)]
theorem cy_loop {d e i j n : Nat} (hd : d < 8) (he : e < 8) (hi : i + n ≤ 100) (hj : j + n ≤ 100) (m : Nat → Nat → Int32) : ∃ m3, kv_loop (kv_u2 (fb_D_copy_122 (nI n) (nI i) (nI j) (nI d) (nI e))) ((0 : Int32), m) = some m3 ∧ ∀ q v, m3 q v = if q = 90 ∧ 100 * e + j ≤ v ∧ v < 100 * e + j + n then m 90 (100 * d + i + (v - (100 * e + j))) else m q v := by
  have go : ∀ (m3 : Nat → Nat → Int32) (t a : Nat), t < n → fj_D_copy_147 (nI d) (nI i) (nI e) (nI j) m3 (nI a) (nI t) = some (.inl (nI (a + 1), kv_st m3 90 (100 * e + j + t) (m3 90 (100 * d + i + t)))) := by
    intro m3 t a ht
    unfold fj_D_copy_147
    rw [hr_ix, hr_ix, nI_add, nI_add, kp_gd _ (kp_in_nI (show 100 * d + i + t < 800 by omega) (by omega)), kp_gd _ (kp_in_nI (show 100 * e + j + t < 800 by omega) (by omega)), nI_clamp (show 100 * d + i + t < 2 ^ 31 by omega), nI_clamp (show 100 * e + j + t < 2 ^ 31 by omega), kp_let, nI_1]
  by_cases dir : i ≤ j
  · refine kp_inv (kv_u2 (fb_D_copy_122 (nI n) (nI i) (nI j) (nI d) (nI e))) (fun a st => ∃ m3, st = (nI a, m3) ∧ ∀ q v, m3 q v = if q = 90 ∧ 100 * e + j + (n - a) ≤ v ∧ v < 100 * e + j + n then m 90 (100 * d + i + (v - (100 * e + j))) else m q v) _ n ?_ ?_ ((0 : Int32), m) ⟨m, rfl, fun q v => by rw [if_neg (by omega)]⟩
    · rintro a st ha ⟨m3, rfl, h3⟩
      have e1 : (nI n - (1 : Int32)) - nI a = nI (n - 1 - a) := by
        have : nI n - (1 : Int32) = nI (n - 1) := pk_sub (b := 1) (by omega)
        rw [this, pk_sub (by omega)]
      refine Or.inl ⟨_, by
        show fb_D_copy_122 (nI n) (nI i) (nI j) (nI d) (nI e) (nI a) m3 = _
        unfold fb_D_copy_122
        rw [if_neg (nI_ge ha (by omega)), if_pos (nI_le dir (by omega)), e1, go m3 _ _ (by omega)], _, rfl, fun q v => ?_⟩
      rw [kp_st]
      by_cases z : q = 90 ∧ v = 100 * e + j + (n - 1 - a)
      · rw [if_pos z, if_pos (by omega), h3, if_neg (by omega)]
        congr 1
        omega
      · rw [if_neg z, h3]
        by_cases z2 : q = 90 ∧ 100 * e + j + (n - a) ≤ v ∧ v < 100 * e + j + n
        · rw [if_pos z2, if_pos (by omega)]
        · rw [if_neg z2, if_neg (by omega)]
    · rintro st ⟨m3, rfl, h3⟩
      refine ⟨m3, ?_, fun q v => by rw [h3, show n - n = 0 by omega, Nat.add_zero]⟩
      show fb_D_copy_122 (nI n) (nI i) (nI j) (nI d) (nI e) (nI n) m3 = _
      unfold fb_D_copy_122
      rw [if_pos (nI_le (Nat.le_refl _) (by omega))]
  · refine kp_inv (kv_u2 (fb_D_copy_122 (nI n) (nI i) (nI j) (nI d) (nI e))) (fun a st => ∃ m3, st = (nI a, m3) ∧ ∀ q v, m3 q v = if q = 90 ∧ 100 * e + j ≤ v ∧ v < 100 * e + j + a then m 90 (100 * d + i + (v - (100 * e + j))) else m q v) _ n ?_ ?_ ((0 : Int32), m) ⟨m, rfl, fun q v => by rw [if_neg (by omega)]⟩
    · rintro a st ha ⟨m3, rfl, h3⟩
      refine Or.inl ⟨_, by
        show fb_D_copy_122 (nI n) (nI i) (nI j) (nI d) (nI e) (nI a) m3 = _
        unfold fb_D_copy_122
        rw [if_neg (nI_ge ha (by omega)), if_neg (nI_ge (by omega) (by omega)), go m3 _ _ (by omega)], _, rfl, fun q v => ?_⟩
      rw [kp_st]
      by_cases z : q = 90 ∧ v = 100 * e + j + a
      · rw [if_pos z, if_pos (by omega), h3, if_neg (by omega)]
        congr 1
        omega
      · rw [if_neg z, h3]
        by_cases z2 : q = 90 ∧ 100 * e + j ≤ v ∧ v < 100 * e + j + a
        · rw [if_pos z2, if_pos (by omega)]
        · rw [if_neg z2, if_neg (by omega)]
    · rintro st ⟨m3, rfl, h3⟩
      refine ⟨m3, ?_, h3⟩
      show fb_D_copy_122 (nI n) (nI i) (nI j) (nI d) (nI e) (nI n) m3 = _
      unfold fb_D_copy_122
      rw [if_pos (nI_le (Nat.le_refl _) (by omega))]
end HR
