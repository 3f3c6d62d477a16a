/-! ===== toss and element, on both sides ===== -/
section XO
variable {k : Nat} {c m : Nat → Nat → Int32}
theorem fr_fail (h : Inv k c m) (v : Int32) : Inv (k + 1) (kv_st c 0 8 v) m := by
  have hq1 : ∀ q, q ≠ 0 → kv_st c 0 8 v q = c q := fun q hq => kp_st_ne hq
  have hq2 : kv_st c 0 8 v 0 2 = c 0 2 := by rw [kp_st, if_neg (by omega)]
  obtain ⟨h1, h2, h3, h4, h5, h6, h7⟩ := h
  refine ⟨fr_S h1 (by omega) (fun i hi => hq1 _ (by omega)) (fun _ _ => rfl), ?_, fun d hd => fr_H1 hd (h3 d hd) (hq1 _ (by omega)) (hq1 _ (by omega)) (fun _ _ _ => rfl), h4, h5, h6, fun w hw => by rw [hq1 16 (by omega), hq1 41 (by omega)]; exact h7 w hw⟩
  rcases h2 with h2 | h2
  · exact Or.inl ⟨by rw [hq2]; exact h2.1, h2.2⟩
  · exact Or.inr ⟨by rw [hq2]; exact h2.1, h2.2.1, fr_S h2.2.2 (by omega) (fun i hi => hq1 _ (by omega)) (fun _ _ => rfl)⟩
theorem op_toss (h : Inv k c m) (p : Int32) (y : (Nat → Nat → Int32) × (Nat → Int64) × (Nat → Int64)) : ∃ r c2, kx_D kM_K_toss [(12, 22, 25, 394)] 9 [.ref 0, .int p] (c, y) (some (.int r), (c2, y)) ∧ fx_D_toss p m = some r ∧ Inv (k + 1) c2 m := by
  unfold fx_D_toss
  rcases h_kept h p with ⟨d, hd, rfl, hz1, ea, eb⟩ | ⟨r, hr, ea, eb⟩
  rotate_left
  · rw [eb, kp_b1, if_neg hr]
    exact ⟨r, c, cz_K_toss 0 p c y r ea _ (fun _ => rfl) (fun hq => absurd hq hr), rfl, fr_same h⟩
  obtain ⟨hd1, hd2⟩ := h.2.2.1 d hd
  have hd3 : m 92 d = i_toss (c (52 + 2 * d) 5) (c (52 + 2 * d) 6) (c (52 + 2 * d) 7) (c (52 + 2 * d) 4) := by
    rcases hd2 with hq | hq | hq
    · rw [hz1] at hq; exact absurd hq (by decide)
    · exact hq.2.2
    · rw [hz1] at hq; exact absurd hq.1 (by decide)
  have etg : kv_tg 51 (nI d).toNatClampNeg = 52 + 2 * d := by rw [nI_clamp (by omega), tg_sh d hd]
  rw [eb, kp_b1, if_pos rfl, kp_gd _ (kp_in_nI hd (by omega)), nI_clamp (by omega), hd3]
  by_cases hq : c (52 + 2 * d) 5 = 1 ∨ c (52 + 2 * d) 7 = 0
  · refine ⟨-15, c, cz_K_toss 0 (nI d) c y 0 ea _ (fun hq1 => absurd rfl hq1) (fun _ => ⟨kp_in_nI hd (by omega), ?_, ?_⟩), ?_, fr_same h⟩
    · intro _; rfl
    · rw [etg]; intro hq1; exact absurd hq hq1
    · unfold i_toss; rw [if_pos hq]
  · refine ⟨fz_tf c (52 + 2 * d), kv_st c 0 8 (fz_tf c (52 + 2 * d)), cz_K_toss 0 (nI d) c y 0 ea _ (fun hq1 => absurd rfl hq1) (fun _ => ⟨kp_in_nI hd (by omega), ?_, ?_⟩), ?_, fr_fail h _⟩
    · rw [etg]; intro hq1; exact absurd hq1 hq
    · rw [etg]; intro _; rfl
    · unfold i_toss fz_tf; rw [if_neg hq]
theorem op_element (h : Inv k c m) (p1 p2 : Int32) (f u : Nat → Int64) : ∃ r u2 v m2, kx_D kM_L_element [(0, 9, 12, 13), (0, 9, 16, 15)] 9 [.ref 0, .int p1, .int p2, .ref 96] (c, m, f, u) (some (.int r), (c, m, f, u2)) ∧ fx_D_element p1 p2 m = some (v, m2) ∧ m2 84 9 = r ∧ (r = 0 → u2 0 = v) ∧ Inv (k + 1) c m2 := by
  have fin : ∀ x : Int32, Inv (k + 1) c (kv_st m 84 9 x) := fun x => fr_Inv h (fun _ _ => rfl) (fun r _ _ => kp_st_ne (by omega)) (by rw [kp_st, if_neg (by omega)]) (by rw [kp_st, if_neg (by omega)]) (by rw [kp_st, if_neg (by omega)]) (by rw [kp_st, if_neg (by omega)])
  have e9 : ∀ x : Int32, kv_st m 84 9 x 84 9 = x := fun x => by rw [kp_st, if_pos ⟨rfl, rfl⟩]
  unfold fx_D_element
  rcases h_isShelf p1 with ⟨d, hd, rfl, ea, eb⟩ | ⟨ea, eb⟩
  rotate_left
  · rw [eb, kp_b1, if_neg (by decide)]
    unfold fj_D_element_45
    rw [kp_let, e9, if_neg (by decide)]
    exact ⟨1, u, 0, _, cz_L_element 0 p1 p2 c m f u _ (cz_K_element 0 p1 p2 c (m, f, u) _ false ea (fun _ => rfl) (fun hq => absurd hq (by decide))) _ (Or.inl ⟨rfl, rfl⟩), rfl, e9 1, fun hq => absurd hq (by decide), fin 1⟩
  have etg : kv_tg 51 (nI d).toNatClampNeg = 52 + 2 * d := by rw [nI_clamp (by omega), tg_sh d hd]
  have hH := h.2.2.1 d hd
  rw [eb, kp_b1, if_pos rfl, kp_gd _ (kp_in_nI hd (by omega)), nI_clamp (by omega), hH.1]
  have two : ∃ v m2, fj_D_element_40 m (nI d) p2 = some (v, m2) ∧ m2 84 9 = 2 ∧ Inv (k + 1) c m2 := by
    unfold fj_D_element_40 fj_D_element_45
    rw [kp_let, e9, if_neg (by decide)]
    exact ⟨_, _, rfl, e9 2, fin 2⟩
  by_cases hz1 : c (52 + 2 * d) 1 = 2
  rotate_left
  · obtain ⟨v, m2, t1a, t2a, t3a⟩ := two
    rw [if_neg hz1, t1a]
    refine ⟨2, u, v, m2, cz_L_element 0 (nI d) p2 c m f u _ (cz_K_element 0 (nI d) p2 c (m, f, u) _ true ea (fun hq => absurd hq (by decide)) (fun _ => ⟨kp_in_nI hd (by omega), false, by rw [etg, sx_row, decide_eq_false hz1], fun _ => rfl, fun hq => absurd hq (by decide)⟩)) _ (Or.inr (Or.inl ⟨rfl, rfl⟩)), rfl, t2a, fun hq => absurd hq (by decide), t3a⟩
  obtain ⟨sz, hr⟩ := hr_of hH hz1
  have e3 : (nI sz - 1).toInt = (sz : Int) - 1 := by
    have := hr.2.2.2.2.2.1
    rw [kp_sub] <;> rw [nI_toInt (by omega), ki_1] <;> omega
  rw [if_pos hz1, hr.2.2.2.1, sx_isInL p2 0 ((sz : Int) - 1) (by decide) (by rw [Int32.toInt_toInt64]; exact e3), kp_b1]
  have hrow : fx_Shelf_isRow (kv_tg 51 (nI d).toNatClampNeg) c = some true := by rw [etg, sx_row, decide_eq_true hz1]
  have hwi : fx_K_isWithin p2 (0 : Int32) (c (kv_tg 51 (nI d).toNatClampNeg) 3 - 1) = some (decide (0 ≤ p2.toInt ∧ p2.toInt ≤ (sz : Int) - 1)) := by rw [etg, hr.2.2.2.2.1, sx_isWithin, e3, ki_0]
  by_cases hz2 : 0 ≤ p2.toInt ∧ p2.toInt ≤ (sz : Int) - 1
  rotate_left
  · obtain ⟨v, m2, t1a, t2a, t3a⟩ := two
    rw [decide_eq_false hz2] at hwi ⊢
    rw [if_neg (by decide), t1a]
    refine ⟨2, u, v, m2, cz_L_element 0 (nI d) p2 c m f u _ (cz_K_element 0 (nI d) p2 c (m, f, u) _ true ea (fun hq => absurd hq (by decide)) (fun _ => ⟨kp_in_nI hd (by omega), true, hrow, fun hq => absurd hq (by decide), fun _ => ⟨false, hwi, fun _ => rfl, fun hq => absurd hq (by decide)⟩⟩)) _ (Or.inr (Or.inl ⟨rfl, rfl⟩)), rfl, t2a, fun hq => absurd hq (by decide), t3a⟩
  rw [decide_eq_true hz2] at hwi ⊢
  obtain ⟨j, rfl, ej, -⟩ := kp_nat hz2.1
  have hsz := hr.2.2.2.2.2.1
  have hj : j < 100 := by omega
  rw [if_pos rfl]
  unfold fj_D_element_45
  rw [kp_let, e9, if_pos rfl, hr_ix, kp_gd _ (kp_in_nI (show 100 * d + j < 800 by omega) (by omega)), nI_clamp (show 100 * d + j < 2 ^ 31 by omega), kp_st_ne (show (90 : Nat) ≠ 84 by omega), hr.2.2.2.2.2.2 j hj]
  have ev : c (kv_tg (kv_tg 51 (nI d).toNatClampNeg) 0) (nI j).toNatClampNeg = c (53 + 2 * d) j := by rw [etg, tg_el d hd, nI_clamp (show j < 2 ^ 31 by omega)]
  refine ⟨0, vp_updL u 0 (c (53 + 2 * d) j).toInt64, (c (53 + 2 * d) j).toInt64, _, cz_L_element 0 (nI d) (nI j) c m f u _ (cz_K_element 0 (nI d) (nI j) c (m, f, u) _ true ea (fun hq => absurd hq (by decide)) (fun _ => ⟨kp_in_nI hd (by omega), true, hrow, fun hq => absurd hq (by decide), fun _ => ⟨true, hwi, fun hq => absurd hq (by decide), fun _ => ⟨kp_in_nI hj (by omega), rfl⟩⟩⟩)) _ (Or.inr (Or.inr ⟨_, rfl, by rw [ev]⟩)), rfl, e9 0, fun _ => rfl, fin 0⟩
end XO
