/-! ===== shelves ===== -/
section OSh
variable {k : Nat} {c m c2 m2 : Nat → Nat → Int32}
theorem tg_sh : ∀ d, d < 8 → kv_tg 51 d = 52 + 2 * d := by decide
theorem tg_el : ∀ d, d < 8 → kv_tg (52 + 2 * d) 0 = 53 + 2 * d := by decide
theorem fr_shelf (h : Inv k c m) {d : Nat} (hd : d < 8) (hH : iH1 c2 m2 d) (e : ∀ r, r ≠ 52 + 2 * d → r ≠ 53 + 2 * d → r < 68 → c2 r = c r) (f : ∀ r, 84 ≤ r → r ≤ 86 → m2 r = m r) (fo : ∀ x, x < 8 → x ≠ d → m2 87 x = m 87 x ∧ m2 88 x = m 88 x ∧ m2 89 x = m 89 x ∧ m2 91 x = m 91 x ∧ m2 92 x = m 92 x ∧ ∀ i, i < 100 → m2 90 (100 * x + i) = m 90 (100 * x + i)) : Inv (k + 1) c2 m2 := by
  obtain ⟨h1, h2, h3, h4, h5, h6, h7⟩ := h
  refine ⟨fr_S h1 (by omega) (fun i hi => e _ (by omega) (by omega) (by omega)) (fun j _ => by rw [f 85 (by omega) (by omega)]), ?_, fun x hx => ?_, by rw [f 84 (by omega) (by omega)]; exact h4, by rw [f 84 (by omega) (by omega)]; exact h5, by rw [f 84 (by omega) (by omega)]; exact h6, fun w hw => by rw [e 16 (by omega) (by omega) (by omega), e 41 (by omega) (by omega) (by omega)]; exact h7 w hw⟩
  · rcases h2 with h2 | h2
    · exact Or.inl ⟨by rw [e 0 (by omega) (by omega) (by omega)]; exact h2.1, by rw [f 84 (by omega) (by omega)]; exact h2.2⟩
    · exact Or.inr ⟨by rw [e 0 (by omega) (by omega) (by omega)]; exact h2.1, by rw [f 84 (by omega) (by omega)]; exact h2.2.1, fr_S h2.2.2 (by omega) (fun i hi => e _ (by omega) (by omega) (by omega)) (fun j _ => by rw [f 86 (by omega) (by omega)])⟩
  · by_cases z : x = d
    · rw [z]; exact hH
    · obtain ⟨g1, g2, g3, g5, g6, g4⟩ := fo x hx z
      have := h3 x hx
      unfold iH1 at this ⊢
      rw [e _ (by omega) (by omega) (by omega), e (53 + 2 * x) (by omega) (by omega) (by omega), g1, g2, g3, g5, g6]
      refine ⟨this.1, ?_⟩
      rcases this.2 with q | q | q
      · exact Or.inl q
      · exact Or.inr (Or.inl q)
      · exact Or.inr (Or.inr ⟨q.1, q.2.1, q.2.2.1, q.2.2.2.1, q.2.2.2.2.1, fun i hi => by rw [g4 i hi]; exact q.2.2.2.2.2 i hi⟩)
theorem h_isShelf (p : Int32) : (∃ d, d < 8 ∧ p = nI d ∧ fx_K_isShelf p = some true ∧ fx_D_isShelf p = some true) ∨ (fx_K_isShelf p = some false ∧ fx_D_isShelf p = some false) := by
  have e1 : fx_K_isShelf p = some (decide (0 ≤ p.toInt ∧ p.toInt ≤ 7)) := by
    unfold fx_K_isShelf
    rw [sx_isWithin, kp_b1, ki_0, ki_7]
  have e2 : fx_D_isShelf p = some (decide (0 ≤ p.toInt ∧ p.toInt ≤ 7)) := by
    unfold fx_D_isShelf
    rw [sx_isInL p 0 7 (by decide) (by decide), kp_b1]
  by_cases q : 0 ≤ p.toInt ∧ p.toInt ≤ 7
  · obtain ⟨l, q1, q2, q3⟩ := kp_nat q.1
    exact Or.inl ⟨l, by omega, q1, by rw [e1, decide_eq_true q], by rw [e2, decide_eq_true q]⟩
  · exact Or.inr ⟨by rw [e1, decide_eq_false q], by rw [e2, decide_eq_false q]⟩
theorem sx_empty (r : Nat) : fx_Shelf_isEmpty r c = some (decide (c r 1 = 0)) := by
  unfold fx_Shelf_isEmpty
  split <;> simp_all
theorem sx_row (r : Nat) : fx_Shelf_isRow r c = some (decide (c r 1 = 2)) := by
  unfold fx_Shelf_isRow
  split <;> simp_all
/-- a row is wanted: there it is (of any sort, -1), or the same refusal on both sides -/
theorem h_row (h : Inv k c m) (p : Int32) : (∃ d, d < 8 ∧ p = nI d ∧ c (52 + 2 * d) 1 = 2 ∧ fx_K_rowRefusal p c = some 0 ∧ fx_D_wrongRow p (-1) m = some 0) ∨ ∃ r, r ≠ 0 ∧ fx_K_rowRefusal p c = some r ∧ fx_D_wrongRow p (-1) m = some r := by
  unfold fx_K_rowRefusal fx_D_wrongRow
  rcases h_isShelf p with ⟨d, hd, rfl, e1, e2⟩ | ⟨e1, e2⟩
  · obtain ⟨h1, h2⟩ := h.2.2.1 d hd
    rw [e1, e2]
    simp only [kp_b1, if_true, kp_gd _ (kp_in_nI hd (show 8 < 2 ^ 31 by omega)), nI_clamp (show d < 2 ^ 31 by omega), tg_sh d hd, sx_empty, sx_row, h1, decide_eq_true_eq]
    by_cases z : c (52 + 2 * d) 1 = 0
    · simp only [if_pos z]
      exact Or.inr ⟨-11, by decide, rfl, rfl⟩
    · simp only [if_neg z]
      by_cases z2 : c (52 + 2 * d) 1 = 2
      · simp only [if_pos z2]
        exact Or.inl ⟨d, hd, rfl, z2, by first | trivial | rfl, by first | trivial | rfl⟩
      · simp only [if_neg z2]
        exact Or.inr ⟨-12, by decide, rfl, rfl⟩
  · rw [e1, e2]
    exact Or.inr ⟨-1, by decide, rfl, rfl⟩
/-- a lump is wanted -/
theorem h_kept (h : Inv k c m) (p : Int32) : (∃ d, d < 8 ∧ p = nI d ∧ c (52 + 2 * d) 1 = 1 ∧ fx_K_lumpRefusal p c = some 0 ∧ fx_D_wrongKept p m = some 0) ∨ ∃ r, r ≠ 0 ∧ fx_K_lumpRefusal p c = some r ∧ fx_D_wrongKept p m = some r := by
  unfold fx_K_lumpRefusal fx_D_wrongKept
  rcases h_isShelf p with ⟨d, hd, rfl, e1, e2⟩ | ⟨e1, e2⟩
  · obtain ⟨h1, h2⟩ := h.2.2.1 d hd
    rw [e1, e2]
    simp only [kp_b1, if_true, kp_gd _ (kp_in_nI hd (show 8 < 2 ^ 31 by omega)), nI_clamp (show d < 2 ^ 31 by omega), tg_sh d hd, sx_empty, sx_row, h1, decide_eq_true_eq]
    rcases h2 with z | ⟨z, -⟩ | ⟨z, -⟩
    · simp only [z, if_true]
      exact Or.inr ⟨-11, by decide, rfl, rfl⟩
    · simp only [z]
      exact Or.inl ⟨d, hd, rfl, z, by first | trivial | rfl, by first | trivial | rfl⟩
    · simp only [z]
      exact Or.inr ⟨-12, by decide, rfl, rfl⟩
  · rw [e1, e2]
    exact Or.inr ⟨-1, by decide, rfl, rfl⟩
theorem sx_care (r : Nat) : fx_Shelf_careWanted r c = some (i_care (c r 5) (c r 6) (c r 7)) := by
  unfold fx_Shelf_careWanted i_care
  simp only [kp_let]
  split <;> (try split) <;> (try split) <;> (try split) <;> (try split) <;> (try split) <;> (try split) <;> rfl
theorem op_care (h : Inv k c m) (p : Int32) : ∃ r, fx_K_care p c = some r ∧ fx_D_care p m = some r := by
  unfold fx_K_care fx_D_care
  rcases h_kept h p with ⟨d, hd, rfl, z, e1, e2⟩ | ⟨r, hr, e1, e2⟩
  · obtain ⟨h1, h2⟩ := h.2.2.1 d hd
    have h3 : m 91 d = i_care (c (52 + 2 * d) 5) (c (52 + 2 * d) 6) (c (52 + 2 * d) 7) := by
      rcases h2 with q | q | q
      · rw [z] at q; exact absurd q (by decide)
      · exact q.2.1
      · rw [z] at q; exact absurd q.1 (by decide)
    rw [e1, e2, kp_b1, kp_b1, if_pos rfl, if_pos rfl, kp_gd _ (kp_in_nI hd (by omega)), kp_gd _ (kp_in_nI hd (by omega)), nI_clamp (by omega), tg_sh d hd, sx_care, h3]
    exact ⟨_, rfl, rfl⟩
  · rw [e1, e2, kp_b1, kp_b1, if_neg hr, if_neg hr]
    exact ⟨_, rfl, rfl⟩
theorem op_put (h : Inv k c m) (p i v : Int32) : ∃ r c2 m2, fx_K_put p i v c = some (r, c2) ∧ fx_D_put p i v m = some (r, m2) ∧ Inv (k + 1) c2 m2 := by
  unfold fx_K_put fx_D_put
  rcases h_row h p with ⟨d, hd, rfl, z, e1, e2⟩ | ⟨r, hr, e1, e2⟩
  · obtain ⟨h1, h2⟩ := h.2.2.1 d hd
    have h3 : m 88 d = c (52 + 2 * d) 2 ∧ (c (52 + 2 * d) 2 = 0 ∨ c (52 + 2 * d) 2 = 1 ∨ c (52 + 2 * d) 2 = 2) ∧ m 89 d = c (52 + 2 * d) 3 ∧ (0 ≤ (c (52 + 2 * d) 3).toInt ∧ (c (52 + 2 * d) 3).toInt ≤ 100) ∧ ∀ i, i < 100 → m 90 (100 * d + i) = c (53 + 2 * d) i := by
      rcases h2 with q | q | q
      · rw [z] at q; exact absurd q (by decide)
      · rw [z] at q; exact absurd q.1 (by decide)
      · exact q.2
    obtain ⟨a1, a2, a3, a4, a5⟩ := h3
    have e3 : (c (52 + 2 * d) 3 - 1).toInt = (c (52 + 2 * d) 3).toInt - 1 := by rw [kp_sub] <;> rw [ki_1] <;> omega
    rw [e1, e2, kp_b1, kp_b1, if_pos rfl, if_pos rfl, kp_gd _ (kp_in_nI hd (by omega)), kp_gd _ (kp_in_nI hd (by omega)), nI_clamp (by omega), tg_sh d hd, tg_el d hd, sx_isWithin, a3, sx_isInL i 0 ((c (52 + 2 * d) 3).toInt - 1) (by decide) (by rw [Int32.toInt_toInt64, e3]), ki_0, e3, kp_b1, kp_b1]
    by_cases w : 0 ≤ i.toInt ∧ i.toInt ≤ (c (52 + 2 * d) 3).toInt - 1
    · obtain ⟨j, rfl, e4, -⟩ := kp_nat w.1
      have hj : j < 100 := by omega
      rw [decide_eq_true w, if_pos rfl, if_pos rfl]
      have fin : ∀ x : Int32, ∃ r c2 m2, (kv_gd (kv_in (nI j) 100) (kv_let (kv_st c (53 + 2 * d) (nI j).toNatClampNeg x) fun c6 => some ((0 : Int32), c6))) = some (r, c2) ∧ fj_D_put_77 (nI d) (nI j) m x = some (r, m2) ∧ Inv (k + 1) c2 m2 := by
        intro x
        have b1 : ((100 : Int32) * nI d) + nI j = nI (100 * d + j) := by
          have : (100 : Int32) * nI d = nI (100 * d) := pk_mul 100 d
          rw [this, nI_add]
        unfold fj_D_put_77
        rw [kp_gd _ (kp_in_nI hj (by omega)), nI_clamp (by omega), b1, kp_gd _ (kp_in_nI (by omega) (by omega)), nI_clamp (by omega), kp_let, kp_let]
        refine ⟨0, _, _, rfl, rfl, fr_shelf h hd ?_ (fun r q1 q2 _ => kp_st_ne q2) (fun r _ _ => kp_st_ne (by omega)) (fun y hy hne => ?_)⟩
        · refine ⟨by rw [kp_st_ne (by omega), kp_st_ne (by omega)]; exact h1, Or.inr (Or.inr ?_)⟩
          rw [kp_st_ne (show 52 + 2 * d ≠ 53 + 2 * d by omega), kp_st_ne (show 88 ≠ 90 by omega), kp_st_ne (show 89 ≠ 90 by omega)]
          refine ⟨z, a1, a2, a3, a4, fun n hn => ?_⟩
          rw [kp_st, kp_st]
          by_cases q : n = j
          · rw [if_pos ⟨rfl, by omega⟩, if_pos ⟨rfl, q⟩]
          · rw [if_neg (by omega), if_neg (fun q2 => q q2.2)]
            exact a5 n hn
        · refine ⟨by rw [kp_st_ne (by omega)], by rw [kp_st_ne (by omega)], by rw [kp_st_ne (by omega)], by rw [kp_st_ne (by omega)], by rw [kp_st_ne (by omega)], fun n hn => ?_⟩
          rw [kp_st, if_neg (by omega)]
      unfold fx_Shelf_narrowed
      rw [a1]
      by_cases s0 : c (52 + 2 * d) 2 = 0
      · rw [if_pos s0, if_pos s0, kp_b1]; exact fin _
      · rw [if_neg s0, if_neg s0]
        by_cases s1 : c (52 + 2 * d) 2 = 1
        · rw [if_pos s1, if_pos s1, kp_b1]; exact fin _
        · rw [if_neg s1, if_neg s1, kp_b1]; exact fin _
    · rw [decide_eq_false w]
      exact ⟨-13, c, m, rfl, rfl, fr_same h⟩
  · rw [e1, e2, kp_b1, kp_b1, if_neg hr, if_neg hr]
    exact ⟨r, c, m, rfl, rfl, fr_same h⟩
end OSh
