/-! ===== go ===== -/
section OGo
variable {k : Nat} {c m c2 m2 : Nat → Nat → Int32}
/-- some years on: only NOW and weights have changed; of lumps below i the year is done already -/
def gS (c m c2 m2 : Nat → Nat → Int32) (L : Nat) (b : Int) (N i : Nat) : Prop := (∀ r, r ≠ 1 → r ≠ 6 → c2 r = c r) ∧ (∀ j, j ≠ 5 → c2 1 j = c 1 j) ∧ (∀ r, r ≠ 85 → m2 r = m r) ∧ (∀ j, j ≠ 0 → (∀ l, l < L → j ≠ 13 + 6 * l) → m2 85 j = m 85 j) ∧ m2 85 0 = nI N ∧ c2 1 5 = nI N ∧ ∀ l, l < L → m2 85 (13 + 6 * l) = c2 6 l ∧ -(b + 60 * N + (if l < i then 60 else 0)) ≤ (c2 6 l).toInt ∧ (c2 6 l).toInt ≤ b + 60 * N + (if l < i then 60 else 0)
theorem go_in (L : Nat) (hL10 : L ≤ 10) (b : Int) (hb0 : 0 ≤ b) (hb : b ≤ 100000) (N : Nat) (hN : N ≤ 140) (hcL : c 2 7 = nI L) (hmL : m 85 1 = nI L) (hg : ∀ l, l < L → g_at c m l) (h : gS c m c2 m2 L b N 0) : ∃ c3 m3, fx_Lumps_growAll (nI N) c2 = some c3 ∧ kv_loop (kv_u2 fb_D_go_40) ((0 : Int32), m2) = some m3 ∧ gS c m c3 m3 L b N L := by
  have key := kp_sim (kv_u2 (fb_Lumps_growAll_2 (nI N))) (kv_u2 fb_D_go_40) (fun i s t => ∃ c3 m3, s = (nI i, c3) ∧ t = (nI i, m3) ∧ gS c m c3 m3 L b N i) (fun r w => gS c m r w L b N L) L ?_ ?_ ((0 : Int32), c2) ((0 : Int32), m2) ⟨c2, m2, rfl, rfl, h⟩
  · obtain ⟨r, w, h1, h2, h3⟩ := key
    refine ⟨r, w, ?_, h2, h3⟩
    unfold fx_Lumps_growAll
    rw [h1]; rfl
  · rintro i s t hi ⟨c3, m3, rfl, rfl, g1, g2, g3, g4, g5, g6, g7⟩
    refine Or.inl ?_
    show ∃ s2 t2, fb_Lumps_growAll_2 (nI N) (nI i) c3 = some (.inl s2) ∧ fb_D_go_40 (nI i) m3 = some (.inl t2) ∧ _
    have f1 : c3 2 7 = nI L := by rw [g1 2 (by omega) (by omega)]; exact hcL
    have f2 : m3 85 1 = nI L := by rw [g4 1 (by omega) (fun l _ => by omega)]; exact hmL
    have fg : g_at c3 m3 i := by
      have := hg i hi
      unfold g_at at this ⊢
      rw [g1 3 (by omega) (by omega), g1 4 (by omega) (by omega), g1 5 (by omega) (by omega), g1 7 (by omega) (by omega), g1 8 (by omega) (by omega), g1 9 (by omega) (by omega), g4 (10 + 6 * i) (by omega) (fun l _ => by omega), g4 (11 + 6 * i) (by omega) (fun l _ => by omega), g4 (12 + 6 * i) (by omega) (fun l _ => by omega), g4 (14 + 6 * i) (by omega) (fun l _ => by omega)]
      refine ⟨this.1, this.2.1, this.2.2.1, this.2.2.2.1, this.2.2.2.2.1, this.2.2.2.2.2.1, this.2.2.2.2.2.2.1, this.2.2.2.2.2.2.2.1, fun j hj => ?_⟩
      rw [g4 (70 + j) (by omega) (fun l _ => by omega)]
      exact this.2.2.2.2.2.2.2.2 j hj
    obtain ⟨g, e1, e2, e3, e4⟩ := h_growth (show i < 10 by omega) fg (y := nI N) (by rw [nI_toInt (by omega)]; omega) (by rw [nI_toInt (by omega)]; omega)
    have b1 : ((10 : Int32) + ((6 : Int32) * nI i)) + (3 : Int32) = nI (13 + 6 * i) := (kp_ix3 10 6 i 3).trans (by congr 1; omega)
    obtain ⟨g7a, g7b, g7c⟩ := g7 i hi
    rw [if_neg (by omega)] at g7b g7c
    unfold fb_Lumps_growAll_2 fb_D_go_40
    rw [f1, f2, if_neg (nI_ge hi (by omega)), if_neg (nI_ge hi (by omega)), kp_gd _ (kp_in_nI (by omega) (by omega)), e1, kp_b1, kp_let, nI_clamp (show i < 2 ^ 31 by omega), b1, kp_gd _ (kp_in_nI (by omega) (by omega)), g5, e2, kp_b1, kp_let, nI_clamp (show 13 + 6 * i < 2 ^ 31 by omega), g7a, nI_1]
    refine ⟨_, _, rfl, rfl, kv_st c3 6 i (c3 6 i + g), kv_st m3 85 (13 + 6 * i) (c3 6 i + g), rfl, rfl, fun r h1 h2 => ?_, fun j hj => ?_, fun r hr => ?_, fun j hj h2 => ?_, ?_, ?_, fun l hl => ?_⟩
    · rw [kp_st_ne h2]; exact g1 r h1 h2
    · rw [kp_st_ne (by omega)]; exact g2 j hj
    · rw [kp_st_ne hr]; exact g3 r hr
    · rw [kp_st, if_neg (fun q => h2 i hi q.2)]; exact g4 j hj h2
    · rw [kp_st, if_neg (by omega)]; exact g5
    · rw [kp_st_ne (by omega)]; exact g6
    · have w2 : (c3 6 i + g).toInt = (c3 6 i).toInt + g.toInt := by rw [kp_add] <;> omega
      rw [kp_st, kp_st]
      by_cases z : l = i
      · subst z
        rw [if_pos ⟨rfl, rfl⟩, if_pos ⟨rfl, rfl⟩, if_pos (by omega), w2]
        exact ⟨rfl, by omega, by omega⟩
      · rw [if_neg (by omega), if_neg (fun q => z q.2)]
        have := g7 l hl
        by_cases z2 : l < i
        · rw [if_pos z2] at this; rw [if_pos (by omega)]; exact this
        · rw [if_neg z2] at this; rw [if_neg (by omega)]; exact this
  · rintro s t ⟨c3, m3, rfl, rfl, hg3⟩
    show ∃ r w, fb_Lumps_growAll_2 (nI N) (nI L) c3 = some (.inr r) ∧ fb_D_go_40 (nI L) m3 = some (.inr w) ∧ _
    have f1 : c3 2 7 = nI L := by rw [hg3.1 2 (by omega) (by omega)]; exact hcL
    have f2 : m3 85 1 = nI L := by rw [hg3.2.2.2.1 1 (by omega) (fun l _ => by omega)]; exact hmL
    unfold fb_Lumps_growAll_2 fb_D_go_40
    rw [f1, f2]
    simp only [if_pos (nI_le (Nat.le_refl L) (show L < 2 ^ 31 by omega))]
    exact ⟨c3, m3, rfl, rfl, hg3⟩
theorem op_go (h : Inv k c m) (hk : k < 600) (p : Int32) : ∃ r c2 m2, fx_K_go p c = some (r, c2) ∧ fx_D_go p m = some (r, m2) ∧ Inv (k + 1) c2 m2 := by
  obtain ⟨L, T, U, hN, hG, hL, hP, hA, hW, hT, hX, hC⟩ := h.1
  have L10 := hN.1
  have T20 := hN.2.1
  have UT := hN.2.2.1
  unfold fx_K_go fx_D_go
  rw [sx_isWithin, sx_isInL p 1 40 (by decide) (by decide), ki_1, ki_40, kp_b1, kp_b1]
  by_cases z : 1 ≤ p.toInt ∧ p.toInt ≤ 40
  rotate_left
  · rw [decide_eq_false z]
    exact ⟨-1, c, m, rfl, rfl, fr_same h⟩
  rw [decide_eq_true z, if_pos rfl, if_pos rfl]
  obtain ⟨n, rfl, e1, -⟩ := kp_nat (show 0 ≤ p.toInt by omega)
  have g3 : m 85 0 = c 1 5 := hG.2.2.1
  obtain ⟨N, g1, g2, -⟩ := kp_nat (x := c 1 5) hG.1
  have g4 : (c 1 5).toInt ≤ 140 := hG.2.1
  rw [g3, g1, nI_add]
  have c140 : (nI (N + n) ≤ (140 : Int32)) ↔ N + n ≤ 140 := nI_leI (b := 140) (by omega) (by omega)
  by_cases z2 : N + n ≤ 140
  rotate_left
  · rw [if_neg (fun q => z2 (c140.mp q)), if_neg (fun q => z2 (c140.mp q))]
    exact ⟨-2, c, m, rfl, rfl, fr_same h⟩
  rw [if_pos (c140.mpr z2), if_pos (c140.mpr z2)]
  have hcL : c 2 7 = nI L := hN.2.2.2.1
  have hmL : m 85 1 = nI L := hN.2.2.2.2.1
  have hg : ∀ l, l < L → g_at c m l := fun l hl => g_of (v := 0) (hL l hl) hA
  have key := kp_sim (kv_u2 (fb_K_go_32 (nI n))) (kv_u2 (fb_D_go_33 (nI n))) (fun i s t => ∃ c3 m3, s = (nI i, c3) ∧ t = (nI i, m3) ∧ gS c m c3 m3 L (9999 + 100 * (k : Int)) (N + i) 0) (fun r w => gS c m r w L (9999 + 100 * (k : Int)) (N + n) 0) n ?_ ?_ ((0 : Int32), c) ((0 : Int32), m) ⟨c, m, rfl, rfl, fun _ _ _ => rfl, fun _ _ => rfl, fun _ _ => rfl, fun _ _ _ => rfl, by rw [g3, g1]; rfl, g1, fun l hl => ?_⟩
  · obtain ⟨c2, m2, h1, h2, g⟩ := key
    rw [h1, h2]
    show ∃ r c3 m3, some (c2 1 5, c2) = some (r, c3) ∧ some (m2 85 0, m2) = some (r, m3) ∧ _
    obtain ⟨q1, q2, q3, q4, q5, q6, q7⟩ := g
    refine ⟨nI (N + n), c2, m2, by rw [q6], by rw [q5], ?_⟩
    have ev : ∀ i, i ≠ 0 → i ≠ 5 → i_v c2 1 i = i_v c 1 i := fun i h1 h2 => q1 _ (by omega) (by omega)
    have es : ∀ j, j ≠ 0 → (∀ l, l < L → j ≠ 13 + 6 * l) → m2 85 j = m 85 j := q4
    have v05 : i_v c2 1 0 5 = nI (N + n) := q6
    have v0 : ∀ j, j ≠ 5 → i_v c2 1 0 j = i_v c 1 0 j := fun j hj => q2 j hj
    have hG2 : iG (i_v c2 1) (m2 85) := by
      unfold iG at hG ⊢
      rw [v05, v0 6 (by omega), v0 7 (by omega), v0 8 (by omega), q5, es 4 (by omega) (fun l _ => by omega), es 5 (by omega) (fun l _ => by omega), es 6 (by omega) (fun l _ => by omega), nI_toInt (show N + n < 2 ^ 31 by omega)]
      exact ⟨by omega, by omega, rfl, hG.2.2.2⟩
    have hL2 : ∀ l2, l2 < L → iL1 (i_v c2 1) (m2 85) (9999 + 100 * ((k + 1 : Nat) : Int)) l2 := by
      intro l2 hl2
      obtain ⟨r0, r1, r2, r3, r4, r5, r6, r7, r8, r9, r10, r11⟩ := hL l2 hl2
      obtain ⟨s1, s2, s3⟩ := q7 l2 hl2
      rw [if_neg (by omega)] at s2 s3
      have s1 : m2 85 (13 + 6 * l2) = i_v c2 1 5 l2 := s1
      have s2 : -(9999 + 100 * (k : Int) + 60 * ((N + n : Nat) : Int) + 0) ≤ (i_v c2 1 5 l2).toInt := s2
      have s3 : (i_v c2 1 5 l2).toInt ≤ 9999 + 100 * (k : Int) + 60 * ((N + n : Nat) : Int) + 0 := s3
      unfold iL1
      rw [ev 2 (by omega) (by omega), ev 3 (by omega) (by omega), ev 4 (by omega) (by omega), ev 6 (by omega) (by omega), ev 7 (by omega) (by omega), v05, nI_toInt (show N + n < 2 ^ 31 by omega), es (10 + 6 * l2) (by omega) (fun l _ => by omega), es (11 + 6 * l2) (by omega) (fun l _ => by omega), es (12 + 6 * l2) (by omega) (fun l _ => by omega), es (14 + 6 * l2) (by omega) (fun l _ => by omega), es (15 + 6 * l2) (by omega) (fun l _ => by omega)]
      exact ⟨r0, r1, r2, s1, r4, r5, r6, r7, r8, ⟨by omega, by omega⟩, ⟨r10.1, by omega⟩, r11⟩
    exact fr_state h ⟨L, T, U, fr_N hN (by rw [ev 1 (by omega) (by omega)]) (by rw [ev 9 (by omega) (by omega)]) (by rw [ev 9 (by omega) (by omega)]) (es _ (by omega) (fun l _ => by omega)) (es _ (by omega) (fun l _ => by omega)) (es _ (by omega) (fun l _ => by omega)), hG2, hL2, fr_P hP (fun l2 _ => by rw [ev 2 (by omega) (by omega)]), fr_A hA (ev 8 (by omega) (by omega)) (ev 24 (by omega) (by omega)) (fun j _ _ => es j (by omega) (fun l _ => by omega)), fun w2 hw2 => fr_W1 (hW w2 hw2) (by omega) (Nat.le_refl L) (by rw [ev 10 (by omega) (by omega)]) (by rw [ev 11 (by omega) (by omega)]) (by rw [ev 12 (by omega) (by omega)]) (by rw [ev 13 (by omega) (by omega)]) (by rw [ev 14 (by omega) (by omega)]) (by rw [ev 15 (by omega) (by omega)]) (fun j _ _ => es j (by omega) (fun l _ => by omega)), fun q2 hq2 => by rw [es _ (by omega) (fun l _ => by omega), ev 16 (by omega) (by omega)]; exact hT q2 hq2, fr_X hX (ev 17 (by omega) (by omega)) (ev 18 (by omega) (by omega)) (es _ (by omega) (fun l _ => by omega)) (es _ (by omega) (fun l _ => by omega)) (fun j _ _ => es j (by omega) (fun l _ => by omega)), fun q2 hh2 => fr_C1 hh2 (hC q2 hh2) (ev 20 (by omega) (by omega)) (ev 21 (by omega) (by omega)) (ev 22 (by omega) (by omega)) (ev 23 (by omega) (by omega)) (fun j _ _ => es j (by omega) (fun l _ => by omega))⟩ (q1 0 (by omega) (by omega)) (fun r _ _ => q1 r (by omega) (by omega)) (fun r _ _ => q3 r (by omega)) (q3 84 (by omega)) (q1 16 (by omega) (by omega))
  · rintro i s t hi ⟨c3, m3, rfl, rfl, hg3⟩
    refine Or.inl ?_
    obtain ⟨c4, m4, f1, f2, f3⟩ := go_in L L10 _ (by omega) (by omega) (N + i) (by omega) hcL hmL hg hg3
    show ∃ s2 t2, fb_K_go_32 (nI n) (nI i) c3 = some (.inl s2) ∧ fb_D_go_33 (nI n) (nI i) m3 = some (.inl t2) ∧ _
    unfold fb_K_go_32 fb_D_go_33
    obtain ⟨q1, q2, q3, q4, q5, q6, q7⟩ := f3
    rw [if_neg (nI_ge hi (by omega)), if_neg (nI_ge hi (by omega)), hg3.2.2.2.2.2.1, f1, f2, kp_b1, kp_let, q6, nI_1]
    refine ⟨_, _, rfl, rfl, kv_st c4 1 5 (nI (N + i + 1)), kv_st m4 85 0 (nI (N + i + 1)), by first | rfl | rw [nI_1], by first | rw [q5, nI_1, nI_1] | rw [q5, nI_1] | rfl, fun r h1 h2 => ?_, fun j hj => ?_, fun r hr => ?_, fun j hj h2 => ?_, ?_, ?_, fun l hl => ?_⟩
    · rw [kp_st_ne h1]; exact q1 r h1 h2
    · rw [kp_st, if_neg (fun q => hj q.2)]; exact q2 j hj
    · rw [kp_st_ne hr]; exact q3 r hr
    · rw [kp_st, if_neg (fun q => hj q.2)]; exact q4 j hj h2
    · rw [kp_st, if_pos ⟨rfl, rfl⟩]; rfl
    · rw [kp_st, if_pos ⟨rfl, rfl⟩]; rfl
    · rw [kp_st, if_neg (by omega), kp_st_ne (by omega), if_neg (by omega)]
      obtain ⟨s1, s2, s3⟩ := q7 l hl
      rw [if_pos hl] at s2 s3
      exact ⟨s1, by omega, by omega⟩
  · rintro s t ⟨c3, m3, rfl, rfl, hg3⟩
    show ∃ r w, fb_K_go_32 (nI n) (nI n) c3 = some (.inr r) ∧ fb_D_go_33 (nI n) (nI n) m3 = some (.inr w) ∧ _
    unfold fb_K_go_32 fb_D_go_33
    simp only [if_pos (nI_le (Nat.le_refl n) (show n < 2 ^ 31 by omega))]
    exact ⟨c3, m3, rfl, rfl, hg3⟩
  · obtain ⟨r0, r1, r2, r3, r4, r5, r6, r7, r8, r9, -⟩ := hL l hl
    have r3 : m 85 (13 + 6 * l) = c 6 l := r3
    have r9a : -(9999 + 100 * (k : Int) + 60 * (c 1 5).toInt) ≤ (c 6 l).toInt := r9.1
    have r9b : (c 6 l).toInt ≤ 9999 + 100 * (k : Int) + 60 * (c 1 5).toInt := r9.2
    rw [if_neg (by omega)]
    exact ⟨r3, by omega, by omega⟩
end OGo
