/-! ===== a state copied ===== -/
theorem tk_at_c {tx t2 : Nat → Int32} {N : Nat} (h : ∀ i, i < N → t2 i = tx i) : tk_at t2 N = tk_at tx N := by
  funext p
  unfold tk_at
  by_cases q : p < N
  · rw [if_pos q, if_pos q, h p q]
  · rw [if_neg q, if_neg q]
theorem tk_dig_lt {tx : Nat → Int32} {N p : Nat} (h : tk_dig (tk_at tx N p) = true) : p < N := by
  unfold tk_dig tk_at at h
  by_cases q : p < N
  · exact q
  · rw [if_neg q] at h
    exact absurd h (by decide)
theorem tk_num_c {tx t2 : Nat → Int32} {N : Nat} (h : ∀ i, i < N → t2 i = tx i) : tk_num t2 N = tk_num tx N := by
  funext p
  unfold tk_num
  rw [tk_at_c h]
  by_cases q1 : tk_dig (tk_at tx N p) = true
  · rw [if_pos q1, if_pos q1, h p (tk_dig_lt q1)]
    by_cases q2 : tk_dig (tk_at tx N (p + 1)) = true
    · rw [if_pos q2, if_pos q2, h (p + 1) (tk_dig_lt q2)]
      by_cases q3 : tk_dig (tk_at tx N (p + 2)) = true
      · rw [if_pos q3, if_pos q3, h (p + 2) (tk_dig_lt q3)]
      · rw [if_neg q3, if_neg q3]
    · rw [if_neg q2, if_neg q2]
  · rw [if_neg q1, if_neg q1]
theorem tk_par_c {tx t2 : Nat → Int32} {N : Nat} (h : ∀ i, i < N → t2 i = tx i) (e : Nat → Int32) : ∀ n, tk_par t2 N e n = tk_par tx N e n := by
  intro n
  induction n with
  | zero => rfl
  | succ n ih =>
    funext sel dp v p
    show (if sel = 0 then _ else _) = (if sel = 0 then _ else _)
    rw [ih, tk_at_c h, tk_num_c h]
theorem tk_all_c {tx t2 : Nat → Int32} {N : Nat} (h : ∀ i, i < N → t2 i = tx i) (e : Nat → Int32) (now : Int) : ∀ n, tk_all t2 N e now n = tk_all tx N e now n := by
  intro n
  induction n with
  | zero => rfl
  | succ n ih =>
    funext p st hf hv wr
    have e1 : tk_stm t2 N e n p = tk_stm tx N e n p := by
      unfold tk_stm
      rw [tk_num_c h, tk_at_c h, tk_par_c h]
    show (tk_stm t2 N e n p).bind _ = (tk_stm tx N e n p).bind _
    rw [e1, ih]
theorem tk_ok_c {tx t2 : Nat → Int32} {N : Nat} {st : Int32} (h : ∀ i, i < N → t2 i = tx i) (hk : tk_ok tx N st) : tk_ok t2 N st := by
  obtain ⟨n, k, v, h1, h2⟩ := hk
  exact ⟨n, k, v, by rw [tk_all_c h]; exact h1, h2⟩
theorem fr_trans {v v2 : Nat → Nat → Int32} {s s2 : Nat → Int32} {b b2 : Int} (h : iS v s b) (hb : b ≤ b2) (f : ∀ j, j < 444 → s2 j = s j) (e0 : ∀ j, 5 ≤ j → j ≤ 8 → v2 0 j = v 0 j) (e1 : v2 1 7 = v 1 7) (eL : ∀ i j, 2 ≤ i → i ≤ 7 → j < 10 → v2 i j = v i j) (e8 : ∀ j, j < 6 → v2 8 j = v 8 j) (e9 : v2 9 7 = v 9 7 ∧ v2 9 8 = v 9 8) (eW : ∀ i j, 10 ≤ i → i ≤ 16 → j < 20 → v2 i j = v i j) (e17 : v2 17 1 = v 17 1 ∧ v2 17 2 = v 17 2) (e18 : ∀ N : Nat, v 17 1 = nI N → N ≤ 100 → ∀ j, j < N → v2 18 j = v 18 j) (e20 : ∀ i j, 20 ≤ i → i ≤ 21 → j < 48 → v2 i j = v i j) (e22 : ∀ i j, 22 ≤ i → i ≤ 24 → j < 4 → v2 i j = v i j) : iS v2 s2 b2 := by
  obtain ⟨L, T, U, hN, hG, hL, hP, hA, hW, hT, ⟨N, hX⟩, hC⟩ := h
  have L10 := hN.1
  have T20 := hN.2.1
  have UT := hN.2.2.1
  refine ⟨L, T, U, fr_N hN e1 e9.1 e9.2 (f 1 (by omega)) (f 2 (by omega)) (f 3 (by omega)), ?_, fun l hl => fr_L1 (hL l hl) hb (by rw [e0 5 (by omega) (by omega)]) (eL 2 l (by omega) (by omega) (by omega)) (eL 3 l (by omega) (by omega) (by omega)) (eL 4 l (by omega) (by omega) (by omega)) (eL 5 l (by omega) (by omega) (by omega)) (eL 6 l (by omega) (by omega) (by omega)) (eL 7 l (by omega) (by omega) (by omega)) (fun j _ _ => f j (by omega)), fr_P hP (fun l hl => eL 2 l (by omega) (by omega) (by omega)), ?_, fun w hw => fr_W1 (hW w hw) hb (Nat.le_refl L) (eW 10 w (by omega) (by omega) (by omega)) (eW 11 w (by omega) (by omega) (by omega)) (eW 12 w (by omega) (by omega) (by omega)) (eW 13 w (by omega) (by omega) (by omega)) (eW 14 w (by omega) (by omega) (by omega)) (eW 15 w (by omega) (by omega) (by omega)) (fun j _ _ => f j (by omega)), fun q hq => by rw [f _ (by omega), eW 16 q (by omega) (by omega) (by omega)]; exact hT q hq, ?_, fun q hq => ?_⟩
  · unfold iG at hG ⊢
    rw [e0 5 (by omega) (by omega), e0 6 (by omega) (by omega), e0 7 (by omega) (by omega), e0 8 (by omega) (by omega), f 0 (by omega), f 4 (by omega), f 5 (by omega), f 6 (by omega)]
    exact hG
  · refine ⟨fun i hi => ?_, fun i hi => ?_⟩
    · rw [e8 i hi, f _ (by omega)]; exact hA.1 i hi
    · rw [e22 24 i (by omega) (by omega) hi, f _ (by omega)]; exact hA.2 i hi
  · obtain ⟨x1, x2, x3, x4, x5, x6⟩ := hX
    have e18 := e18 N x2 x1
    refine ⟨N, x1, by rw [e17.1]; exact x2, by rw [f 8 (by omega)]; exact x3, by rw [f 7 (by omega), e17.2]; exact x4, fun i hi => by rw [e18 i hi, f _ (by omega)]; exact x5 i hi, ?_⟩
    rw [e17.2]
    exact tk_ok_c e18 x6
  · obtain ⟨K, g0, g1, g2, g3, g4, g5⟩ := hC q hq
    refine ⟨K, g0, by rw [e22 22 q (by omega) (by omega) hq]; exact g1, by rw [f _ (by omega)]; exact g2, by rw [f _ (by omega), e22 23 q (by omega) (by omega) hq]; exact g3, by rw [e22 23 q (by omega) (by omega) hq]; exact g4, fun j hj => ?_⟩
    rw [f _ (by omega), f _ (by omega), e20 20 _ (by omega) (by omega) (by omega), e20 21 _ (by omega) (by omega) (by omega)]
    exact g5 j hj
theorem kp_cp (c : Nat → Nat → Int32) (r0 r n q j : Nat) : va_up c r (va_cpy (c r0) (c r) 0 0 n) q j = if q = r ∧ j < n then c r0 j else c q j := by
  unfold va_up va_cpy
  by_cases h : q = r
  · subst h
    by_cases h2 : j < n
    · simp [h2]
    · simp [h2]
  · simp [h]
/-- all numbers of one row of the reference come to another -/
theorem h_imD (m : Nat → Nat → Int32) : ∃ m3, kv_loop (kv_u2 fb_D_image_2) ((0 : Int32), m) = some m3 ∧ ∀ q j, m3 q j = if q = 86 ∧ j < 444 then m 85 j else m q j := by
  refine kp_inv (kv_u2 fb_D_image_2) (fun i s => ∃ m3, s = (nI i, m3) ∧ ∀ q j, m3 q j = if q = 86 ∧ j < i then m 85 j else m q j) _ 444 ?_ ?_ ((0 : Int32), m) ⟨m, rfl, fun q j => by rw [if_neg (by omega)]⟩
  · rintro i s hi ⟨c3, rfl, h3⟩
    have e : c3 85 i = m 85 i := by rw [h3, if_neg (by omega)]
    refine Or.inl ⟨(nI (i + 1), kv_st c3 86 i (m 85 i)), ?_, _, rfl, fun q j => ?_⟩
    · show fb_D_image_2 (nI i) c3 = _
      unfold fb_D_image_2
      have b2 : ¬ (444 : Int32) ≤ nI i := nI_ge (b := 444) hi (by omega)
      rw [if_neg b2, kp_gd _ (kp_in_nI (by omega) (by omega)), nI_clamp (by omega), kp_let, nI_1, e]
    · rw [kp_st, h3]
      by_cases z : q = 86 ∧ j = i
      · rw [if_pos z, if_pos ⟨z.1, by omega⟩, z.2]
      · rw [if_neg z]
        by_cases z2 : q = 86 ∧ j < i
        · rw [if_pos z2, if_pos ⟨z2.1, by omega⟩]
        · rw [if_neg z2, if_neg (by omega)]
  · rintro s ⟨c3, rfl, h3⟩
    exact ⟨c3, rfl, h3⟩
theorem h_reD (m : Nat → Nat → Int32) : ∃ m3, kv_loop (kv_u2 fb_D_restore_12) ((0 : Int32), m) = some m3 ∧ ∀ q j, m3 q j = if q = 85 ∧ j < 444 then m 86 j else m q j := by
  refine kp_inv (kv_u2 fb_D_restore_12) (fun i s => ∃ m3, s = (nI i, m3) ∧ ∀ q j, m3 q j = if q = 85 ∧ j < i then m 86 j else m q j) _ 444 ?_ ?_ ((0 : Int32), m) ⟨m, rfl, fun q j => by rw [if_neg (by omega)]⟩
  · rintro i s hi ⟨c3, rfl, h3⟩
    have e : c3 86 i = m 86 i := by rw [h3, if_neg (by omega)]
    refine Or.inl ⟨(nI (i + 1), kv_st c3 85 i (m 86 i)), ?_, _, rfl, fun q j => ?_⟩
    · show fb_D_restore_12 (nI i) c3 = _
      unfold fb_D_restore_12
      have b2 : ¬ (444 : Int32) ≤ nI i := nI_ge (b := 444) hi (by omega)
      rw [if_neg b2, kp_gd _ (kp_in_nI (by omega) (by omega)), nI_clamp (by omega), kp_let, nI_1, e]
    · rw [kp_st, h3]
      by_cases z : q = 85 ∧ j = i
      · rw [if_pos z, if_pos ⟨z.1, by omega⟩, z.2]
      · rw [if_neg z]
        by_cases z2 : q = 85 ∧ j < i
        · rw [if_pos z2, if_pos ⟨z2.1, by omega⟩]
        · rw [if_neg z2, if_neg (by omega)]
  · rintro s ⟨c3, rfl, h3⟩
    exact ⟨c3, rfl, h3⟩
