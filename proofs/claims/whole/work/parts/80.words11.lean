/-! ===== words, moves ===== -/
section OM
variable {k N : Nat} {c m : Nat → Nat → Int32} {tx e : Nat → Int32}
theorem dr_reads (hN : N ≤ 100) {d : Nat} (hd : d < 8) (h93 : m 89 d = nI N) (ht : ∀ i, i < N → m 90 (100 * d + i) = tx i) {now : Int} {n : Nat} {r : Nat ⊕ (Nat × Int32 × Option Nat)} (h : tk_all tx N e now n 0 0 (-1) 0 none = some r) : ∃ x m2, fx_D_reads (nI d) m = some (x, m2) ∧ dm_fr m m2 ∧ (∀ q, r = .inl q → x = -1000 - nI q) ∧ ∀ a b w, r = .inr (a, b, w) → (w = none → x = nI a) ∧ ∀ q, w = some q → x = -2000 - nI q ∧ q < 1000 := by
  obtain ⟨s1, s2⟩ := dr_set 90 (100 * d) m N
  obtain ⟨z, a1, a2, a3⟩ := rt_all n 0 0 (-1) 0 none r (-4) _ h (dr_M (m := m) (row := 90) (B := 100 * d) (Or.inr ⟨rfl, by omega⟩) hN ht) s2 (Nat.zero_le _) (Or.inl ⟨rfl, rfl⟩)
  have e100 : (100 : Int32) * nI d = nI (100 * d) := pk_mul 100 d
  have e93 : kv_st (kv_st m 84 23 (nI 90)) 84 19 (nI (100 * d)) 89 d = nI N := by rw [kp_st_ne (by omega), kp_st_ne (by omega)]; exact h93
  unfold fx_D_reads
  rw [kp_let, e100, kp_let, kp_gd _ (kp_in_nI hd (by omega)), nI_clamp (show d < 2 ^ 31 by omega), e93, kp_let, kp_let]
  have a1 : kv_loop (kv_u3 fb_D_reads_36) ((0 : Int32), (-4 : Int32), kv_st (kv_st (kv_st (kv_st m 84 23 (nI 90)) 84 19 (nI (100 * d))) 84 20 (nI N)) 84 18 0) = some z := a1
  rw [a1]
  cases r with
  | inl q =>
    obtain ⟨m2, b1, b2⟩ := a2 q rfl
    rw [b1]
    refine ⟨-1000 - nI q, m2, ?_, dm_tr s1 (dm_rw b2), fun q0 e0 => by cases e0; rfl, fun a b w e0 => by (cases e0)⟩
    show some ((-1000 : Int32) - m2 84 18, m2) = _
    rw [b2.2.2]
  | inr a =>
    obtain ⟨st, hv, w⟩ := a
    obtain ⟨xw, m2, q, b1, b2, b3⟩ := a3 st hv w rfl
    rw [b1]
    have ev : ((some (Sum.inr (nI st, xw, m2)) : Option ((Nat → Nat → Int32) ⊕ (Int32 × Int32 × (Nat → Nat → Int32)))).bind (Sum.elim (kv_u1 (fun m9 => some (((-1000 : Int32) - (m9 84 18)), m9))) (kv_u3 (fun x10 x11 m12 => if 0 ≤ x11 then some (((-2000 : Int32) - x11), m12) else some (x10, m12))))) = if 0 ≤ xw then some (((-2000 : Int32) - xw), m2) else some (nI st, m2) := rfl
    rw [ev]
    rcases b3 with ⟨rfl, rfl⟩ | ⟨qq, rfl, rfl, hqq⟩
    · rw [if_neg (by decide)]
      refine ⟨_, m2, rfl, dm_tr s1 (dm_rw b2), fun q0 e0 => by (cases e0), fun a b w e0 => ?_⟩
      cases e0
      exact ⟨fun _ => rfl, fun q e0 => by (cases e0)⟩
    · rw [if_pos (nI_pos' (show qq < 2 ^ 31 by omega))]
      refine ⟨_, m2, rfl, dm_tr s1 (dm_rw b2), fun q0 e0 => by (cases e0), fun a b w e0 => ?_⟩
      cases e0
      exact ⟨fun e0 => by (cases e0), fun q e0 => by cases e0; exact ⟨rfl, hqq⟩⟩
theorem h_bytes (h : Inv k c m) (p : Int32) : (∃ d sz, d < 8 ∧ p = nI d ∧ hr_row c m d sz ∧ c (52 + 2 * d) 2 = 0 ∧ fx_K_bytesRefusal p c = some 0 ∧ fx_D_wrongRow p 0 m = some 0) ∨ ∃ r, r ≠ 0 ∧ fx_K_bytesRefusal p c = some r ∧ fx_D_wrongRow p 0 m = some r := by
  unfold fx_K_bytesRefusal fx_D_wrongRow fx_K_rowRefusal
  rcases h_isShelf p with ⟨d, hd, rfl, e1, e2⟩ | ⟨e1, e2⟩
  rotate_left
  · rw [e1, e2]
    exact Or.inr ⟨-1, by decide, rfl, rfl⟩
  have hD := h.2.2.1 d hd
  rw [e1, e2, kp_b1, kp_b1, if_pos rfl, if_pos rfl, kp_gd _ (kp_in_nI hd (by omega)), kp_gd _ (kp_in_nI hd (by omega)), kp_gd _ (kp_in_nI hd (by omega)), nI_clamp (by omega), tg_sh d hd, sx_empty, sx_row, hD.1, kp_b1]
  by_cases z1 : c (52 + 2 * d) 1 = 0
  · rw [decide_eq_true z1, if_pos z1]
    exact Or.inr ⟨-11, by decide, rfl, rfl⟩
  rw [decide_eq_false z1, if_neg (by decide), if_neg z1, kp_b1]
  by_cases z2 : c (52 + 2 * d) 1 = 2
  rotate_left
  · rw [decide_eq_false z2, if_neg z2]
    exact Or.inr ⟨-12, by decide, rfl, rfl⟩
  obtain ⟨sz, hr⟩ := hr_of hD z2
  rw [decide_eq_true z2, if_pos rfl, if_pos z2, kp_b1, if_pos rfl, if_neg (show ¬ ((0 : Int32) < 0) by decide), hr.2.1]
  by_cases z3 : c (52 + 2 * d) 2 = 0
  · rw [if_pos z3]
    exact Or.inl ⟨d, sz, hd, rfl, hr, z3, rfl, rfl⟩
  · rw [if_neg z3]
    exact Or.inr ⟨-12, by decide, rfl, rfl⟩
/-- a text in a shelf is read: the fault, or what it is worth, on both sides -/
theorem h_text (h : Inv k c m) {d sz : Nat} (hd : d < 8) (hr : hr_row c m d sz) : ∃ s2 x m2, fx_Reader_read (53 + 2 * d) (nI sz) c = some (s2 75 8, s2) ∧ fx_D_reads (nI d) m = some (x, m2) ∧ (∀ r, r ≠ 75 → r ≠ 76 → s2 r = c r) ∧ dm_fr m m2 ∧ ((x.toInt < 0 ∧ fx_Reader_faultTold s2 = some x) ∨ (fx_Reader_faultTold s2 = some 0 ∧ ∃ st, x = nI st ∧ st < 2 ^ 31 ∧ s2 75 5 = nI st ∧ tk_ok (c (53 + 2 * d)) sz (nI st) ∧ ∀ m' : Nat → Nat → Int32, dm_fr m m' → ∃ m3, fx_D_oneBy_84_90 (nI (100 * d)) (nI sz) m' = some (s2 75 8, m3) ∧ dm_fr m m3)) := by
  obtain ⟨e, e0, e1, e2, e3, hE⟩ := mn_E h
  obtain ⟨h1, h2, h3, h4, h5, h6, h7⟩ := hr
  obtain ⟨r, hr⟩ := tk_all_tot (tx := c (53 + 2 * d)) (e := e) (now := (c 1 5).toInt) h6 sz (3 * sz + 4 + sz) 0 0 (-1) 0 none (Nat.zero_le _) (by omega) (Nat.le_refl _)
  obtain ⟨s2, a1, a2, a3, a4⟩ := kr_read (tx := c (53 + 2 * d)) h6 (r1 := 53 + 2 * d) ⟨by omega, by omega⟩ (ln_el d hd) (fun i _ => rfl) e0 e1 e2 e3 hr
  obtain ⟨x, m2, b1, b2, b3, b4⟩ := dr_reads (tx := c (53 + 2 * d)) h6 hd h4 (fun i hi => h7 i (by omega)) hr
  refine ⟨s2, x, m2, a1, b1, a2, b2, ?_⟩
  have n0 : m 85 0 = c 1 5 := by obtain ⟨L, T, U, hN, hG, -⟩ := h.1; exact hG.2.2.1
  have k1000 : (-1000 : Int32).toInt = -1000 := by decide
  have k2000 : (-2000 : Int32).toInt = -2000 := by decide
  unfold fx_Reader_faultTold
  cases r with
  | inl q =>
    obtain ⟨c1, c2⟩ := a3 q rfl
    refine Or.inl ?_
    rw [b3 q rfl, c1, if_neg (nI_pos (by omega))]
    refine ⟨?_, rfl⟩
    rw [kp_sub] <;> rw [k1000, nI_toInt (by omega)] <;> omega
  | inr a =>
    obtain ⟨st, hv, w⟩ := a
    obtain ⟨c1, c2, c3, c4⟩ := a4 st hv w rfl
    obtain ⟨d1, d2⟩ := b4 st hv w rfl
    rw [c1, if_pos (by decide)]
    rcases c4 with ⟨rfl, w4⟩ | ⟨q, rfl, w4, hq⟩
    · refine Or.inr ⟨by rw [w4, if_pos (by decide)], ?_⟩
      have hst : st < 2 ^ 31 := by
        have : ∀ n p s0 hf hv wr a b w, tk_all (c (53 + 2 * d)) sz e (c 1 5).toInt n p s0 hf hv wr = some (.inr (a, b, w)) → a ≤ s0 + n := by
          intro n
          induction n with
          | zero => intro p s0 hf hv wr a b w h; cases h
          | succ n ih =>
            intro p s0 hf hv wr a b w h
            rw [tk_all_s] at h
            cases hz : tk_stm (c (53 + 2 * d)) sz e n p with
            | none => rw [hz] at h; cases h
            | some z =>
              rw [hz] at h
              cases z with
              | inl q =>
                have h : some (Sum.inl q) = some (Sum.inr (a, b, w)) := h
                injection h with h
                cases h
              | inr y =>
                obtain ⟨y, w0, q⟩ := y
                have h : (if q < sz then tk_all (c (53 + 2 * d)) sz e (c 1 5).toInt n q (s0 + 1) (if y.toInt ≤ (c 1 5).toInt ∧ hf ≤ y.toInt then y.toInt else hf) (if y.toInt ≤ (c 1 5).toInt ∧ hf ≤ y.toInt then w0 else hv) (if wr = none ∧ 140 < y.toInt then some p else wr) else some (.inr (s0 + 1, (if y.toInt ≤ (c 1 5).toInt ∧ hf ≤ y.toInt then w0 else hv), (if wr = none ∧ 140 < y.toInt then some p else wr)))) = some (Sum.inr (a, b, w)) := h
                by_cases zq : q < sz
                · rw [if_pos zq] at h
                  have := ih _ _ _ _ _ _ _ _ h
                  omega
                · rw [if_neg zq] at h
                  injection h with h
                  cases h
                  omega
        have := this _ _ _ _ _ _ _ _ _ hr
        omega
      obtain ⟨r3, t1, t2, t3⟩ := tk_all_sh (e2 := fun _ => 0) (now2 := 0) _ 0 0 (-1) (-1) 0 0 none _ hr
      obtain ⟨v3, rfl⟩ := t3 st hv none rfl
      refine ⟨st, d1 rfl, hst, c2, ⟨_, st, v3, t1, rfl⟩, fun m' hm' => ?_⟩
      obtain ⟨m3, g1, g2⟩ := (dr_one (m := m') (tx := c (53 + 2 * d)) (e := e) (fun m4 h4 => hE m4 (by rw [h4, hm'.1 85 (by omega)])) h6 (by rw [hm'.1 85 (by omega), n0]; exact hr)).2 d hd (fun i hi => by rw [hm'.1 90 (by omega)]; exact h7 i (by omega))
      exact ⟨m3, by rw [c3]; exact g1, dm_tr hm' g2⟩
    · refine Or.inl ?_
      obtain ⟨x1, x2⟩ := d2 q rfl
      rw [x1, w4, if_neg (nI_pos (show q < 2 ^ 31 by omega))]
      refine ⟨?_, rfl⟩
      rw [kp_sub] <;> rw [k2000, nI_toInt (show q < 2 ^ 31 by omega)] <;> omega
theorem op_moves (h : Inv k c m) (p q : Int32) : ∃ r c2 m2, fx_K_moves p q c = some (r, c2) ∧ fx_D_moves p q m = some (r, m2) ∧ Inv (k + 1) c2 m2 := by
  obtain ⟨L, T, U, hN, hG, hL, -⟩ := h.1
  have h10 := hN.1
  unfold fx_K_moves fx_D_moves
  rcases h_lump hN.2.2.2.1 hN.2.2.2.2.1 h10 p with ⟨l, hl, rfl, e1, e2⟩ | ⟨-, e1, e2⟩
  rotate_left
  · rw [e1, e2]
    exact ⟨-1000000001, c, m, rfl, rfl, fr_same h⟩
  rw [e1, e2, kp_b1, kp_b1, if_pos rfl, if_pos rfl]
  rcases h_bytes h q with ⟨d, sz, hd, rfl, hr, z0, e3, e4⟩ | ⟨r, hr, e3, e4⟩
  rotate_left
  · rw [e3, e4, kp_b1, kp_b1, if_neg hr, if_neg hr]
    exact ⟨_, c, m, rfl, rfl, fr_same h⟩
  obtain ⟨s2, x, m2, a1, a2, a3, a4, ho⟩ := h_text h hd hr
  rw [e3, e4, kp_b1, kp_b1, if_pos rfl, if_pos rfl, kp_gd _ (kp_in_nI hd (by omega)), nI_clamp (show d < 2 ^ 31 by omega), tg_sh d hd, tg_el d hd, hr.2.2.2.2.1, a1, kp_b2, a2, kp_b2]
  rcases ho with ⟨x1, x2⟩ | ⟨x2, st, rfl, hst, -, -, hone⟩
  · have nx : ¬ x = 0 := fun w => by rw [w, ki_0] at x1; omega
    have px : ¬ 0 ≤ x := fun w => by rw [kp_le, ki_0] at w; omega
    rw [x2, kp_b1, if_neg nx, kp_b1, if_neg px]
    exact ⟨_, s2, m2, rfl, rfl, fr_dm h a3 a4⟩
  rw [x2, kp_b1, if_pos rfl, if_pos (nI_pos' hst)]
  obtain ⟨v, s3, m3, b1, b2, b3, b4⟩ := h_one h a3 a4
  obtain ⟨m4, c1, c2⟩ := hone m3 b4
  have e100 : (100 : Int32) * nI d = nI (100 * d) := pk_mul 100 d
  have e93 : m3 89 d = nI sz := by rw [b4.1 89 (by omega)]; exact hr.2.2.2.1
  rw [kr_one, b1, kp_b2, b2, kp_b2, kp_gd _ (kp_in_nI hd (by omega)), e100, e93, c1, kp_b2]
  exact ⟨_, s3, m4, rfl, rfl, fr_dm h b3 c2⟩
theorem ow_loop {d sz : Nat} (hd : d < 8) (hs : sz ≤ 100) (h93 : m 89 d = nI sz) : ∃ m3, kv_loop (kv_u2 (fb_D_words_49 (nI d))) ((0 : Int32), m) = some m3 ∧ ∀ q v, m3 q v = if q = 85 ∧ 240 ≤ v ∧ v < 240 + sz then m 90 (100 * d + (v - 240)) else m q v := by
  refine kp_inv (kv_u2 (fb_D_words_49 (nI d))) (fun i s => ∃ m3, s = (nI i, m3) ∧ ∀ q v, m3 q v = if q = 85 ∧ 240 ≤ v ∧ v < 240 + i then m 90 (100 * d + (v - 240)) else m q v) _ sz ?_ ?_ ((0 : Int32), m) ⟨m, rfl, fun q v => by rw [if_neg (by omega)]⟩
  · rintro i s hi ⟨m3, rfl, h3⟩
    have e240 : (240 : Int32) + nI i = nI (240 + i) := nI_add 240 i
    have e93 : m3 89 d = nI sz := by rw [h3, if_neg (by omega)]; exact h93
    refine Or.inl ⟨_, by
      show fb_D_words_49 (nI d) (nI i) m3 = _
      unfold fb_D_words_49
      rw [nI_clamp (show d < 2 ^ 31 by omega), e93, if_neg (nI_ge hi (by omega)), hr_ix, e240, kp_gd _ (kp_in_nI (by omega) (by omega)), kp_gd _ (kp_in_nI (by omega) (by omega)), nI_clamp (show 240 + i < 2 ^ 31 by omega), nI_clamp (show 100 * d + i < 2 ^ 31 by omega), kp_let, nI_1], _, rfl, fun q v => ?_⟩
    have e94 : m3 90 (100 * d + i) = m 90 (100 * d + i) := by rw [h3, if_neg (by omega)]
    rw [kp_st, e94]
    by_cases z : q = 85 ∧ v = 240 + i
    · rw [if_pos z, if_pos (by omega), show v - 240 = i by omega]
    · rw [if_neg z, h3]
      by_cases z2 : q = 85 ∧ 240 ≤ v ∧ v < 240 + i
      · rw [if_pos z2, if_pos (by omega)]
      · rw [if_neg z2, if_neg (by omega)]
  · rintro s ⟨m3, rfl, h3⟩
    refine ⟨m3, ?_, h3⟩
    show fb_D_words_49 (nI d) (nI sz) m3 = _
    unfold fb_D_words_49
    rw [nI_clamp (show d < 2 ^ 31 by omega), show m3 89 d = nI sz by rw [h3, if_neg (by omega)]; exact h93, if_pos (nI_le (Nat.le_refl _) (by omega))]
theorem op_words (h : Inv k c m) (p : Int32) : ∃ r c2 m2, fx_K_words p c = some (r, c2) ∧ fx_D_words p m = some (r, m2) ∧ Inv (k + 1) c2 m2 := by
  unfold fx_K_words fx_D_words
  rcases h_bytes h p with ⟨d, sz, hd, rfl, hr, z0, e3, e4⟩ | ⟨r, hr, e3, e4⟩
  rotate_left
  · rw [e3, e4, kp_b1, kp_b1, if_neg hr, if_neg hr]
    exact ⟨_, c, m, rfl, rfl, fr_same h⟩
  obtain ⟨s2, x, m2, a1, a2, a3, a4, ho⟩ := h_text h hd hr
  have hsz := hr.2.2.2.2.2.1
  rw [e3, e4, kp_b1, kp_b1, if_pos rfl, if_pos rfl, kp_gd _ (kp_in_nI hd (by omega)), nI_clamp (show d < 2 ^ 31 by omega), tg_sh d hd, tg_el d hd, hr.2.2.2.2.1, a1, kp_b2, a2, kp_b2]
  have H1 : Inv (k + 1) s2 m2 := fr_dm h a3 a4
  rcases ho with ⟨x1, x2⟩ | ⟨x2, st, rfl, hst, s5, hok, -⟩
  · have nx : ¬ x = 0 := fun w => by rw [w, ki_0] at x1; omega
    have px : ¬ 0 ≤ x := fun w => by rw [kp_le, ki_0] at w; omega
    rw [x2, kp_b1, if_neg nx, kp_b1, if_neg px]
    exact ⟨_, s2, m2, rfl, rfl, H1⟩
  have cp : kv_cp 0 0 (nI sz) (kv_ln (53 + 2 * d)) 100 = true := by
    unfold kv_cp
    rw [ln_el d hd, nI_toInt (by omega), nI_clamp (by omega), kp_c0]
    simp
    omega
  have e523 : s2 (52 + 2 * d) 3 = nI sz := by rw [a3 _ (by omega) (by omega)]; exact hr.2.2.2.2.1
  have m93 : kv_st m2 85 7 (nI st) 89 d = nI sz := by rw [kp_st_ne (by omega), a4.1 89 (by omega)]; exact hr.2.2.2.1
  obtain ⟨m9, l1, l2⟩ := ow_loop (m := kv_st (kv_st m2 85 7 (nI st)) 85 8 (nI sz)) hd hsz (by rw [kp_st_ne (by omega)]; exact m93)
  rw [x2, kp_b1, if_pos rfl, if_pos (nI_pos' hst), kp_let, kp_gd _ (kp_in_nI hd (by omega)), m93, kp_let, l1, kp_sb1, e523, s5]
  unfold fx_Law_write
  rw [kp_gd _ cp, kp_let, kp_let, kp_let, kp_b1, kp_c0, nI_clamp (show sz < 2 ^ 31 by omega)]
  generalize hc6 : kv_st (kv_st (va_up s2 19 (va_cpy (s2 (53 + 2 * d)) (s2 19) 0 0 sz)) 18 1 (nI sz)) 18 2 (nI st) = c6
  have o6 : ∀ r, r ≠ 18 → r ≠ 19 → c6 r = s2 r := fun r h1 h2 => by
    rw [← hc6, kp_st_ne h1, kp_st_ne h1]
    exact if_neg h2
  have t6 : ∀ i, i < sz → c6 19 i = c (53 + 2 * d) i := fun i hi => by
    rw [← hc6, kp_st_ne (by omega), kp_st_ne (by omega)]
    show (if (19 : Nat) = 19 then va_cpy (s2 (53 + 2 * d)) (s2 19) 0 0 sz else s2 19) i = _
    rw [if_pos rfl, pk_cpy_in (by omega) (by omega), show 0 + (i - 0) = i by omega, a3 _ (by omega) (by omega)]
  have q1 : c6 18 1 = nI sz := by rw [← hc6, kp_st, if_neg (by omega), kp_st, if_pos ⟨rfl, rfl⟩]
  have q2 : c6 18 2 = nI st := by rw [← hc6, kp_st, if_pos ⟨rfl, rfl⟩]
  refine ⟨nI st, c6, m9, by rw [o6 75 (by omega) (by omega), s5], rfl, ?_⟩
  have es : ∀ j, j ≠ 7 → j ≠ 8 → j < 240 ∨ 340 ≤ j → m9 85 j = m2 85 j := fun j h1 h2 h3 => by
    rw [l2, if_neg (by omega), kp_st, if_neg (by omega), kp_st, if_neg (by omega)]
  have em : ∀ r, r ≠ 85 → m9 r = m2 r := fun r hr => by
    funext v
    rw [l2, if_neg (by omega), kp_st_ne hr, kp_st_ne hr]
  obtain ⟨L, T, U, hN, hG, hL, hP, hA, hW, hT, hX, hC⟩ := H1.1
  have L10 := hN.1
  have T20 := hN.2.1
  have UT := hN.2.2.1
  have ev : ∀ i, i ≠ 17 → i ≠ 18 → i_v c6 1 i = i_v s2 1 i := fun i h1 h2 => o6 _ (by omega) (by omega)
  refine fr_stateK H1 (Nat.le_refl _) ⟨L, T, U, fr_N hN (by rw [ev 1 (by omega) (by omega)]) (by rw [ev 9 (by omega) (by omega)]) (by rw [ev 9 (by omega) (by omega)]) (es _ (by omega) (by omega) (by omega)) (es _ (by omega) (by omega) (by omega)) (es _ (by omega) (by omega) (by omega)), ?_, fun l hl => fr_L1 (hL l hl) (by omega) (by rw [ev 0 (by omega) (by omega)]) (by rw [ev 2 (by omega) (by omega)]) (by rw [ev 3 (by omega) (by omega)]) (by rw [ev 4 (by omega) (by omega)]) (by rw [ev 5 (by omega) (by omega)]) (by rw [ev 6 (by omega) (by omega)]) (by rw [ev 7 (by omega) (by omega)]) (fun j _ _ => es j (by omega) (by omega) (by omega)), fr_P hP (fun l _ => by rw [ev 2 (by omega) (by omega)]), fr_A hA (ev 8 (by omega) (by omega)) (ev 24 (by omega) (by omega)) (fun j _ _ => es j (by omega) (by omega) (by omega)), fun w hw => fr_W1 (hW w hw) (by omega) (Nat.le_refl L) (by rw [ev 10 (by omega) (by omega)]) (by rw [ev 11 (by omega) (by omega)]) (by rw [ev 12 (by omega) (by omega)]) (by rw [ev 13 (by omega) (by omega)]) (by rw [ev 14 (by omega) (by omega)]) (by rw [ev 15 (by omega) (by omega)]) (fun j _ _ => es j (by omega) (by omega) (by omega)), fun q hq => by rw [es _ (by omega) (by omega) (by omega), ev 16 (by omega) (by omega)]; exact hT q hq, ?_, fun q hh => fr_C1 hh (hC q hh) (ev 20 (by omega) (by omega)) (ev 21 (by omega) (by omega)) (ev 22 (by omega) (by omega)) (ev 23 (by omega) (by omega)) (fun j _ _ => es j (by omega) (by omega) (by omega))⟩ (o6 0 (by omega) (by omega)) (fun r _ _ => o6 r (by omega) (by omega)) (fun r _ _ => em r (by omega)) (em 84 (by omega)) (fun w hw => by rw [o6 16 (by omega) (by omega), o6 41 (by omega) (by omega)]; exact H1.2.2.2.2.2.2 w hw)
  · unfold iG at hG ⊢
    rw [ev 0 (by omega) (by omega), es 0 (by omega) (by omega) (by omega), es 4 (by omega) (by omega) (by omega), es 5 (by omega) (by omega) (by omega), es 6 (by omega) (by omega) (by omega)]
    exact hG
  · refine ⟨sz, hsz, q1, ?_, ?_, fun i hi => ?_, ?_⟩
    · rw [l2, if_neg (by omega), kp_st, if_pos ⟨rfl, rfl⟩]
    · show m9 85 7 = c6 18 2
      rw [l2, if_neg (by omega), kp_st, if_neg (by omega), kp_st, if_pos ⟨rfl, rfl⟩, q2]
    · show m9 85 (240 + i) = c6 19 i
      rw [l2, if_pos ⟨rfl, by omega, by omega⟩, kp_st_ne (by omega), kp_st_ne (by omega), a4.1 90 (by omega), show 240 + i - 240 = i by omega, hr.2.2.2.2.2.2 i (by omega), t6 i hi]
    · show tk_ok (c6 19) sz (c6 18 2)
      rw [q2]
      exact tk_ok_c t6 hok
end OM
