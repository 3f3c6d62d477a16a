/-! ===== one, worth ===== -/
section OX
variable {k N : Nat} {c m : Nat → Nat → Int32} {tx e : Nat → Int32}
theorem kr_start (hN : N ≤ 100) {r1 : Nat} (hr : r1 ≠ 75 ∧ r1 ≠ 76) (hl : kv_ln r1 = 100) (ht : ∀ i, i < N → c r1 i = tx i) (h0 : fx_Lumps_mean 1 1 c = some (e 0)) (h1 : fx_Lumps_mean 2 2 c = some (e 1)) (h2 : fx_Lumps_mean 7 7 c = some (e 2)) (h3 : fx_Lumps_mean 3 4 c = some (e 3)) : ∃ c1, fx_Reader_start r1 (nI N) c = some c1 ∧ rd_R c1 N tx e ∧ (∀ r, r ≠ 75 → r ≠ 76 → c1 r = c r) ∧ c1 75 2 = nI 0 ∧ c1 75 4 = -1 ∧ c1 75 5 = nI 0 ∧ c1 75 6 = c 1 5 ∧ c1 75 7 = -1 ∧ c1 75 8 = 0 := by
  have cp : kv_cp 0 0 (nI N) (kv_ln r1) 100 = true := by
    unfold kv_cp
    rw [hl, nI_toInt (by omega), nI_clamp (by omega), kp_c0]
    simp
    omega
  unfold fx_Reader_start
  rw [kp_gd _ cp]
  simp only [kp_let, kp_c0, nI_clamp (show N < 2 ^ 31 by omega)]
  generalize hb : va_up c 76 (va_cpy (c r1) (c 76) 0 0 N) = b
  have ob : ∀ r, r ≠ 76 → b r = c r := fun r h => by rw [← hb]; exact if_neg h
  have tb : ∀ i, i < N → b 76 i = tx i := fun i hi => by
    rw [← hb]
    show (if (76 : Nat) = 76 then va_cpy (c r1) (c 76) 0 0 N else c 76) i = _
    rw [if_pos rfl, pk_cpy_in (by omega) (by omega), show 0 + (i - 0) = i by omega]
    exact ht i hi
  have e15 : kv_st (kv_st (kv_st (kv_st (kv_st b 75 1 (nI N)) 75 2 0) 75 3 (-1)) 75 4 (-1)) 75 5 0 1 5 = c 1 5 := by
    rw [kp_st_ne (by omega), kp_st_ne (by omega), kp_st_ne (by omega), kp_st_ne (by omega), kp_st_ne (by omega), ob 1 (by omega)]
  rw [e15]
  generalize h10 : kv_st (kv_st (kv_st (kv_st (kv_st (kv_st (kv_st (kv_st b 75 1 (nI N)) 75 2 0) 75 3 (-1)) 75 4 (-1)) 75 5 0) 75 6 (c 1 5)) 75 7 (-1)) 75 8 0 = c10
  have o10 : ∀ r, r ≠ 75 → r ≠ 76 → c10 r = c r := fun r h1 h2 => by rw [← h10, kp_st_ne h1, kp_st_ne h1, kp_st_ne h1, kp_st_ne h1, kp_st_ne h1, kp_st_ne h1, kp_st_ne h1, kp_st_ne h1, ob r h2]
  have t10 : c10 76 = b 76 := by rw [← h10, kp_st_ne (by omega), kp_st_ne (by omega), kp_st_ne (by omega), kp_st_ne (by omega), kp_st_ne (by omega), kp_st_ne (by omega), kp_st_ne (by omega), kp_st_ne (by omega)]
  have v10 : c10 75 1 = nI N ∧ c10 75 2 = 0 ∧ c10 75 3 = -1 ∧ c10 75 4 = -1 ∧ c10 75 5 = 0 ∧ c10 75 6 = c 1 5 ∧ c10 75 7 = -1 ∧ c10 75 8 = 0 := by
    rw [← h10]
    refine ⟨?_, ?_, ?_, ?_, ?_, ?_, ?_, ?_⟩ <;> simp [kp_st]
  have M : ∀ (c2 : Nat → Nat → Int32) (p q : Int32), (∀ r, r ≠ 75 → r ≠ 76 → c2 r = c r) → fx_Lumps_mean p q c2 = fx_Lumps_mean p q c := fun c2 p q h => mn_fr (h 2 (by omega) (by omega)) (h 3 (by omega) (by omega)) (h 6 (by omega) (by omega)) p q
  have o12 : ∀ r, r ≠ 75 → r ≠ 76 → kv_st c10 75 9 (e 0) r = c r := fun r a b => by rw [kp_st_ne a, o10 r a b]
  have o14 : ∀ r, r ≠ 75 → r ≠ 76 → kv_st (kv_st c10 75 9 (e 0)) 75 10 (e 1) r = c r := fun r a b => by rw [kp_st_ne a, o12 r a b]
  have o16 : ∀ r, r ≠ 75 → r ≠ 76 → kv_st (kv_st (kv_st c10 75 9 (e 0)) 75 10 (e 1)) 75 11 (e 2) r = c r := fun r a b => by rw [kp_st_ne a, o14 r a b]
  rw [M _ _ _ o10, h0, kp_b1, M _ _ _ o12, h1, kp_b1, M _ _ _ o14, h2, kp_b1, M _ _ _ o16, h3, kp_b1]
  obtain ⟨w1, w2, w3, w4, w5, w6, w7, w8⟩ := v10
  refine ⟨_, rfl, ⟨hN, ?_, ?_, fun i hi => ?_, ?_, ?_, ?_, ?_⟩, fun r a b => by rw [kp_st_ne a, o16 r a b], ?_, ?_, ?_, ?_, ?_, ?_⟩
  · simp [kp_st]; exact w1
  · simp [kp_st]; exact w3
  · rw [kp_st_ne (by omega), kp_st_ne (by omega), kp_st_ne (by omega), kp_st_ne (by omega), t10]
    exact tb i hi
  · simp [kp_st]
  · simp [kp_st]
  · simp [kp_st]
  · simp [kp_st]
  · simp [kp_st]; exact w2
  · simp [kp_st]; exact w4
  · simp [kp_st]; exact w5
  · simp [kp_st]; exact w6
  · simp [kp_st]; exact w7
  · simp [kp_st]; exact w8
theorem kr_read (hN : N ≤ 100) {r1 : Nat} (hr : r1 ≠ 75 ∧ r1 ≠ 76) (hl : kv_ln r1 = 100) (ht : ∀ i, i < N → c r1 i = tx i) (h0 : fx_Lumps_mean 1 1 c = some (e 0)) (h1 : fx_Lumps_mean 2 2 c = some (e 1)) (h2 : fx_Lumps_mean 7 7 c = some (e 2)) (h3 : fx_Lumps_mean 3 4 c = some (e 3)) {n : Nat} {r : Nat ⊕ (Nat × Int32 × Option Nat)} (h : tk_all tx N e (c 1 5).toInt n 0 0 (-1) 0 none = some r) : ∃ s2, fx_Reader_read r1 (nI N) c = some (s2 75 8, s2) ∧ (∀ r, r ≠ 75 → r ≠ 76 → s2 r = c r) ∧ (∀ q, r = .inl q → s2 75 3 = nI q ∧ q ≤ N) ∧ ∀ st2 hv2 wr2, r = .inr (st2, hv2, wr2) → s2 75 3 = -1 ∧ s2 75 5 = nI st2 ∧ s2 75 8 = hv2 ∧ rs_w (s2 75 4) wr2 := by
  obtain ⟨c1, a1, a2, a3, a4, a5, a6, a7, a8, a9⟩ := kr_start hN hr hl ht h0 h1 h2 h3
  obtain ⟨s2, b1, b2, b3, b4⟩ := rs_all n 0 0 (-1) 0 none r 0 c1 h a2 a4 (Nat.zero_le _) a6 (by rw [a8]; exact ki_m1) a9 (by rw [a7]) (Or.inl ⟨rfl, a5⟩) (Nat.le_refl _)
  refine ⟨s2, ?_, fun r x y => by rw [b2 r x, a3 r x y], b3, b4⟩
  unfold fx_Reader_read
  rw [a1, kp_b1]
  cases hs : fx_Reader_statement c1 with
  | none => rw [hs] at b1; cases b1
  | some s1 =>
    rw [hs, kp_b1] at b1
    have b1 : kv_loop (kv_u2 fb_Reader_read_14) ((0 : Int32), s1) = some s2 := b1
    rw [kp_b1, b1, kp_sb1]
theorem krd_19 (p : Int32) (c : Nat → Nat → Int32) : fx_Reader_read_75_19_1 p c = fx_Reader_read 19 p c := by
  have e1 : fx_Reader_start_75_19_1 p c = fx_Reader_start 19 p c := by
    unfold fx_Reader_start_75_19_1 fx_Reader_start
    rw [show kv_ln 19 = 100 by decide]
  have e2 : fb_Reader_read_75_19_1_14 = fb_Reader_read_14 := rfl
  unfold fx_Reader_read_75_19_1 fx_Reader_read
  rw [e1, e2]
def dm_fr (m m2 : Nat → Nat → Int32) : Prop := (∀ r, r ≠ 84 → m2 r = m r) ∧ ∀ j, j < 18 → m2 84 j = m 84 j
theorem dm_tr {m2 m3 : Nat → Nat → Int32} (h1 : dm_fr m m2) (h2 : dm_fr m2 m3) : dm_fr m m3 := ⟨fun r hr => by rw [h2.1 r hr, h1.1 r hr], fun j hj => by rw [h2.2 j hj, h1.2 j hj]⟩
theorem dm_rw {m2 : Nat → Nat → Int32} {q : Nat} (h : rw_fr m m2 q) : dm_fr m m2 := ⟨h.1, fun j hj => h.2.1 j (by omega) (by omega) (by omega) (by omega)⟩
theorem fr_dm {c2 m2 : Nat → Nat → Int32} (h : Inv k c m) (h1 : ∀ r, r ≠ 75 → r ≠ 76 → c2 r = c r) (h2 : dm_fr m m2) : Inv (k + 1) c2 m2 :=
  fr_Inv h (fun r hr => h1 r (by omega) (by omega)) (fun r _ _ => h2.1 r (by omega)) (h2.2 8 (by omega)) (h2.2 14 (by omega)) (h2.2 15 (by omega)) (h2.2 17 (by omega))
theorem dr_set (row B : Nat) (m : Nat → Nat → Int32) (N : Nat) : dm_fr m (kv_st (kv_st (kv_st (kv_st m 84 23 (nI row)) 84 19 (nI B)) 84 20 (nI N)) 84 18 0) ∧ kv_st (kv_st (kv_st (kv_st m 84 23 (nI row)) 84 19 (nI B)) 84 20 (nI N)) 84 18 0 84 18 = nI 0 := by
  refine ⟨⟨fun r hr => by rw [kp_st_ne hr, kp_st_ne hr, kp_st_ne hr, kp_st_ne hr], fun j hj => by rw [kp_st, if_neg (by omega), kp_st, if_neg (by omega), kp_st, if_neg (by omega), kp_st, if_neg (by omega)]⟩, by rw [kp_st, if_pos ⟨rfl, rfl⟩]; rfl⟩
theorem dr_M {row B : Nat} (hrow : (row = 85 ∧ B + N ≤ 444) ∨ (row = 90 ∧ B + N ≤ 800)) (hN : N ≤ 100) (ht : ∀ i, i < N → m row (B + i) = tx i) : rm_M (kv_st (kv_st (kv_st (kv_st m 84 23 (nI row)) 84 19 (nI B)) 84 20 (nI N)) 84 18 0) N B row tx := by
  refine ⟨hrow, hN, by simp [kp_st], by simp [kp_st], by simp [kp_st], fun i hi => ?_⟩
  have hr : row ≠ 84 := by rcases hrow with ⟨rfl, -⟩ | ⟨rfl, -⟩ <;> omega
  rw [kp_st_ne hr, kp_st_ne hr, kp_st_ne hr, kp_st_ne hr]
  exact ht i hi
theorem dr_one (hE : rm_E m e) (hN : N ≤ 100) {n st2 : Nat} {hv2 : Int32} {wr2 : Option Nat} (h : tk_all tx N e (m 85 0).toInt n 0 0 (-1) 0 none = some (.inr (st2, hv2, wr2))) : ((∀ i, i < N → m 85 (240 + i) = tx i) → ∃ m2, fx_D_oneBy 240 (nI N) m = some (hv2, m2) ∧ dm_fr m m2) ∧ ∀ d, d < 8 → (∀ i, i < N → m 90 (100 * d + i) = tx i) → ∃ m2, fx_D_oneBy_84_90 (nI (100 * d)) (nI N) m = some (hv2, m2) ∧ dm_fr m m2 := by
  have core : ∀ row B, ((row = 85 ∧ B + N ≤ 444) ∨ (row = 90 ∧ B + N ≤ 800)) → (∀ i, i < N → m row (B + i) = tx i) → ∃ m2, (kv_loop (kv_u3 fb_D_oneBy_26) ((-1 : Int32), (0 : Int32), kv_st (kv_st (kv_st (kv_st m 84 23 (nI row)) 84 19 (nI B)) 84 20 (nI N)) 84 18 0)) = some (hv2, m2) ∧ dm_fr m m2 := by
    intro row B hrow ht
    obtain ⟨s1, s2⟩ := dr_set row B m N
    obtain ⟨m2, q, a1, a2⟩ := ro_all n 0 0 (-1) 0 none st2 hv2 wr2 (-1) _ h (dr_M hrow hN ht) (fun m3 h3 => hE m3 (by rw [h3, s1.1 85 (by omega)])) s2 (Nat.zero_le _) ki_m1 (by rw [s1.1 85 (by omega)])
    exact ⟨m2, a1, dm_tr s1 (dm_rw a2)⟩
  refine ⟨fun ht => ?_, fun d hd ht => ?_⟩
  · obtain ⟨m2, a1, a2⟩ := core 85 240 (Or.inl ⟨rfl, by omega⟩) ht
    refine ⟨m2, ?_, a2⟩
    unfold fx_D_oneBy
    simp only [kp_let]
    have e240 : (240 : Int32) = nI 240 := rfl
    rw [e240, a1, kp_sb2]
  · obtain ⟨m2, a1, a2⟩ := core 90 (100 * d) (Or.inr ⟨rfl, by omega⟩) ht
    refine ⟨m2, ?_, a2⟩
    have e2 : fb_D_oneBy_84_90_26 = fb_D_oneBy_26 := rfl
    unfold fx_D_oneBy_84_90
    simp only [kp_let]
    rw [e2, a1, kp_sb2]
/-- what one is now, on both sides -/
theorem h_one (h : Inv k c m) {c' m' : Nat → Nat → Int32} (hc : ∀ r, r ≠ 75 → r ≠ 76 → c' r = c r) (hm : dm_fr m m') : ∃ v s2 m2, fx_K_one c' = some (v, s2) ∧ fx_D_oneNow m' = some (v, m2) ∧ (∀ r, r ≠ 75 → r ≠ 76 → s2 r = c r) ∧ dm_fr m m2 := by
  obtain ⟨e, e0, e1, e2, e3, hE⟩ := mn_E h
  obtain ⟨L, T, U, hN, hG, hL, hP, hA, hW, hT, ⟨N, x1, x2, x3, x4, x5, ⟨n, kk, v, x6, x7⟩⟩, hC⟩ := h.1
  have x2 : c 18 1 = nI N := x2
  have M : ∀ p q, fx_Lumps_mean p q c' = fx_Lumps_mean p q c := fun p q => mn_fr (hc 2 (by omega) (by omega)) (hc 3 (by omega) (by omega)) (hc 6 (by omega) (by omega)) p q
  obtain ⟨r2, s1, s2, s3⟩ := tk_all_sh (e2 := e) (now2 := (c 1 5).toInt) n 0 0 (-1) (-1) 0 0 none _ x6
  obtain ⟨v2, rfl⟩ := s3 kk v none rfl
  have n0 : m 85 0 = c 1 5 := hG.2.2.1
  obtain ⟨sa, a1, a2, a3, a4⟩ := kr_read (c := c') (tx := c 19) x1 (r1 := 19) ⟨by omega, by omega⟩ (by decide) (fun i hi => by rw [hc 19 (by omega) (by omega)]) (by rw [M]; exact e0) (by rw [M]; exact e1) (by rw [M]; exact e2) (by rw [M]; exact e3) (by rw [hc 1 (by omega) (by omega)]; exact s1)
  obtain ⟨b1, b2, b3, b4⟩ := a4 kk v2 none rfl
  obtain ⟨m2, d1, d2⟩ := (dr_one (m := m') (tx := c 19) (e := e) (fun m3 h3 => hE m3 (by rw [h3, hm.1 85 (by omega)])) x1 (by rw [hm.1 85 (by omega), n0]; exact s1)).1 (fun i hi => by rw [hm.1 85 (by omega)]; exact x5 i hi)
  refine ⟨v2, sa, m2, ?_, ?_, fun r p q => by rw [a2 r p q, hc r p q], dm_tr hm d2⟩
  · unfold fx_K_one
    rw [hc 18 (by omega) (by omega), x2, krd_19, a1, kp_b2, b3]
  · unfold fx_D_oneNow
    rw [hm.1 85 (by omega), x3, d1, kp_b2]
theorem dm_refl : dm_fr m m := ⟨fun _ _ => rfl, fun _ _ => rfl⟩
theorem op_one (h : Inv k c m) : ∃ r c2 m2, fx_K_one c = some (r, c2) ∧ fx_D_one m = some (r, m2) ∧ Inv (k + 1) c2 m2 := by
  obtain ⟨v, s2, m2, a1, a2, a3, a4⟩ := h_one h (fun _ _ _ => rfl) dm_refl
  exact ⟨v, s2, m2, a1, by unfold fx_D_one; rw [a2, kp_b2], fr_dm h a3 a4⟩
theorem kr_one (c : Nat → Nat → Int32) : fx_Reader_read_75_19_1 (c 18 1) c = fx_K_one c := by
  show _ = kv_bind2 (fx_Reader_read_75_19_1 (c 18 1) c) (fun v2 c3 => some (v2, c3))
  cases fx_Reader_read_75_19_1 (c 18 1) c <;> rfl
theorem op_worth (h : Inv k c m) (p : Int32) : ∃ r c2 m2, fx_K_worth p c = some (r, c2) ∧ fx_D_worth p m = some (r, m2) ∧ Inv (k + 1) c2 m2 := by
  obtain ⟨L, T, U, hN, hG, hL, -⟩ := h.1
  have h10 := hN.1
  unfold fx_K_worth fx_D_worth
  rcases h_lump hN.2.2.2.1 hN.2.2.2.2.1 h10 p with ⟨l, hl, rfl, e1, e2⟩ | ⟨-, e1, e2⟩
  rotate_left
  · rw [e1, e2]
    exact ⟨-1000000001, c, m, rfl, rfl, fr_same h⟩
  have g3 : fx_D_get (nI l) 3 m = some (c 6 l) := by
    show fx_D_get (nI l) (nI 3) m = _
    rw [sx_get (by omega) (by omega), show 10 + 6 * l + 3 = 13 + 6 * l by omega]
    exact congrArg some (hL l hl).2.2.2.1
  obtain ⟨v, s2, m2, a1, a2, a3, a4⟩ := h_one h (fun _ _ _ => rfl) dm_refl
  rw [e1, e2, kp_b1, kp_b1, if_pos rfl, if_pos rfl, kp_gd _ (kp_in_nI (by omega) (by omega)), nI_clamp (by omega), kr_one, a1, kp_b2, g3, kp_b1, a2, kp_b2]
  exact ⟨_, s2, m2, rfl, rfl, fr_dm h a3 a4⟩
end OX
