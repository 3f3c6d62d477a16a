/-! ===== weighings read, primes, touches, counts ===== -/
section O2
variable {k : Nat} {c m : Nat → Nat → Int32}
theorem h_weighing {T : Nat} (h : c 10 7 = nI T) (h2 : m 85 2 = nI T) (hT : T ≤ 20) (p : Int32) : (∃ w, w < T ∧ p = nI w ∧ fx_Weighings_has p c = some true ∧ fx_D_isWeighing p m = some true) ∨ (¬ (0 ≤ p.toInt ∧ p.toInt < T) ∧ fx_Weighings_has p c = some false ∧ fx_D_isWeighing p m = some false) := by
  have e1 : fx_Weighings_has p c = some (decide (0 ≤ p.toInt ∧ p.toInt < T)) := by
    unfold fx_Weighings_has
    rw [h]
    simp only [kp_le, kp_lt, nI_toInt (show T < 2 ^ 31 by omega), ki_0]
    split <;> (try split) <;> simp <;> omega
  have e2 : fx_D_isWeighing p m = some (decide (0 ≤ p.toInt ∧ p.toInt < T)) := by
    unfold fx_D_isWeighing
    have e : (nI T - 1).toInt = (T : Int) - 1 := by
      have := nI_toInt (show T < 2 ^ 31 by omega)
      rw [kp_sub] <;> rw [this, ki_1] <;> omega
    rw [h2, sx_isInL p 0 ((T : Int) - 1) (by decide) (by rw [Int32.toInt_toInt64, e]), kp_b1]
    congr 1
    exact decide_eq_decide.mpr (by omega)
  by_cases q : 0 ≤ p.toInt ∧ p.toInt < T
  · obtain ⟨l, q1, q2, q3⟩ := kp_nat q.1
    exact Or.inl ⟨l, by omega, q1, by rw [e1]; simp [q], by rw [e2]; simp [q]⟩
  · exact Or.inr ⟨q, by rw [e1]; simp only [q]; rfl, by rw [e2]; simp only [q]; rfl⟩
theorem op_weighing (h : Inv k c m) (p q : Int32) : ∃ r, fx_K_weighing p q c = some r ∧ fx_D_weighing p q m = some r := by
  obtain ⟨⟨L, T, U, hN, hG, hL, -, -, hW, -⟩, -⟩ := h
  unfold fx_K_weighing fx_D_weighing
  rcases h_weighing hN.2.2.2.2.2.1 hN.2.2.2.2.2.2.1 hN.2.1 p with ⟨l, hl, rfl, e1, e2⟩ | ⟨-, e1, e2⟩
  · rw [e1, e2, kp_b1, kp_b1, if_pos rfl, if_pos rfl]
    have hl20 : l < 20 := by have := hN.2.1; omega
    have G : kv_in (nI l) 20 = true := kp_in_nI hl20 (by omega)
    obtain ⟨r0, r1, r2, r3, r4, r5, -, -, -, -, r6⟩ := hW l hl
    have g0 : fx_D_say (nI l) 0 m = some (c 11 l) := by show fx_D_say (nI l) (nI 0) m = _; rw [sx_say hl20 (by omega)]; exact congrArg some r0
    have g1 : fx_D_say (nI l) 1 m = some (c 12 l) := by show fx_D_say (nI l) (nI 1) m = _; rw [sx_say hl20 (by omega), show 80 + 6 * l + 1 = 81 + 6 * l by omega]; exact congrArg some r1
    have g2 : fx_D_say (nI l) 2 m = some (c 13 l) := by show fx_D_say (nI l) (nI 2) m = _; rw [sx_say hl20 (by omega), show 80 + 6 * l + 2 = 82 + 6 * l by omega]; exact congrArg some r2
    have g3 : fx_D_say (nI l) 3 m = some (c 14 l) := by show fx_D_say (nI l) (nI 3) m = _; rw [sx_say hl20 (by omega), show 80 + 6 * l + 3 = 83 + 6 * l by omega]; exact congrArg some r3
    have g4 : fx_D_say (nI l) 4 m = some (c 15 l) := by show fx_D_say (nI l) (nI 4) m = _; rw [sx_say hl20 (by omega), show 80 + 6 * l + 4 = 84 + 6 * l by omega]; exact congrArg some r4
    have g5 : fx_D_say (nI l) 5 m = some (c 16 l) := by show fx_D_say (nI l) (nI 5) m = _; rw [sx_say hl20 (by omega), show 80 + 6 * l + 5 = 85 + 6 * l by omega]; exact congrArg some r5
    rw [sx_isInL q 0 5 (by decide) (by decide), kp_b1]
    simp only [kp_gd _ G, nI_clamp (show l < 2 ^ 31 by omega)]
    by_cases q0 : q = 0
    · subst q0; exact ⟨c 11 l, rfl, by rw [if_pos (by decide), g0]; rfl⟩
    by_cases q1 : q = 1
    · subst q1; exact ⟨c 12 l, rfl, by rw [if_pos (by decide), g1]; rfl⟩
    by_cases q2 : q = 2
    · subst q2; exact ⟨c 13 l, rfl, by rw [if_pos (by decide), g2]; rfl⟩
    by_cases q3 : q = 3
    · subst q3; exact ⟨c 14 l, rfl, by rw [if_pos (by decide), g3]; rfl⟩
    by_cases q4 : q = 4
    · subst q4; exact ⟨c 15 l, rfl, by rw [if_pos (by decide), g4]; rfl⟩
    by_cases q5 : q = 5
    · subst q5
      have r6 : c 16 l = 0 ∨ c 16 l = 1 := r6
      refine ⟨c 16 l, ?_, by rw [if_pos (by decide), g5]; rfl⟩
      rw [if_neg q0, if_neg q1, if_neg q2, if_neg q3, if_neg q4, if_pos rfl]
      rcases r6 with z | z <;> rw [z]
      · rfl
      · rw [if_neg (by decide)]
    · refine ⟨-1000000001, by rw [if_neg q0, if_neg q1, if_neg q2, if_neg q3, if_neg q4, if_neg q5], ?_⟩
      rw [if_neg]
      rw [decide_eq_true_eq]
      rw [kp_eq] at q0 q1 q2 q3 q4 q5
      rw [ki_0] at q0; rw [ki_1] at q1; rw [ki_2] at q2; rw [ki_3] at q3; rw [ki_4] at q4; rw [ki_5] at q5
      omega
  · exact ⟨-1000000001, by rw [e1]; rfl, by rw [e2]; rfl⟩
theorem h_prime {L : Nat} (h : c 2 7 = nI L) (h2 : m 85 1 = nI L) (hL : L ≤ 10) (hk : ∀ l, l < L → m 85 (10 + 6 * l) = c 3 l) : (∃ l, l < L ∧ c 3 l = 1 ∧ fx_Lumps_primeAt c = some (nI l) ∧ fx_D_primeOf m = some (nI l)) ∨ ((∀ l, l < L → c 3 l ≠ 1) ∧ fx_Lumps_primeAt c = some (-1) ∧ fx_D_primeOf m = some (-4)) := by
  have hs := kp_sim (kv_u1 (fb_Lumps_primeAt_2 c)) (kv_u1 (fb_D_primeOf_2 m)) (fun i s t => s = nI i ∧ t = nI i ∧ ∀ j, j < i → c 3 j ≠ 1) (fun r w => (∃ l, l < L ∧ c 3 l = 1 ∧ r = .inl (nI l) ∧ w = .inl (nI l)) ∨ ((∀ l, l < L → c 3 l ≠ 1) ∧ r = .inr () ∧ w = .inr ())) L ?_ ?_ (0 : Int32) (0 : Int32) ⟨rfl, rfl, fun j hj => by omega⟩
  · obtain ⟨r, w, h3, h4, h5⟩ := hs
    unfold fx_Lumps_primeAt fx_D_primeOf
    rw [h3, h4]
    rcases h5 with ⟨l, a1, a2, rfl, rfl⟩ | ⟨a1, rfl, rfl⟩
    · exact Or.inl ⟨l, a1, a2, rfl, rfl⟩
    · exact Or.inr ⟨a1, rfl, rfl⟩
  · rintro i s t hi ⟨rfl, rfl, hj⟩
    show (∃ s2 t2, fb_Lumps_primeAt_2 c (nI i) = some (.inl s2) ∧ fb_D_primeOf_2 m (nI i) = some (.inl t2) ∧ _) ∨ ∃ r w, fb_Lumps_primeAt_2 c (nI i) = some (.inr r) ∧ fb_D_primeOf_2 m (nI i) = some (.inr w) ∧ _
    unfold fb_Lumps_primeAt_2 fb_D_primeOf_2
    have g : fx_D_get (nI i) 0 m = some (c 3 i) := by show fx_D_get (nI i) (nI 0) m = _; rw [sx_get (by omega) (by omega)]; exact congrArg some (hk i hi)
    rw [h, h2, if_neg (nI_ge hi (by omega)), if_neg (nI_ge hi (by omega)), kp_gd _ (kp_in_nI (by omega) (by omega)), nI_clamp (by omega), g, kp_b1]
    by_cases z : c 3 i = 1
    · simp only [if_pos z]
      exact Or.inr ⟨_, _, rfl, rfl, Or.inl ⟨i, hi, z, rfl, rfl⟩⟩
    · simp only [if_neg z]
      refine Or.inl ⟨_, _, rfl, rfl, nI_1 i, nI_1 i, fun j hj2 => ?_⟩
      rcases Nat.lt_or_ge j i with q | q
      · exact hj j q
      · have : j = i := by omega
        rw [this]; exact z
  · rintro s t ⟨rfl, rfl, hj⟩
    show ∃ r w, fb_Lumps_primeAt_2 c (nI L) = some (.inr r) ∧ fb_D_primeOf_2 m (nI L) = some (.inr w) ∧ _
    unfold fb_Lumps_primeAt_2 fb_D_primeOf_2
    simp only [h, h2, if_pos (nI_le (Nat.le_refl L) (show L < 2 ^ 31 by omega))]
    exact ⟨_, _, rfl, rfl, Or.inr ⟨hj, rfl, rfl⟩⟩
theorem h_touch {U : Nat} (h : c 10 8 = nI U) (h2 : m 85 3 = nI U) (hU : U ≤ 20) (hn : m 85 0 = c 1 5) (ht : ∀ j, j < U → m 85 (200 + j) = c 17 j) : ∃ r, fx_Weighings_touchesLeft (c 1 5) c = some r ∧ fx_D_touchesLeft m = some r := by
  have hs := kp_sim (kv_u2 (fb_Weighings_touchesLeft_4 c (c 1 5))) (kv_u2 (fb_D_touchesLeft_4 m)) (fun i s t => ∃ x : Int32, s = (x, nI i) ∧ t = (x, nI i)) (fun r w => r = w) U ?_ ?_ ((3 : Int32), (0 : Int32)) ((3 : Int32), (0 : Int32)) ⟨3, rfl, rfl⟩
  · obtain ⟨r, w, h3, h4, rfl⟩ := hs
    unfold fx_Weighings_touchesLeft fx_D_touchesLeft
    rw [h3, h4]
    exact ⟨r, rfl, rfl⟩
  · rintro i s t hi ⟨x, rfl, rfl⟩
    refine Or.inl ?_
    show ∃ s2 t2, fb_Weighings_touchesLeft_4 c (c 1 5) x (nI i) = some (.inl s2) ∧ fb_D_touchesLeft_4 m x (nI i) = some (.inl t2) ∧ _
    unfold fb_Weighings_touchesLeft_4 fb_D_touchesLeft_4
    have e : (200 : Int32) + nI i = nI (200 + i) := nI_add 200 i
    rw [h, h2, if_neg (nI_ge hi (by omega)), if_neg (nI_ge hi (by omega)), kp_gd _ (kp_in_nI (by omega) (by omega)), e, kp_gd _ (kp_in_nI (by omega) (by omega)), nI_clamp (by omega), nI_clamp (by omega), ht i hi, hn]
    by_cases z : c 17 i < c 1 5 - 99
    · rw [if_pos z, if_pos z]
      exact ⟨_, _, rfl, rfl, x, by rw [nI_1], by rw [nI_1, Int32.sub_zero]⟩
    · rw [if_neg z, if_neg z]
      exact ⟨_, _, rfl, rfl, x + (-1), by rw [nI_1], by rw [nI_1, Int32.sub_eq_add_neg]⟩
  · rintro s t ⟨x, rfl, rfl⟩
    show ∃ r w, fb_Weighings_touchesLeft_4 c (c 1 5) x (nI U) = some (.inr r) ∧ fb_D_touchesLeft_4 m x (nI U) = some (.inr w) ∧ _
    unfold fb_Weighings_touchesLeft_4 fb_D_touchesLeft_4
    simp only [h, h2, if_pos (nI_le (Nat.le_refl U) (show U < 2 ^ 31 by omega))]
    exact ⟨_, _, rfl, rfl, rfl⟩
theorem op_touches (h : Inv k c m) : ∃ r, fx_K_touches c = some r ∧ fx_D_touches m = some r := by
  obtain ⟨⟨L, T, U, hN, hG, hL, -, -, hW, hT, -⟩, -⟩ := h
  unfold fx_K_touches fx_D_touches
  have hU : U ≤ 20 := by have := hN.2.1; have := hN.2.2.1; omega
  obtain ⟨r, t1, t2⟩ := h_touch (c := c) (m := m) hN.2.2.2.2.2.2.2.1 hN.2.2.2.2.2.2.2.2 hU hG.2.2.1 hT
  rcases h_prime hN.2.2.2.1 hN.2.2.2.2.1 hN.1 (fun l hl => (hL l hl).1) with ⟨l, hl, -, e1, e2⟩ | ⟨-, e1, e2⟩
  · simp only [e1, e2, kp_b1, if_pos (nI_pos' (show l < 2 ^ 31 by have := hN.1; omega)), t1, t2]
    exact ⟨r, rfl, rfl⟩
  · rw [e1, e2]
    exact ⟨-4, rfl, rfl⟩
theorem h_outs {L T : Nat} {b : Int} (h : c 10 7 = nI T) (h2 : m 85 2 = nI T) (hT : T ≤ 20) (hW : ∀ w, w < T → iW1 (i_v c 1) (m 85) b L w) : ∃ r, fx_Weighings_howManyOut c = some r ∧ kv_loop (kv_u2 (fb_D_count_63 m)) ((0 : Int32), (0 : Int32)) = some r := by
  have hs := kp_sim (kv_u2 (fb_Weighings_howManyOut_4 c)) (kv_u2 (fb_D_count_63 m)) (fun i s t => ∃ x : Int32, s = (x, nI i) ∧ t = (x, nI i)) (fun r w => r = w) T ?_ ?_ ((0 : Int32), (0 : Int32)) ((0 : Int32), (0 : Int32)) ⟨0, rfl, rfl⟩
  · obtain ⟨r, w, h3, h4, rfl⟩ := hs
    unfold fx_Weighings_howManyOut
    rw [h3, h4]
    exact ⟨r, rfl, rfl⟩
  · rintro i s t hi ⟨x, rfl, rfl⟩
    refine Or.inl ?_
    show ∃ s2 t2, fb_Weighings_howManyOut_4 c x (nI i) = some (.inl s2) ∧ fb_D_count_63 m x (nI i) = some (.inl t2) ∧ _
    unfold fb_Weighings_howManyOut_4 fb_D_count_63
    obtain ⟨-, -, -, -, -, r5, -, -, -, -, r6⟩ := hW i hi
    have g5 : fx_D_say (nI i) 5 m = some (c 16 i) := by show fx_D_say (nI i) (nI 5) m = _; rw [sx_say (by omega) (by omega), show 80 + 6 * i + 5 = 85 + 6 * i by omega]; exact congrArg some r5
    have r6 : c 16 i = 0 ∨ c 16 i = 1 := r6
    rw [h, h2, if_neg (nI_ge hi (by omega)), if_neg (nI_ge hi (by omega)), kp_gd _ (kp_in_nI (by omega) (by omega)), nI_clamp (by omega), g5, kp_b1]
    rcases r6 with z | z
    · rw [if_pos z, z]
      exact ⟨_, _, rfl, rfl, x, by rw [nI_1], by rw [nI_1, Int32.add_zero]⟩
    · rw [if_neg (by rw [z]; decide), z]
      exact ⟨_, _, rfl, rfl, x + 1, by rw [nI_1], by rw [nI_1]⟩
  · rintro s t ⟨x, rfl, rfl⟩
    show ∃ r w, fb_Weighings_howManyOut_4 c x (nI T) = some (.inr r) ∧ fb_D_count_63 m x (nI T) = some (.inr w) ∧ _
    unfold fb_Weighings_howManyOut_4 fb_D_count_63
    simp only [h, h2, if_pos (nI_le (Nat.le_refl T) (show T < 2 ^ 31 by omega))]
    exact ⟨_, _, rfl, rfl, rfl⟩
theorem sx_links {ch : Nat} (h : ch < 4) : fx_D_links (nI ch) m = some (m 85 (340 + 26 * ch)) := by
  unfold fx_D_links
  have e : (340 : Int32) + (26 : Int32) * nI ch = nI (340 + 26 * ch) := kp_ix2 340 26 ch
  rw [e, kp_gd _ (kp_in_nI (by omega) (by omega)), nI_clamp (by omega)]
theorem h_links (hC : ∀ h, h < 4 → m 85 (340 + 26 * h) = c 23 h) : ∃ r, fx_Chains_allLinks c = some r ∧ kv_loop (kv_u2 (fb_D_count_100 m)) ((0 : Int32), (0 : Int32)) = some r := by
  have hs := kp_sim (kv_u2 (fb_Chains_allLinks_4 c)) (kv_u2 (fb_D_count_100 m)) (fun i s t => ∃ x : Int32, s = (x, nI i) ∧ t = (x, nI i)) (fun r w => r = w) 4 ?_ ?_ ((0 : Int32), (0 : Int32)) ((0 : Int32), (0 : Int32)) ⟨0, rfl, rfl⟩
  · obtain ⟨r, w, h3, h4, rfl⟩ := hs
    unfold fx_Chains_allLinks
    rw [h3, h4]
    exact ⟨r, rfl, rfl⟩
  · rintro i s t hi ⟨x, rfl, rfl⟩
    refine Or.inl ?_
    show ∃ s2 t2, fb_Chains_allLinks_4 c x (nI i) = some (.inl s2) ∧ fb_D_count_100 m x (nI i) = some (.inl t2) ∧ _
    unfold fb_Chains_allLinks_4 fb_D_count_100
    have e : ¬ (4 : Int32) ≤ nI i := nI_ge (b := 4) hi (by omega)
    rw [if_neg e, if_neg e, kp_gd _ (kp_in_nI (by omega) (by omega)), nI_clamp (by omega), sx_links hi, kp_b1, hC i hi]
    exact ⟨_, _, rfl, rfl, x + c 23 i, by rw [nI_1], by rw [nI_1]⟩
  · rintro s t ⟨x, rfl, rfl⟩
    exact ⟨x, x, rfl, rfl, rfl⟩
theorem op_count (h : Inv k c m) (p : Int32) : ∃ r, fx_K_count p c = some r ∧ fx_D_count p m = some r := by
  obtain ⟨⟨L, T, U, hN, hG, hL, -, -, hW, hT, ⟨N, hX⟩, hC⟩, -⟩ := h
  unfold fx_K_count fx_D_count
  by_cases q0 : p = 0
  · subst q0; exact ⟨c 1 5, rfl, congrArg some hG.2.2.1⟩
  by_cases q1 : p = 1
  · subst q1; exact ⟨c 2 7, rfl, congrArg some (hN.2.2.2.2.1.trans hN.2.2.2.1.symm)⟩
  by_cases q2 : p = 2
  · subst q2; exact ⟨c 10 7, rfl, congrArg some (hN.2.2.2.2.2.2.1.trans hN.2.2.2.2.2.1.symm)⟩
  by_cases q3 : p = 3
  · subst q3
    obtain ⟨r, e1, e2⟩ := h_outs (c := c) (m := m) hN.2.2.2.2.2.1 hN.2.2.2.2.2.2.1 hN.2.1 hW
    refine ⟨r, ?_, ?_⟩
    · rw [if_neg q0, if_neg q1, if_neg q2, if_pos rfl, e1]; rfl
    · rw [if_neg q0, if_neg q1, if_neg q2, if_pos rfl, e2]; rfl
  by_cases q4 : p = 4
  · subst q4; exact ⟨c 18 2, rfl, congrArg some hX.2.2.2.1⟩
  by_cases q5 : p = 5
  · subst q5
    obtain ⟨r, e1, e2⟩ := h_links (c := c) (m := m) (fun h hh => by obtain ⟨K, -, a1, a2, -⟩ := hC h hh; exact a2.trans a1.symm)
    refine ⟨r, ?_, ?_⟩
    · rw [if_neg q0, if_neg q1, if_neg q2, if_neg q3, if_neg q4, if_pos rfl, e1]; rfl
    · rw [if_neg q0, if_neg q1, if_neg q2, if_neg q3, if_neg q4, if_pos rfl, e2]; rfl
  · exact ⟨-1, by rw [if_neg q0, if_neg q1, if_neg q2, if_neg q3, if_neg q4, if_neg q5], by rw [if_neg q0, if_neg q1, if_neg q2, if_neg q3, if_neg q4, if_neg q5]⟩
end O2
