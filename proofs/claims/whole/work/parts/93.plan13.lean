/-! ===== plans: the choices, one after the other ===== -/
section PM
variable {L P most : Nat} {Sat : (Nat → Int) → Prop} {c c0 : Nat → Nat → Int32}
theorem pg_bit {s x : Nat} (hs1 : s < 1024) (hx1 : x < 11) : fx_Planner_has (nI s) (nI x) = some (s.testBit x) := by
  have hbit : ((nI s >>> (nI x &&& 31)) &&& (1 : Int32) = 1 ↔ s.testBit x = true) := by
    rw [st_bit hs1 hx1, Nat.testBit_eq_decide_div_mod_eq]
    have hd1 : s / 2 ^ x % 2 = 0 ∨ s / 2 ^ x % 2 = 1 := by omega
    rcases hd1 with hd1 | hd1 <;> rw [hd1] <;> decide
  unfold fx_Planner_has
  cases eb1 : s.testBit x with
  | true => rw [if_pos (hbit.mpr eb1)]
  | false => rw [if_neg (fun hw1 => by rw [hbit.mp hw1] at eb1; exact absurd eb1 (by decide))]
theorem pg_shl : ∀ P, P < 9 → ((1 : Int32) <<< (nI P &&& 31)) = nI (2 ^ P) := by decide +kernel
/-- what the choosing leaves as it was -/
def pg_F (c0 c : Nat → Nat → Int32) : Prop := (∀ q, q ≠ 77 → q ≠ 79 → c q = c0 q) ∧ ∀ j, j < 10 → c 77 j = c0 77 j
theorem pg_p (hF : pg_F c0 c) : pn_p c = pn_p c0 := pn_p_fr (fun q hq1 hq2 => hF.1 q (by omega) (by omega)) (fun j hj1 => hF.2 j (by omega))
theorem pg_d (hd1 : pn_d c0 L P) (hF : pg_F c0 c) : pn_d c L P := pn_d_fr hd1 (fun q hq1 hq2 => hF.1 q (by omega) (by omega)) (fun j hj1 => hF.2 j (by omega))
theorem pg_at_fr {n : Nat} {c2 : Nat → Nat → Int32} (ha1 : pg_at c0 L P most Sat n c) (he1 : c2 77 = c 77) : pg_at c0 L P most Sat n c2 ∧ pg_b c2 = pg_b c := by
  unfold pg_at pg_b at *
  rw [he1]
  exact ⟨ha1, rfl⟩
theorem pg_tle {s : Nat} : ∀ n, pq_c (pg_t c0) s n ≤ n
  | 0 => Nat.le_refl _
  | n + 1 => by
    have ihz := pg_tle (s := s) n
    have ht1 : pg_t c0 n ≤ 1 := by unfold pg_t; split <;> omega
    cases es1 : s.testBit n with
    | true => rw [pq_s1 es1]; omega
    | false => rw [pq_s0 es1]; omega
/-- may a set be told -/
theorem pg_may (hd1 : pn_d c0 L P) (hm1 : c0 77 9 = nI most) (hm2 : most ≤ 4) (hF : pg_F c0 c) {s : Nat} (hs1 : s < 2 ^ P) : fx_Planner_isAllowed (nI s) c = some (decide (pq_c (fun _ => 1) s P ≤ 4 ∧ pq_c (pg_t c0) s P ≤ most)) := by
  have hP : P ≤ 8 := hd1.1
  have hp1 : 2 ^ P ≤ 2 ^ 8 := Nat.pow_le_pow_right (by omega) hP
  have e6 : c 77 6 = nI P := by rw [hF.2 6 (by omega)]; exact hd1.2.2.1
  have e9 : c 77 9 = nI most := by rw [hF.2 9 (by omega)]; exact hm1
  have e83 : c 83 = c0 83 := hF.1 83 (by omega) (by omega)
  have key := kp_inv (kv_u2 (fb_Planner_isAllowed_4 c (nI s))) (fun x st => st = (nI (pq_c (pg_t c0) s x), nI x)) (fun r => r = nI (pq_c (pg_t c0) s P)) P ?_ ?_ ((0 : Int32), (0 : Int32)) rfl
  · obtain ⟨r, hx1, rfl⟩ := key
    have hb1 := pg_tle (c0 := c0) (s := s) P
    have hb2 := pq_b (s := s) P
    have eK : ∀ A : Int32 → Option Bool, (some (nI (pq_c (pg_t c0) s P))).bind (kv_u1 A) = A (nI (pq_c (pg_t c0) s P)) := fun _ => rfl
    unfold fx_Planner_isAllowed
    rw [hx1, eK, e9, st_cntK s (by omega), kp_b1, pq_pop2 hP hs1]
    by_cases zt : most < pq_c (pg_t c0) s P
    · rw [if_pos (nI_lt zt (by omega)), decide_eq_false (by omega)]
    · rw [if_neg (nI_nlt (by omega) (by omega))]
      by_cases zc : 4 < pq_c (fun _ => 1) s P
      · have z4a : (4 : Int32) < nI (pq_c (fun _ => 1) s P) := nI_lt (a := 4) zc (by omega)
        rw [if_pos z4a, decide_eq_false (by omega)]
      · have z4b : ¬ (4 : Int32) < nI (pq_c (fun _ => 1) s P) := nI_nlt (a := 4) (by omega) (by omega)
        rw [if_neg z4b, decide_eq_true (by omega)]
  · rintro x st hx1 rfl
    refine Or.inl ⟨(nI (pq_c (pg_t c0) s (x + 1)), nI (x + 1)), ?_, rfl⟩
    have T1 : kv_u2 (fb_Planner_isAllowed_4 c (nI s)) (nI (pq_c (pg_t c0) s x), nI x) = fb_Planner_isAllowed_4 c (nI s) (nI (pq_c (pg_t c0) s x)) (nI x) := rfl
    rw [T1]
    unfold fb_Planner_isAllowed_4
    rw [e6, if_neg (nI_ge hx1 (by omega)), pg_bit (by omega) (by omega), kp_b1]
    cases es1 : s.testBit x with
    | true =>
      rw [if_pos rfl, kp_gd _ (kp_in_nI (show x < 8 by omega) (by omega)), nI_clamp (show x < 2 ^ 31 by omega), e83, pq_s1 es1]
      unfold fj_Planner_isAllowed_33
      have et1 : pg_t c0 x = if c0 83 x = 0 then 0 else 1 := rfl
      by_cases zt : c0 83 x = 0
      · rw [if_pos zt, et1, if_pos zt, nI_1]
        rfl
      · rw [if_neg zt, et1, if_neg zt, nI_1, nI_1]
    | false =>
      rw [if_neg (by decide), pq_s0 es1]
      unfold fj_Planner_isAllowed_33
      rw [nI_1]
  · rintro st rfl
    refine ⟨_, ?_, rfl⟩
    show fb_Planner_isAllowed_4 c (nI s) (nI (pq_c (pg_t c0) s P)) (nI P) = _
    unfold fb_Planner_isAllowed_4
    rw [e6, if_pos (nI_le (Nat.le_refl _) (by omega))]
/-- the pairs of a set, one after the other, on top of the year's net -/
theorem pg_tries (hd1 : pn_d c0 L P) (hF : pg_F c0 c) (hN : pn_N c 78 L (fun z => Sat (fun i => -z i))) {s : Nat} (hs1 : s < 2 ^ P) : ∃ b c2, fx_Planner_tries (nI s) c = some (b, c2) ∧ (∀ q, q ≠ 79 → c2 q = c q) ∧ (b = false → ¬ ∃ z, pg_S c0 P Sat s z) ∧ (b = true → pn_N c2 79 L (fun z => pg_S c0 P Sat s (fun i => -z i))) := by
  have hP : P ≤ 8 := hd1.1
  have hp1 : 2 ^ P ≤ 2 ^ 8 := Nat.pow_le_pow_right (by omega) hP
  unfold fx_Planner_tries
  rw [kp_let]
  generalize hc4 : va_up c 79 (va_cpy (c 78) (c 79) (0 : Int32).toNatClampNeg (0 : Int32).toNatClampNeg (100 : Int32).toNatClampNeg) = c4
  have f4 : ∀ q, q ≠ 79 → c4 q = c q := fun q hq => by rw [← hc4]; exact if_neg hq
  have e4 : ∀ j, j < 100 → c4 79 j = c 78 j := fun j hj => by
    have ec : (100 : Int32).toNatClampNeg = 100 := by decide
    rw [← hc4, kp_c0, ec, kp_cp, if_pos ⟨rfl, hj⟩]
  have N4 : pn_N c4 79 L (fun z => Sat (fun i => -z i)) := pn_N_row hN e4 (by rw [f4 77 (by omega)])
  have exw : ∀ (x : Nat) (z : Nat → Int), pg_S c0 (x + 1) Sat s z ↔ pg_S c0 x Sat s z ∧ (s.testBit x = true → pn_p c0 x z) := fun x z => by
    constructor
    · rintro ⟨h1, h2⟩
      exact ⟨⟨h1, fun y hy1 => h2 y (by omega)⟩, h2 x (by omega)⟩
    · rintro ⟨⟨h1, h2⟩, h3⟩
      refine ⟨h1, fun y hy1 => ?_⟩
      by_cases zy : y = x
      · rw [zy]; exact h3
      · exact h2 y (by omega)
  have key := kp_inv (kv_u2 (fb_Planner_tries_17 (nI s))) (fun x st => ∃ c3, st = (nI x, c3) ∧ (∀ q, q ≠ 79 → c3 q = c q) ∧ pn_N c3 79 L (fun z => pg_S c0 x Sat s (fun i => -z i))) (fun z => Sum.elim (fun c2 => (∀ q, q ≠ 79 → c2 q = c q) ∧ ¬ ∃ z, pg_S c0 P Sat s z) (fun c2 => (∀ q, q ≠ 79 → c2 q = c q) ∧ pn_N c2 79 L (fun z => pg_S c0 P Sat s (fun i => -z i))) z) P ?_ ?_ ((0 : Int32), c4) ⟨c4, rfl, f4, pn_N_congr N4 (fun z => ⟨fun h1 => ⟨h1, fun y hy1 => absurd hy1 (Nat.not_lt_zero _)⟩, fun h1 => h1.1⟩)⟩
  · obtain ⟨w, g1, g2⟩ := key
    rw [g1]
    cases w with
    | inl c2 => exact ⟨false, c2, rfl, g2.1, fun _ => g2.2, fun w => absurd w (by decide)⟩
    | inr c2 => exact ⟨true, c2, rfl, g2.1, fun w => absurd w (by decide), fun _ => g2.2⟩
  · rintro x st hx1 ⟨c3, rfl, i1, i2⟩
    have F3 : pg_F c0 c3 := ⟨fun q hq1 hq2 => by rw [i1 q hq2]; exact hF.1 q hq1 hq2, fun j hj1 => by rw [i1 77 (by omega)]; exact hF.2 j hj1⟩
    have e6 : c3 77 6 = nI P := by rw [F3.2 6 (by omega)]; exact hd1.2.2.1
    have T1 : kv_u2 (fb_Planner_tries_17 (nI s)) (nI x, c3) = fb_Planner_tries_17 (nI s) (nI x) c3 := rfl
    rw [T1]
    unfold fb_Planner_tries_17
    rw [e6, if_neg (nI_ge hx1 (by omega)), pg_bit (by omega) (by omega), kp_b1]
    cases es1 : s.testBit x with
    | false =>
      rw [if_neg (by decide)]
      refine Or.inl ⟨(nI (x + 1), c3), by unfold fj_Planner_tries_44; rw [nI_1], c3, rfl, i1, pn_N_congr i2 (fun z => ?_)⟩
      rw [exw]
      exact ⟨fun h1 => ⟨h1, fun h2 => by rw [es1] at h2; exact absurd h2 (by decide)⟩, fun h1 => h1.1⟩
    | true =>
      rw [if_pos rfl]
      obtain ⟨b, c6, g1, g2, g3, g4⟩ := pn_one hx1 (pg_d hd1 F3) i2
      rw [pg_p F3] at g3 g4
      rw [g1, kp_b2]
      cases b with
      | true =>
        rw [if_pos rfl]
        refine Or.inl ⟨(nI (x + 1), c6), by unfold fj_Planner_tries_44; rw [nI_1], c6, rfl, fun q hq => by rw [g2 q hq, i1 q hq], pn_N_congr (g4 rfl) (fun z => ?_)⟩
        rw [exw]
        exact ⟨fun h1 => ⟨h1.1, fun _ => h1.2⟩, fun h1 => ⟨h1.1, h1.2 es1⟩⟩
      | false =>
        rw [if_neg (by decide)]
        refine Or.inr ⟨.inl c6, rfl, fun q hq => by rw [g2 q hq, i1 q hq], ?_⟩
        rintro ⟨z, h1, h2⟩
        refine g3 rfl ⟨fun i => -z i, ?_⟩
        rw [pn_neg]
        exact ⟨⟨h1, fun y hy1 => h2 y (by omega)⟩, h2 x hx1 es1⟩
  · rintro st ⟨c3, rfl, i1, i2⟩
    have e6 : c3 77 6 = nI P := by rw [i1 77 (by omega), hF.2 6 (by omega)]; exact hd1.2.2.1
    refine ⟨.inr c3, ?_, i1, i2⟩
    show fb_Planner_tries_17 (nI s) (nI P) c3 = _
    unfold fb_Planner_tries_17
    rw [e6, if_pos (nI_le (Nat.le_refl _) (by omega))]
theorem pg_choose (hd1 : pn_d c0 L P) (hm1 : c0 77 9 = nI most) (hm2 : most ≤ 4) (hN : pn_N c0 78 L (fun z => Sat (fun i => -z i))) : ∃ c2, fx_Planner_choose c0 = some c2 ∧ pg_F c0 c2 ∧ pg_at c0 L P most Sat (2 ^ P) c2 ∧ ∀ u, pg_ok c0 P most Sat u → pg_b c2 ≤ pg_k c0 L P Sat u := by
  have hP : P ≤ 8 := hd1.1
  have hp1 : 2 ^ P ≤ 2 ^ 8 := Nat.pow_le_pow_right (by omega) hP
  unfold fx_Planner_choose
  rw [kp_let, kp_let, kp_let]
  generalize hc3 : kv_st (kv_st (kv_st c0 77 10 (2147483647 : Int32)) 77 11 (0 : Int32)) 77 12 (0 : Int32) = c3
  have e3 : ∀ j, c3 77 j = if j = 12 then 0 else if j = 11 then 0 else if j = 10 then 2147483647 else c0 77 j := fun j => by
    rw [← hc3, kp_st, kp_st, kp_st]
    simp only [true_and]
  have F3 : pg_F c0 c3 := ⟨fun q hq1 hq2 => by rw [← hc3, kp_st_ne hq1, kp_st_ne hq1, kp_st_ne hq1], fun j hj1 => by rw [e3, if_neg (by omega), if_neg (by omega), if_neg (by omega)]⟩
  have key := kp_inv (kv_u2 fb_Planner_choose_18) (fun s st => ∃ c, st = (nI s, c) ∧ pg_F c0 c ∧ pg_at c0 L P most Sat s c ∧ ∀ u, u < s → pg_ok c0 P most Sat u → pg_b c ≤ pg_k c0 L P Sat u) (fun c => pg_F c0 c ∧ pg_at c0 L P most Sat (2 ^ P) c ∧ ∀ u, pg_ok c0 P most Sat u → pg_b c ≤ pg_k c0 L P Sat u) (2 ^ P) ?_ ?_ ((0 : Int32), c3) ⟨c3, rfl, F3, Or.inl ⟨by rw [e3]; rfl, by rw [e3]; rfl, by rw [e3]; rfl⟩, fun u hu1 => absurd hu1 (Nat.not_lt_zero _)⟩
  · obtain ⟨c2, g1, g2⟩ := key
    exact ⟨c2, by rw [g1]; rfl, g2⟩
  · rintro s st hs1 ⟨c, rfl, hF, ha1, hb1⟩
    refine Or.inl ?_
    have e6 : c 77 6 = nI P := by rw [hF.2 6 (by omega)]; exact hd1.2.2.1
    have T1 : kv_u2 fb_Planner_choose_18 (nI s, c) = fb_Planner_choose_18 (nI s) c := rfl
    rw [T1]
    unfold fb_Planner_choose_18
    rw [e6, pg_shl P (by omega), if_neg (nI_ge hs1 (by omega)), pg_may hd1 hm1 hm2 hF hs1, kp_b1]
    -- passed over
    have pass : ∀ c4, pg_F c0 c4 → c4 77 = c 77 → ¬ pg_ok c0 P most Sat s → ∃ s2, fj_Planner_choose_49 (nI s) c4 = some (.inl s2) ∧ ∃ c5, s2 = (nI (s + 1), c5) ∧ pg_F c0 c5 ∧ pg_at c0 L P most Sat (s + 1) c5 ∧ ∀ u, u < s + 1 → pg_ok c0 P most Sat u → pg_b c5 ≤ pg_k c0 L P Sat u := by
      intro c4 hF4 e77 hno
      obtain ⟨a4, b4⟩ := pg_at_fr ha1 e77
      refine ⟨(nI (s + 1), c4), by unfold fj_Planner_choose_49; rw [nI_1], c4, rfl, hF4, pg_at_more a4, fun u hu1 hu2 => ?_⟩
      by_cases zu : u = s
      · rw [zu] at hu2; exact absurd hu2 hno
      · rw [b4]; exact hb1 u (by omega) hu2
    by_cases zm : pq_c (fun _ => 1) s P ≤ 4 ∧ pq_c (pg_t c0) s P ≤ most
    rotate_left
    · rw [decide_eq_false zm, if_neg (by decide)]
      exact pass c hF rfl (fun hw1 => zm ⟨hw1.2.1, hw1.2.2.1⟩)
    rw [decide_eq_true zm, if_pos rfl]
    have N1 : pn_N c 78 L (fun z => Sat (fun i => -z i)) := pn_N_fr hN (fun j => by rw [hF.1 78 (by omega) (by omega)]) (hF.2 7 (by omega))
    obtain ⟨b, c4, g1, g2, g3, g4⟩ := pg_tries hd1 hF N1 hs1
    have F4 : pg_F c0 c4 := ⟨fun q hq1 hq2 => by rw [g2 q hq2]; exact hF.1 q hq1 hq2, fun j hj1 => by rw [g2 77 (by omega)]; exact hF.2 j hj1⟩
    have e77 : c4 77 = c 77 := g2 77 (by omega)
    rw [g1, kp_b2]
    cases b with
    | false =>
      rw [if_neg (by decide)]
      exact pass c4 F4 e77 (fun hw1 => g3 rfl hw1.2.2.2)
    | true =>
      rw [if_pos rfl]
      have N4 := g4 rfl
      have hok : pg_ok c0 P most Sat s := by
        obtain ⟨⟨z, hz1⟩, -⟩ := pn_says N4
        exact ⟨hs1, zm.1, zm.2, _, hz1⟩
      obtain ⟨a4, b4⟩ := pg_at_fr ha1 e77
      obtain ⟨c5, j1, j2, j3, j4, j5, j6⟩ := pg_judge hP hok N4 a4
      rw [j1, kp_b1]
      refine ⟨(nI (s + 1), c5), by unfold fj_Planner_choose_49; rw [nI_1], c5, rfl, ⟨fun q hq1 hq2 => by rw [j2 q hq1]; exact F4.1 q hq1 hq2, fun j hj1 => by rw [j3 j hj1]; exact F4.2 j hj1⟩, j4, fun u hu1 hu2 => ?_⟩
      by_cases zu : u = s
      · rw [zu]; exact j6
      · have := hb1 u (by omega) hu2
        omega
  · rintro st ⟨c, rfl, hF, ha1, hb1⟩
    have e6 : c 77 6 = nI P := by rw [hF.2 6 (by omega)]; exact hd1.2.2.1
    refine ⟨c, ?_, hF, ha1, fun u hu1 => hb1 u hu1.1 hu1⟩
    show fb_Planner_choose_18 (nI (2 ^ P)) c = _
    unfold fb_Planner_choose_18
    rw [e6, pg_shl P (by omega), if_pos (nI_le (Nat.le_refl _) (by omega))]
end PM
