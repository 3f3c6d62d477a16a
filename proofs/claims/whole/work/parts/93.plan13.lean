/-! ===== plans: the search ===== -/
section PM
variable {L P most : Nat} {Sat : (Nat → Int) → Prop} {c c0 : Nat → Nat → Int32}
/-- what the search leaves as it was -/
def pg_F (c0 c : Nat → Nat → Int32) : Prop := (∀ q, q ≠ 77 → (q < 79 ∨ 83 < q) → c q = c0 q) ∧ ∀ j, j < 9 → c 77 j = c0 77 j
theorem pg_p (hF : pg_F c0 c) : pn_p c = pn_p c0 := pn_p_fr (fun q hq1 hq2 => hF.1 q (by omega) (by omega)) (fun j hj1 => hF.2 j (by omega))
theorem pg_at_fr {c2 : Nat → Nat → Int32} (ha1 : pg_at c0 L P most Sat c) (he1 : c2 77 = c 77) : pg_at c0 L P most Sat c2 ∧ pg_b c2 = pg_b c := by
  unfold pg_at pg_b at *
  rw [he1]
  exact ⟨ha1, rfl⟩
theorem pg_search (hd1 : pn_d c0 L P) (hm1 : c0 77 8 = nI most) (hm2 : most ≤ 4) : ∀ n l i s t c, l ≤ 4 → 5 ≤ n + l → pg_F c0 c → s < 2 ^ i → i ≤ P → pq_c (fun _ => 1) s P = l → pq_c (pg_t c0) s P = t → pg_ok c0 P most Sat s → pn_N c (79 + l) L (fun z => pg_S c0 P Sat s (fun i => -z i)) → pg_at c0 L P most Sat c → ∃ c2, fg_S n 0 (nI i) (nI l) (nI s) (nI t) c = some c2 ∧ pg_F c0 c2 ∧ (∀ q, 79 ≤ q → q ≤ 79 + l → c2 q = c q) ∧ pg_at c0 L P most Sat c2 ∧ pg_b c2 ≤ pg_b c ∧ ∀ u, pg_ok c0 P most Sat u → u % 2 ^ i = s → pg_b c2 ≤ pg_k c0 L P Sat u := by
  have hP : P ≤ 8 := hd1.1
  intro n
  induction n with
  | zero => intro l i s t c hl1 hn1; omega
  | succ n ihn =>
  intro l i s t c hl1 hn1 hF hs1 hi1 hs2 ht1 hok1 hN ha1
  have hp1 : 2 ^ P ≤ 2 ^ 8 := Nat.pow_le_pow_right (by omega) hP
  have s255 : s < 256 := by have := hok1.1; omega
  have tmost : t ≤ most := by rw [← ht1]; exact hok1.2.2.1
  obtain ⟨c1, j1a, j1b, j1c, j1d, j1e, j1f⟩ := pg_judge hP hl1 hok1 hs2 hN ha1
  have F1 : pg_F c0 c1 := ⟨fun q hq1 hq2 => by rw [j1b q hq1]; exact hF.1 q hq1 hq2, fun j hj1 => by rw [j1c j hj1]; exact hF.2 j hj1⟩
  show ∃ c2, fx_Planner_search (fg_S n 0) (nI i) (nI l) (nI s) (nI t) c = some c2 ∧ _
  unfold fx_Planner_search
  rw [j1a, kp_b1]
  by_cases l4 : l < 4
  rotate_left
  · have nl4 : ¬ nI l < (4 : Int32) := nI_nlt (b := 4) (by omega) (by omega)
    rw [if_neg nl4]
    refine ⟨c1, rfl, F1, fun q hq1 hq2 => j1b q (by omega), j1d, j1e, fun u hu1 hu2 => ?_⟩
    by_cases zu : u = s
    · rw [zu]; exact j1f
    · exfalso
      have hsub := pq_sub hu2
      have hex : ∃ y, s.testBit y = false ∧ u.testBit y = true := by
        obtain ⟨y, hy1⟩ := Nat.exists_testBit_ne_of_ne zu
        refine ⟨y, ?_⟩
        cases es1 : s.testBit y with
        | true => rw [hsub y es1, es1] at hy1; exact absurd rfl hy1
        | false =>
          cases eu1 : u.testBit y with
          | true => exact ⟨rfl, rfl⟩
          | false => rw [es1, eu1] at hy1; exact absurd rfl hy1
      obtain ⟨y, hy1, hy2⟩ := hex
      have hyP : y < P := by
        by_cases zy : y < P
        · exact zy
        · have := Nat.testBit_lt_two_pow (Nat.lt_of_lt_of_le hu1.1 (Nat.pow_le_pow_right (n := 2) (by omega) (show P ≤ y by omega)))
          rw [this] at hy2
          exact absurd hy2 (by decide)
      have hyi : ¬ y < i := fun zy => by
        have eb1 : (u % 2 ^ i).testBit y = u.testBit y := by rw [Nat.testBit_mod_two_pow, decide_eq_true zy]; rfl
        rw [hu2, hy1, hy2] at eb1
        exact absurd eb1 (by decide)
      have hsy : s < 2 ^ y := Nat.lt_of_lt_of_le hs1 (Nat.pow_le_pow_right (by omega) (by omega))
      have hmore : pq_c (fun _ => 1) (s + 2 ^ y) P = pq_c (fun _ => 1) s P + 1 := pq_more (f := fun _ => 1) hy1 (by rw [pq_bit hsy, if_pos rfl]) P hyP (fun y2 _ hy4 => by rw [pq_bit hsy, if_neg hy4])
      have hle : pq_c (fun _ => 1) (s + 2 ^ y) P ≤ pq_c (fun _ => 1) u P := pq_le P (fun y2 _ hy4 => by
        rw [pq_bit hsy] at hy4
        by_cases zy : y2 = y
        · rw [zy]; exact hy2
        · rw [if_neg zy] at hy4
          exact hsub y2 hy4)
      have hu4 := hu1.2.1
      omega
  have yl4 : nI l < (4 : Int32) := nI_lt (b := 4) l4 (by omega)
  rw [if_pos yl4]
  have key := kp_inv (kv_u2 (fb_Planner_search_15 (fg_S n 0) (nI l) (nI s) (nI t))) (fun k st => ∃ c3, st = (nI (i + k), c3) ∧ pg_F c0 c3 ∧ (∀ q, 79 ≤ q → q ≤ 79 + l → c3 q = c q) ∧ pg_at c0 L P most Sat c3 ∧ pg_b c3 ≤ pg_b c ∧ ∀ u, pg_ok c0 P most Sat u → u % 2 ^ i = s → (u = s ∨ u % 2 ^ (i + k) ≠ s) → pg_b c3 ≤ pg_k c0 L P Sat u) (fun c3 => pg_F c0 c3 ∧ (∀ q, 79 ≤ q → q ≤ 79 + l → c3 q = c q) ∧ pg_at c0 L P most Sat c3 ∧ pg_b c3 ≤ pg_b c ∧ ∀ u, pg_ok c0 P most Sat u → u % 2 ^ i = s → pg_b c3 ≤ pg_k c0 L P Sat u) (P - i) ?_ ?_ (nI i, c1) ⟨c1, rfl, F1, fun q hq1 hq2 => j1b q (by omega), j1d, j1e, fun u hu1 hu2 hu3 => ?_⟩
  · obtain ⟨c2, hx1, hx2⟩ := key
    exact ⟨c2, by rw [hx1]; rfl, hx2⟩
  · rintro k st hk1 ⟨c3, rfl, F3, r3, a3, b3, v3⟩
    refine Or.inl ?_
    have T1 : kv_u2 (fb_Planner_search_15 (fg_S n 0) (nI l) (nI s) (nI t)) (nI (i + k), c3) = fb_Planner_search_15 (fg_S n 0) (nI l) (nI s) (nI t) (nI (i + k)) c3 := rfl
    rw [T1]
    have hxP : i + k < P := by omega
    have ek1 : i + (k + 1) = (i + k) + 1 := by omega
    generalize hxe : i + k = x at *
    rw [ek1]
    have hsx : s < 2 ^ x := Nat.lt_of_lt_of_le hs1 (Nat.pow_le_pow_right (by omega) (by omega))
    have sx : s.testBit x = false := Nat.testBit_lt_two_pow hsx
    have d3 : pn_d c3 L P := pn_d_fr hd1 (fun q hq1 hq2 => F3.1 q (by omega) (by omega)) (fun j hj1 => F3.2 j (by omega))
    have e5 : c3 77 5 = nI P := d3.2.2.1
    have e8 : c3 77 8 = nI most := by rw [F3.2 8 (by omega)]; exact hm1
    have e87 : c3 87 = c0 87 := F3.1 87 (by omega) (by omega)
    have hs3 : pq_c (fun _ => 1) (s + 2 ^ x) P = l + 1 := by
      rw [pq_more (f := fun _ => 1) sx (by rw [pq_bit hsx, if_pos rfl]) P hxP (fun y _ hy2 => by rw [pq_bit hsx, if_neg hy2]), hs2]
    have ht3 : pq_c (pg_t c0) (s + 2 ^ x) P = t + pg_t c0 x := by
      rw [pq_more (f := pg_t c0) sx (by rw [pq_bit hsx, if_pos rfl]) P hxP (fun y _ hy2 => by rw [pq_bit hsx, if_neg hy2]), ht1]
    -- those that are met here
    have hup : ∀ u, u % 2 ^ (x + 1) = s + 2 ^ x → ∀ y, (s + 2 ^ x).testBit y = true → u.testBit y = true := fun u hu1 => pq_sub hu1
    have ext : ∀ c6, pg_b c6 ≤ pg_b c3 → (∀ u, pg_ok c0 P most Sat u → u % 2 ^ (x + 1) = s + 2 ^ x → pg_b c6 ≤ pg_k c0 L P Sat u) → ∀ u, pg_ok c0 P most Sat u → u % 2 ^ i = s → (u = s ∨ u % 2 ^ (x + 1) ≠ s) → pg_b c6 ≤ pg_k c0 L P Sat u := by
      intro c6 hb6 hc6 u hu1 hu2 hu3
      by_cases zu : u = s ∨ u % 2 ^ x ≠ s
      · exact Int.le_trans hb6 (v3 u hu1 hu2 zu)
      · have zu1 : u % 2 ^ x = s := Classical.byContradiction (fun hw1 => zu (Or.inr hw1))
        have zu2 : u % 2 ^ (x + 1) ≠ s := hu3.resolve_left (fun hw1 => zu (Or.inl hw1))
        exact hc6 u hu1 (pq_mod zu1 zu2)
    have mid : ∀ t2 : Nat, t2 = t + pg_t c0 x → ∃ s2, fj_Planner_search_43 (fg_S n 0) c3 (nI x) (nI l) (nI s) (nI t2) = some (.inl s2) ∧ ∃ c6, s2 = (nI (x + 1), c6) ∧ pg_F c0 c6 ∧ (∀ q, 79 ≤ q → q ≤ 79 + l → c6 q = c q) ∧ pg_at c0 L P most Sat c6 ∧ pg_b c6 ≤ pg_b c ∧ ∀ u, pg_ok c0 P most Sat u → u % 2 ^ i = s → (u = s ∨ u % 2 ^ (x + 1) ≠ s) → pg_b c6 ≤ pg_k c0 L P Sat u := by
      intro t2 et2
      have pgt1 : pg_t c0 x ≤ 1 := by unfold pg_t; split <;> omega
      unfold fj_Planner_search_43
      rw [e8]
      by_cases zt : most < t2
      · rw [if_pos (nI_lt zt (by omega))]
        refine ⟨(nI (x + 1), c3), by unfold fj_Planner_search_83; rw [nI_1], c3, rfl, F3, r3, a3, b3, ext c3 (Int.le_refl _) (fun u hu1 hu2 => ?_)⟩
        exfalso
        have hle := pq_le (f := pg_t c0) P (fun y _ hy2 => hup u hu2 y hy2)
        have hu4 := hu1.2.2.1
        omega
      · rw [if_neg (nI_nlt (show t2 ≤ most by omega) (by omega))]
        have N3 : pn_N c3 (79 + l) L (fun z => pg_S c0 P Sat s (fun i => -z i)) := pn_N_fr hN (fun j => by rw [r3 (79 + l) (by omega) (Nat.le_refl _)]) (by rw [F3.2 6 (by omega), hF.2 6 (by omega)])
        obtain ⟨b4, c4, k1a, k2a, k3a, k4a⟩ := pn_add l4 hxP d3 N3
        rw [pg_p F3] at k3a k4a
        have ec4 : c4 77 = c3 77 := k2a 77 (by omega)
        obtain ⟨a4, b4e⟩ := pg_at_fr a3 ec4
        have F4 : pg_F c0 c4 := ⟨fun q hq1 hq2 => by rw [k2a q (by omega)]; exact F3.1 q hq1 hq2, fun j hj1 => by rw [ec4]; exact F3.2 j hj1⟩
        have r4 : ∀ q, 79 ≤ q → q ≤ 79 + l → c4 q = c q := fun q hq1 hq2 => by rw [k2a q (by omega)]; exact r3 q hq1 hq2
        rw [k1a, kp_b2]
        cases b4 with
        | false =>
          rw [if_neg (by decide)]
          refine ⟨(nI (x + 1), c4), by unfold fj_Planner_search_83; rw [nI_1], c4, rfl, F4, r4, a4, by rw [b4e]; exact b3, ext c4 (by rw [b4e]; exact Int.le_refl _) (fun u hu1 hu2 => ?_)⟩
          exfalso
          obtain ⟨z, hz1⟩ := hu1.2.2.2
          refine k3a rfl ⟨fun i => -z i, ?_⟩
          rw [pn_neg]
          exact (pg_S1 hsx hxP z).mp (pg_S_sub (hup u hu2) hz1)
        | true =>
          rw [if_pos rfl]
          have N4a : pn_N c4 (79 + (l + 1)) L (fun z => pg_S c0 P Sat (s + 2 ^ x) (fun i => -z i)) := by
            have hq9 := k4a rfl
            rw [show 80 + l = 79 + (l + 1) by omega] at hq9
            exact pn_N_congr hq9 (fun z => (pg_S1 hsx hxP (fun i => -z i)).symm)
          have hex : ∃ z, pg_S c0 P Sat (s + 2 ^ x) z := by
            obtain ⟨⟨z, hz1⟩, -⟩ := pn_says N4a
            exact ⟨_, hz1⟩
          have hlt1 : s + 2 ^ x < 2 ^ (x + 1) := by
            have hp3 : 2 ^ (x + 1) = 2 ^ x * 2 := Nat.pow_succ 2 x
            omega
          have hok2 : pg_ok c0 P most Sat (s + 2 ^ x) := ⟨Nat.lt_of_lt_of_le hlt1 (Nat.pow_le_pow_right (by omega) (by omega)), by omega, by omega, hex⟩
          obtain ⟨c6, w1a, w2a, w3a, w4a, w5a, w6a⟩ := ihn (l + 1) (x + 1) (s + 2 ^ x) t2 c4 (by omega) (by omega) F4 hlt1 (by omega) hs3 (by rw [ht3, et2]) hok2 N4a a4
          rw [nI_1, nI_1, pq_or x (by omega) s hsx, w1a, kp_b1]
          exact ⟨(nI (x + 1), c6), by unfold fj_Planner_search_83; rw [nI_1], c6, rfl, w2a, fun q hq1 hq2 => by rw [w3a q hq1 (by omega)]; exact r4 q hq1 hq2, w4a, by omega, ext c6 (by omega) w6a⟩
    unfold fb_Planner_search_15
    rw [e5, if_neg (nI_ge hxP (by omega)), kp_gd _ (kp_in_nI (show x < 8 by omega) (by omega)), nI_clamp (show x < 2 ^ 31 by omega), e87]
    by_cases z87 : c0 87 x = 0
    · rw [if_pos z87]
      exact mid t (by unfold pg_t; rw [if_pos z87]; rfl)
    · rw [if_neg z87, nI_1]
      exact mid (t + 1) (by unfold pg_t; rw [if_neg z87])
  · rintro st ⟨c3, rfl, F3, r3, a3, b3, v3⟩
    have ePi : i + (P - i) = P := by omega
    rw [ePi] at v3 ⊢
    have e5 : c3 77 5 = nI P := by rw [F3.2 5 (by omega)]; exact hd1.2.2.1
    refine ⟨c3, ?_, F3, r3, a3, b3, fun u hu1 hu2 => v3 u hu1 hu2 ?_⟩
    · show fb_Planner_search_15 (fg_S n 0) (nI l) (nI s) (nI t) (nI P) c3 = _
      unfold fb_Planner_search_15
      rw [e5, if_pos (nI_le (Nat.le_refl _) (by omega))]
    · rw [Nat.mod_eq_of_lt hu1.1]
      exact Classical.em (u = s)
  · have hus : u = s := hu3.elim id (fun hw1 => absurd hu2 hw1)
    rw [hus]
    exact j1f
end PM
