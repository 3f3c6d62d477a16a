/-! ===== plans: all sets, in the reference ===== -/
section PO
variable {L P T d most : Nat} {c c0 m : Nat → Nat → Int32} {p2 y : Int32} {f : Nat → Int64}
theorem pr_st2 (m : Nat → Nat → Int32) (v w : Int32) : kv_st (kv_st m 84 13 v) 84 13 w = kv_st m 84 13 w := by
  funext q j
  rw [kp_st, kp_st, kp_st]
  by_cases za : q = 84 ∧ j = 13
  · rw [if_pos za, if_pos za]
  · rw [if_neg za, if_neg za, if_neg za]
def pr_R (c c0 m : Nat → Nat → Int32) (L P T most : Nat) (y : Int32) (s : Nat) (st : Int32 × Int64 × Int32 × (Nat → Nat → Int32) × (Nat → Int64)) : Prop := ∃ x13 x14 v f4, st = (x13, x14, nI s, kv_st m 84 13 v, f4) ∧ ((x13 = -4 ∧ ∀ u, u < s → ¬ pg_ok c0 P most (yr_S c y 0 T) u) ∨ ∃ u0, x13 = nI u0 ∧ u0 < s ∧ pg_ok c0 P most (yr_S c y 0 T) u0 ∧ x14.toInt = pg_wid L (pg_S c0 P (yr_S c y 0 T) u0) ∧ ∀ u, u < s → pg_ok c0 P most (yr_S c y 0 T) u → pg_k c0 L P (yr_S c y 0 T) u0 ≤ pg_k c0 L P (yr_S c y 0 T) u)
theorem pr_all (hH1 : pr_H c c0 m d L P T y p2) (hm1 : most ≤ 4) (x14 : Int64) (v0 : Int32) : ∃ x13 x15 v f4, kv_loop (kv_u5 (fb_D_plan_137 (nI d) (nI most) p2)) ((-4 : Int32), x14, (0 : Int32), kv_st m 84 13 v0, f) = some (x13, x15, kv_st m 84 13 v, f4) ∧ ((x13 = -4 ∧ ∀ u, ¬ pg_ok c0 P most (yr_S c y 0 T) u) ∨ ∃ u0, x13 = nI u0 ∧ pg_ok c0 P most (yr_S c y 0 T) u0 ∧ x15.toInt = pg_wid L (pg_S c0 P (yr_S c y 0 T) u0) ∧ ∀ u, pg_ok c0 P most (yr_S c y 0 T) u → pg_k c0 L P (yr_S c y 0 T) u0 ≤ pg_k c0 L P (yr_S c y 0 T) u) := by
  obtain ⟨ha1, hb1, hc1, hd1, hr1, -⟩ := id hH1
  have hp1 : 2 ^ P ≤ 2 ^ 8 := Nat.pow_le_pow_right (by omega) hc1
  have head : ∀ v : Int32, (1 : Int32) <<< ((kv_st m 84 13 v) 89 (nI d).toNatClampNeg &&& 31) = nI (2 ^ P) := fun v => by
    rw [kp_st_ne (show (89 : Nat) ≠ 84 by omega), nI_clamp (show d < 2 ^ 31 by omega), hr1.2.2.2.1, st_shl P (by omega)]
  have key := kp_inv (kv_u5 (fb_D_plan_137 (nI d) (nI most) p2)) (pr_R c c0 m L P T most y) (fun r => ∃ x13 x15 v f4, r = (x13, x15, kv_st m 84 13 v, f4) ∧ ((x13 = -4 ∧ ∀ u, ¬ pg_ok c0 P most (yr_S c y 0 T) u) ∨ ∃ u0, x13 = nI u0 ∧ pg_ok c0 P most (yr_S c y 0 T) u0 ∧ x15.toInt = pg_wid L (pg_S c0 P (yr_S c y 0 T) u0) ∧ ∀ u, pg_ok c0 P most (yr_S c y 0 T) u → pg_k c0 L P (yr_S c y 0 T) u0 ≤ pg_k c0 L P (yr_S c y 0 T) u)) (2 ^ P) ?_ ?_ ((-4 : Int32), x14, (0 : Int32), kv_st m 84 13 v0, f) ⟨-4, x14, v0, f, rfl, Or.inl ⟨rfl, fun u hu1 => absurd hu1 (Nat.not_lt_zero _)⟩⟩
  · obtain ⟨r, hx1, x13, x15, v, f4, rfl, hx2⟩ := key
    exact ⟨x13, x15, v, f4, hx1, hx2⟩
  · rintro s st hs1 ⟨x13, x14a, v, f4, rfl, hbest⟩
    refine Or.inl ?_
    have T1 : kv_u5 (fb_D_plan_137 (nI d) (nI most) p2) (x13, x14a, nI s, kv_st m 84 13 v, f4) = fb_D_plan_137 (nI d) (nI most) p2 x13 x14a (nI s) (kv_st m 84 13 v) f4 := rfl
    rw [T1]
    have hcnt : fx_D_bits (nI s) = some (nI (pq_c (fun _ => 1) s P)) := by rw [st_cntD (show s < 1024 by omega), pq_pop2 hc1 hs1]
    have hcb : pq_c (fun _ => 1) s P ≤ P := pq_b P
    have H2 : pr_H c c0 (kv_st m 84 13 v) d L P T y p2 := pr_H_fr hH1 (fun q hq1 => kp_st_ne hq1)
    -- the set isn't taken
    have stay : ∀ (m5 : Nat → Nat → Int32) (f5 : Nat → Int64), (∃ v5, m5 = kv_st m 84 13 v5) → (pg_ok c0 P most (yr_S c y 0 T) s → ∃ u0, x13 = nI u0 ∧ u0 < s ∧ pg_ok c0 P most (yr_S c y 0 T) u0 ∧ x14a.toInt = pg_wid L (pg_S c0 P (yr_S c y 0 T) u0) ∧ (∀ u, u < s → pg_ok c0 P most (yr_S c y 0 T) u → pg_k c0 L P (yr_S c y 0 T) u0 ≤ pg_k c0 L P (yr_S c y 0 T) u) ∧ pg_k c0 L P (yr_S c y 0 T) u0 ≤ pg_k c0 L P (yr_S c y 0 T) s) → ∃ s2, fj_D_plan_235 (nI s) x13 x14a m5 f5 = some (.inl s2) ∧ pr_R c c0 m L P T most y (s + 1) s2 := by
      rintro m5 f5 ⟨v5, rfl⟩ hkeep
      refine ⟨(x13, x14a, nI (s + 1), kv_st m 84 13 v5, f5), by unfold fj_D_plan_235; rw [nI_1], x13, x14a, v5, f5, rfl, ?_⟩
      by_cases zo : pg_ok c0 P most (yr_S c y 0 T) s
      · obtain ⟨u0, w1a, w2a, w3a, w4a, w5a, w6a⟩ := hkeep zo
        refine Or.inr ⟨u0, w1a, by omega, w3a, w4a, fun u hu1 hu2 => ?_⟩
        by_cases zu : u = s
        · rw [zu]; exact w6a
        · exact w5a u (by omega) hu2
      · rcases hbest with ⟨g1a, g2a⟩ | ⟨u0, g1a, g2a, g3a, g4a, g5a⟩
        · refine Or.inl ⟨g1a, fun u hu1 => ?_⟩
          by_cases zu : u = s
          · rw [zu]; exact zo
          · exact g2a u (by omega)
        · refine Or.inr ⟨u0, g1a, by omega, g3a, g4a, fun u hu1 hu2 => ?_⟩
          by_cases zu : u = s
          · rw [zu] at hu2; exact absurd hu2 zo
          · exact g5a u (by omega) hu2
    unfold fb_D_plan_137
    rw [head v, if_neg (nI_ge hs1 (by omega)), hcnt, kp_b1]
    by_cases z4 : 4 < pq_c (fun _ => 1) s P
    · have z4a : (4 : Int32) < nI (pq_c (fun _ => 1) s P) := nI_lt (a := 4) z4 (by omega)
      rw [if_pos z4a]
      exact stay _ _ ⟨v, rfl⟩ (fun hw1 => absurd hw1.2.1 (by omega))
    have z4b : ¬ (4 : Int32) < nI (pq_c (fun _ => 1) s P) := nI_nlt (a := 4) (by omega) (by omega)
    rw [if_neg z4b, pr_primes H2 hs1, kp_b1]
    have hpt : pq_c (pg_t c0) s P ≤ pq_c (fun _ => 1) s P := by
      have hall : ∀ n, pq_c (pg_t c0) s n ≤ pq_c (fun _ => 1) s n := by
        intro n
        induction n with
        | zero => exact Nat.le_refl _
        | succ n ihn =>
          have ht1 : pg_t c0 n ≤ 1 := by unfold pg_t; split <;> omega
          cases es1 : s.testBit n with
          | true => rw [pq_s1 es1, pq_s1 es1]; omega
          | false => rw [pq_s0 es1, pq_s0 es1]; exact ihn
      exact hall P
    by_cases zm : pq_c (pg_t c0) s P ≤ most
    rotate_left
    · rw [if_neg (nI_ge (show most < pq_c (pg_t c0) s P by omega) (by omega))]
      exact stay _ _ ⟨v, rfl⟩ (fun hw1 => absurd hw1.2.2.1 zm)
    obtain ⟨vs, fs, n1a, n2a, n3a⟩ := pr_spread (f := f4) H2 hs1
    rw [if_pos (nI_le zm (by omega)), n1a, kp_b3, pr_st2]
    by_cases zf : ∃ z, pg_S c0 P (yr_S c y 0 T) s z
    rotate_left
    · have e1a : vs < (0 : Int64) := by rw [n3a zf]; decide
      rw [if_pos e1a]
      exact stay _ _ ⟨_, rfl⟩ (fun hw1 => absurd hw1.2.2.2 zf)
    obtain ⟨k1a, k2a, k3a⟩ := n2a zf
    have hok : pg_ok c0 P most (yr_S c y 0 T) s := ⟨hs1, by omega, zm, zf⟩
    have e1a : ¬ vs < (0 : Int64) := by rw [Int64.lt_iff_toInt_lt, kl_zz]; omega
    rw [if_neg e1a]
    -- it is taken
    have take : (∀ u, u < s → pg_ok c0 P most (yr_S c y 0 T) u → pg_k c0 L P (yr_S c y 0 T) s ≤ pg_k c0 L P (yr_S c y 0 T) u) → ∃ s2, fj_D_plan_227 (nI s) vs (kv_st m 84 13 (nI L)) fs = some (.inl s2) ∧ pr_R c c0 m L P T most y (s + 1) s2 := by
      intro hbet
      refine ⟨(nI s, vs, nI (s + 1), kv_st m 84 13 (nI L), fs), by unfold fj_D_plan_227 fj_D_plan_235; rw [nI_1], nI s, vs, nI L, fs, rfl, Or.inr ⟨s, rfl, by omega, hok, k1a, fun u hu1 hu2 => ?_⟩⟩
      by_cases zu : u = s
      · rw [zu]; exact Int.le_refl _
      · exact hbet u (by omega) hu2
    rcases hbest with ⟨g1a, g2a⟩ | ⟨u0, g1a, g2a, g3a, g4a, g5a⟩
    · have e4 : x13 < 0 := by rw [g1a]; decide
      rw [if_pos e4]
      exact take (fun u hu1 hu2 => absurd hu2 (g2a u hu1))
    have e4 : ¬ x13 < 0 := by rw [g1a, kp_lt, ki_0, nI_toInt (by omega)]; omega
    rw [if_neg e4]
    have hu4 := g3a.2.1
    have eks : pg_k c0 L P (yr_S c y 0 T) s = vs.toInt * 1048576 + ((pq_c (fun _ => 1) s P : Nat) : Int) * 1024 + (s : Int) := by unfold pg_k; rw [k1a]
    have eku : pg_k c0 L P (yr_S c y 0 T) u0 = x14a.toInt * 1048576 + ((pq_c (fun _ => 1) u0 P : Nat) : Int) * 1024 + (u0 : Int) := by unfold pg_k; rw [g4a]
    by_cases zl : x14a < vs
    · rw [if_pos zl]
      rw [Int64.lt_iff_toInt_lt] at zl
      exact stay _ _ ⟨_, rfl⟩ (fun _ => ⟨u0, g1a, g2a, g3a, g4a, g5a, by omega⟩)
    rw [if_neg zl]
    rw [Int64.lt_iff_toInt_lt] at zl
    by_cases ze : vs = x14a
    · have ze2 : vs.toInt = x14a.toInt := by rw [ze]
      have hcnt0 : fx_D_bits x13 = some (nI (pq_c (fun _ => 1) u0 P)) := by rw [g1a, st_cntD (show u0 < 1024 by omega), pq_pop2 hc1 g3a.1]
      rw [if_pos ze, kp_b1, hcnt0, kp_b1]
      by_cases zc : pq_c (fun _ => 1) s P < pq_c (fun _ => 1) u0 P
      · rw [if_pos (nI_lt zc (by omega))]
        exact take (fun u hu1 hu2 => by have hw1 := g5a u hu1 hu2; omega)
      · rw [if_neg (nI_nlt (show pq_c (fun _ => 1) u0 P ≤ pq_c (fun _ => 1) s P by omega) (by omega))]
        exact stay _ _ ⟨_, rfl⟩ (fun _ => ⟨u0, g1a, g2a, g3a, g4a, g5a, by omega⟩)
    · have ze2 : vs.toInt ≠ x14a.toInt := fun hw1 => ze ((kl_eq _ _).mpr hw1)
      rw [if_neg ze]
      exact take (fun u hu1 hu2 => by have hw1 := g5a u hu1 hu2; omega)
  · rintro st ⟨x13, x14a, v, f4, rfl, hbest⟩
    have T1 : kv_u5 (fb_D_plan_137 (nI d) (nI most) p2) (x13, x14a, nI (2 ^ P), kv_st m 84 13 v, f4) = fb_D_plan_137 (nI d) (nI most) p2 x13 x14a (nI (2 ^ P)) (kv_st m 84 13 v) f4 := rfl
    refine ⟨(x13, x14a, kv_st m 84 13 v, f4), ?_, x13, x14a, v, f4, rfl, ?_⟩
    · rw [T1]
      unfold fb_D_plan_137
      rw [head v, if_pos (nI_le (Nat.le_refl _) (by omega))]
    · rcases hbest with ⟨g1a, g2a⟩ | ⟨u0, g1a, g2a, g3a, g4a, g5a⟩
      · exact Or.inl ⟨g1a, fun u hu1 => g2a u hu1.1 hu1⟩
      · exact Or.inr ⟨u0, g1a, g3a, g4a, fun u hu1 => g5a u hu1.1 hu1⟩
end PO
