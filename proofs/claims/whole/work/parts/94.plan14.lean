/-! ===== plans: sets, in the reference ===== -/
section PN
variable {L P T d : Nat} {c c0 m : Nat → Nat → Int32} {p2 y : Int32} {f : Nat → Int64}
/-- what the reference has of the pairs told -/
def pr_H (c c0 m : Nat → Nat → Int32) (d L P T : Nat) (y p2 : Int32) : Prop := d < 8 ∧ L ≤ 10 ∧ P ≤ 8 ∧ T ≤ 20 ∧ hr_row c m d P ∧ m 85 0 = y ∧ m 85 1 = nI L ∧ m 85 2 = nI T ∧ (∀ w, w < T → yw c m L w) ∧ (∀ l, l < L → m 85 (10 + 6 * l) = c 3 l ∧ m 85 (13 + 6 * l) = c 6 l ∧ -100000 ≤ (c 6 l).toInt ∧ (c 6 l).toInt ≤ 100000) ∧ (∀ x, x < P → pn_told c c0 d L x) ∧ c0 77 8 = p2 ∧ 0 ≤ p2.toInt ∧ p2.toInt ≤ 99
theorem pr_H_fr {m2 : Nat → Nat → Int32} (hH1 : pr_H c c0 m d L P T y p2) (he1 : ∀ q, q ≠ 84 → m2 q = m q) : pr_H c c0 m2 d L P T y p2 := by
  obtain ⟨ha1, hb1, hc1, hd1, ⟨r1a, r2a, r3a, r4a, r5a, r6a, r7a⟩, he2, hf1, hg1, hh1, hj1, hk1⟩ := hH1
  have e89 : m2 85 = m 85 := he1 85 (by omega)
  refine ⟨ha1, hb1, hc1, hd1, ⟨r1a, by rw [he1 88 (by omega)]; exact r2a, r3a, by rw [he1 89 (by omega)]; exact r4a, r5a, r6a, by rw [he1 90 (by omega)]; exact r7a⟩, by rw [e89]; exact he2, by rw [e89]; exact hf1, by rw [e89]; exact hg1, fun w hw1 => yw_fr (hh1 w hw1) (fun _ _ _ => rfl) e89, by rw [e89]; exact hj1, hk1⟩
theorem pr_get0 (hH1 : pr_H c c0 m d L P T y p2) {l : Nat} (hl1 : l < L) : fx_D_get (nI l) (0 : Int32) m = some (c 3 l) := by
  have hb1 := hH1.2.1
  have ha1 := (hH1.2.2.2.2.2.2.2.2.2.1 l hl1).1
  show fx_D_get (nI l) (nI 0) m = _
  rw [sx_get (by omega) (by omega), Nat.add_zero, ha1]
theorem pr_get3 (hH1 : pr_H c c0 m d L P T y p2) {l : Nat} (hl1 : l < L) : fx_D_get (nI l) (3 : Int32) m = some (c 6 l) := by
  have hb1 := hH1.2.1
  have ha1 := (hH1.2.2.2.2.2.2.2.2.2.1 l hl1).2.1
  show fx_D_get (nI l) (nI 3) m = _
  rw [sx_get (by omega) (by omega), show 10 + 6 * l + 3 = 13 + 6 * l by omega, ha1]
theorem pr_bit {s x : Nat} (hs1 : s < 1024) (hx1 : x < 11) : ((nI s >>> (nI x &&& 31)) &&& (1 : Int32) = 1 ↔ s.testBit x = true) ∧ ((nI s >>> (nI x &&& 31)) &&& (1 : Int32) = 0 ↔ s.testBit x = false) := by
  rw [st_bit hs1 hx1, Nat.testBit_eq_decide_div_mod_eq]
  have hd1 : s / 2 ^ x % 2 = 0 ∨ s / 2 ^ x % 2 = 1 := by omega
  rcases hd1 with hd1 | hd1 <;> rw [hd1] <;> decide
theorem pr_primes (hH1 : pr_H c c0 m d L P T y p2) {s : Nat} (hs1 : s < 2 ^ P) : fx_D_primesIn (nI d) (nI s) m = some (nI (pq_c (pg_t c0) s P)) := by
  obtain ⟨ha1, hb1, hc1, hd1, hr1, he2, hf1, hg1, hh1, hj1, hk1, -⟩ := id hH1
  have hp1 : 2 ^ P ≤ 2 ^ 8 := Nat.pow_le_pow_right (by omega) hc1
  have key := kp_inv (kv_u2 (fb_D_primesIn_5 (nI d) m (nI s))) (fun x st => st = (nI (pq_c (pg_t c0) s x), nI x)) (fun r => r = nI (pq_c (pg_t c0) s P)) P ?_ ?_ ((0 : Int32), (0 : Int32)) rfl
  · obtain ⟨r, hx1, rfl⟩ := key
    unfold fx_D_primesIn
    rw [hx1]; rfl
  · rintro x st hx1 rfl
    refine Or.inl ⟨(nI (pq_c (pg_t c0) s (x + 1)), nI (x + 1)), ?_, rfl⟩
    have T1 : kv_u2 (fb_D_primesIn_5 (nI d) m (nI s)) (nI (pq_c (pg_t c0) s x), nI x) = fb_D_primesIn_5 (nI d) m (nI s) (nI (pq_c (pg_t c0) s x)) (nI x) := rfl
    rw [T1]
    obtain ⟨p, ep1, p100, pa1, pb1, pab, -, -, -, e87⟩ := hk1 x hx1
    obtain ⟨d1a, d2a⟩ := nd_d10 (show p < 2 ^ 31 by omega)
    have hpair : fx_D_pairAt (nI d) (nI x) m = some (nI p) := by rw [pn_pairAt ha1 hr1 (by omega), ep1]
    unfold fb_D_primesIn_5
    rw [kp_gd _ (kp_in_nI ha1 (by omega)), nI_clamp (show d < 2 ^ 31 by omega), hr1.2.2.2.1, if_neg (nI_ge hx1 (by omega))]
    obtain ⟨hbit, -⟩ := pr_bit (s := s) (x := x) (by omega) (by omega)
    by_cases zb : s.testBit x = true
    · rw [if_pos (hbit.mpr zb), hpair, kp_b1, d1a, pr_get0 hH1 pa1, kp_b1, kp_b1, d2a, pr_get0 hH1 pb1, kp_b1]
      rw [pq_s1 zb]
      unfold fj_D_primesIn_65 fj_D_primesIn_69 fj_D_primesIn_70
      rw [kp_let, kp_let, nI_1, nI_1]
      have et1 : pg_t c0 x = if c 3 (p / 10) = (1 : Int32) ∨ c 3 (p % 10) = (1 : Int32) then 1 else 0 := by
        unfold pg_t
        rw [e87]
        by_cases zc : c 3 (p / 10) = (1 : Int32) ∨ c 3 (p % 10) = (1 : Int32)
        · rw [if_pos zc, if_pos zc, if_neg (by decide)]
        · rw [if_neg zc, if_neg zc, if_pos rfl]
      by_cases z1a : c 3 (p / 10) = (1 : Int32)
      · rw [if_pos z1a, et1, if_pos (Or.inl z1a)]
      · rw [if_neg z1a]
        by_cases z2a : c 3 (p % 10) = (1 : Int32)
        · rw [if_pos z2a, et1, if_pos (Or.inr z2a)]
        · rw [if_neg z2a, et1, if_neg (fun hw1 => hw1.elim z1a z2a), Int32.add_zero]
          rfl
    · have zb0 : s.testBit x = false := by
        cases eb1 : s.testBit x with
        | true => exact absurd eb1 zb
        | false => rfl
      rw [if_neg (fun hw1 => zb (hbit.mp hw1)), pq_s0 zb0]
      unfold fj_D_primesIn_69 fj_D_primesIn_70
      rw [kp_let, nI_1, Int32.add_zero]
  · rintro st rfl
    refine ⟨_, ?_, rfl⟩
    show fb_D_primesIn_5 (nI d) m (nI s) (nI (pq_c (pg_t c0) s P)) (nI P) = _
    unfold fb_D_primesIn_5
    rw [kp_gd _ (kp_in_nI ha1 (by omega)), nI_clamp (show d < 2 ^ 31 by omega), hr1.2.2.2.1, if_pos (nI_le (Nat.le_refl _) (by omega))]
/-- the pairs of a set are put to the net -/
theorem pr_pairs {m1 : Nat → Nat → Int32} (hH1 : pr_H c c0 m1 d L P T y p2) {s : Nat} (hs1 : s < 2 ^ P) {Sat : (Nat → Int) → Prop} (hN : md_N m1 f L Sat) : ∃ f2, kv_loop (kv_u2 (fb_D_spreadBy_24 (nI d) m1 (nI s) p2)) ((0 : Int32), f) = some f2 ∧ md_N m1 f2 L (pg_S c0 P Sat s) := by
  obtain ⟨ha1, hb1, hc1, hd1, hr1, he2, hf1, hg1, hh1, hj1, hk1, h77, q1a, q2a⟩ := id hH1
  have hp1 : 2 ^ P ≤ 2 ^ 8 := Nat.pow_le_pow_right (by omega) hc1
  have key := kp_inv (kv_u2 (fb_D_spreadBy_24 (nI d) m1 (nI s) p2)) (fun x st => ∃ f3, st = (nI x, f3) ∧ md_N m1 f3 L (fun z => Sat z ∧ ∀ y, y < x → s.testBit y = true → pn_p c0 y z)) (fun f3 => md_N m1 f3 L (pg_S c0 P Sat s)) P ?_ ?_ ((0 : Int32), f) ⟨f, rfl, md_congr hN (fun z => ⟨fun hz1 => ⟨hz1, fun w hw1 => absurd hw1 (Nat.not_lt_zero _)⟩, fun hz1 => hz1.1⟩)⟩
  · exact key
  · rintro x st hx1 ⟨f3, rfl, hN3⟩
    refine Or.inl ?_
    have T1 : kv_u2 (fb_D_spreadBy_24 (nI d) m1 (nI s) p2) (nI x, f3) = fb_D_spreadBy_24 (nI d) m1 (nI s) p2 (nI x) f3 := rfl
    rw [T1]
    obtain ⟨p, ep1, p100, pa1, pb1, pab, e84, e85, e86, -⟩ := hk1 x hx1
    obtain ⟨d1a, d2a⟩ := nd_d10 (show p < 2 ^ 31 by omega)
    have hpair : fx_D_pairAt (nI d) (nI x) m1 = some (nI p) := by rw [pn_pairAt ha1 hr1 (by omega), ep1]
    have exw : ∀ z : Nat → Int, (∀ y, y < x + 1 → s.testBit y = true → pn_p c0 y z) ↔ (∀ y, y < x → s.testBit y = true → pn_p c0 y z) ∧ (s.testBit x = true → pn_p c0 x z) := fun z => by
      constructor
      · intro hz1
        exact ⟨fun y hy1 => hz1 y (by omega), hz1 x (by omega)⟩
      · rintro ⟨hz1, hz2⟩ y hy1
        by_cases zy : y = x
        · rw [zy]; exact hz2
        · exact hz1 y (by omega)
    unfold fb_D_spreadBy_24
    rw [kp_gd _ (kp_in_nI ha1 (by omega)), nI_clamp (show d < 2 ^ 31 by omega), hr1.2.2.2.1, if_neg (nI_ge hx1 (by omega))]
    obtain ⟨-, hbit⟩ := pr_bit (s := s) (x := x) (by omega) (by omega)
    by_cases zb : s.testBit x = false
    · rw [if_pos (hbit.mpr zb)]
      refine ⟨(nI (x + 1), f3), by unfold fj_D_spreadBy_108; rw [nI_1], f3, rfl, md_congr hN3 (fun z => ?_)⟩
      rw [exw]
      exact ⟨fun hz1 => ⟨hz1.1, hz1.2, fun hw1 => by rw [zb] at hw1; exact absurd hw1 (by decide)⟩, fun hz1 => ⟨hz1.1, hz1.2.1⟩⟩
    · have zb1 : s.testBit x = true := by
        cases eb1 : s.testBit x with
        | true => rfl
        | false => exact absurd eb1 zb
      obtain ⟨-, -, l1a, l2a⟩ := hj1 (p / 10) pa1
      obtain ⟨-, -, l3a, l4a⟩ := hj1 (p % 10) pb1
      have w1a : ((c 6 (p / 10)).toInt64 - (c 6 (p % 10)).toInt64).toInt = (c 6 (p / 10)).toInt - (c 6 (p % 10)).toInt := by
        rw [kl_sub] <;> rw [Int32.toInt_toInt64, Int32.toInt_toInt64] <;> omega
      have w2a : ((c 6 (p / 10)).toInt64 - (c 6 (p % 10)).toInt64 - p2.toInt64).toInt = (c 6 (p / 10)).toInt - (c 6 (p % 10)).toInt - p2.toInt := by
        rw [kl_sub] <;> rw [w1a, Int32.toInt_toInt64] <;> omega
      have w3a : ((c 6 (p / 10)).toInt64 - (c 6 (p % 10)).toInt64 + p2.toInt64).toInt = (c 6 (p / 10)).toInt - (c 6 (p % 10)).toInt + p2.toInt := by
        rw [kl_add] <;> rw [w1a, Int32.toInt_toInt64] <;> omega
      have w4a : (c0 82 x).toInt = (c 6 (p / 10)).toInt - (c 6 (p % 10)).toInt := by
        rw [e86, kp_sub (by omega) (by omega)]
      obtain ⟨f4, g1a, g2a⟩ := md_binds hN3 pa1 pb1 pab (lo := (c 6 (p / 10)).toInt64 - (c 6 (p % 10)).toInt64 - p2.toInt64) (hi := (c 6 (p / 10)).toInt64 - (c 6 (p % 10)).toInt64 + p2.toInt64) (by omega) (by omega) (by omega) (by omega)
      rw [if_neg (fun hw1 => zb (hbit.mp hw1)), hpair, kp_b1, d1a, kp_let, kp_b1, d2a, kp_let, pr_get3 hH1 pa1, pr_get3 hH1 pb1, kp_b1, kp_b1, kp_let, g1a, kp_b1]
      refine ⟨(nI (x + 1), f4), by unfold fj_D_spreadBy_108; rw [nI_1], f4, rfl, md_congr g2a (fun z => ?_)⟩
      rw [exw]
      have ep2 : pn_p c0 x z ↔ ((c 6 (p / 10)).toInt64 - (c 6 (p % 10)).toInt64 - p2.toInt64).toInt ≤ z (p / 10) - z (p % 10) ∧ z (p / 10) - z (p % 10) ≤ ((c 6 (p / 10)).toInt64 - (c 6 (p % 10)).toInt64 + p2.toInt64).toInt := by
        unfold pn_p
        rw [e84, e85, nI_clamp (show p / 10 < 2 ^ 31 by omega), nI_clamp (show p % 10 < 2 ^ 31 by omega), h77, w2a, w3a, w4a]
      rw [ep2]
      exact ⟨fun hz1 => ⟨hz1.1.1, hz1.1.2, fun _ => hz1.2⟩, fun hz1 => ⟨⟨hz1.1, hz1.2.1⟩, hz1.2.2 zb1⟩⟩
  · rintro st ⟨f3, rfl, hN3⟩
    refine ⟨f3, ?_, hN3⟩
    show fb_D_spreadBy_24 (nI d) m1 (nI s) p2 (nI P) f3 = _
    unfold fb_D_spreadBy_24
    rw [kp_gd _ (kp_in_nI ha1 (by omega)), nI_clamp (show d < 2 ^ 31 by omega), hr1.2.2.2.1, if_pos (nI_le (Nat.le_refl _) (by omega))]
theorem pr_spread (hH1 : pr_H c c0 m d L P T y p2) {s : Nat} (hs1 : s < 2 ^ P) : ∃ v f2, fx_D_spreadBy (nI d) (nI s) p2 m f = some (v, kv_st m 84 13 (nI L), f2) ∧ ((∃ z, pg_S c0 P (yr_S c y 0 T) s z) → v.toInt = pg_wid L (pg_S c0 P (yr_S c y 0 T) s) ∧ 0 ≤ v.toInt ∧ v.toInt ≤ 999900) ∧ (¬ (∃ z, pg_S c0 P (yr_S c y 0 T) s z) → v = -1) := by
  obtain ⟨ha1, hb1, hc1, hd1, hr1, he2, hf1, hg1, hh1, hj1, hk1, h77, q1a, q2a⟩ := id hH1
  obtain ⟨f3, h1a, f4, h3a, h4a⟩ := yd_begin hb1 hd1 hf1 hg1 hh1 y f
  have H2 : pr_H c c0 (kv_st m 84 13 (nI L)) d L P T y p2 := pr_H_fr hH1 (fun q hq1 => kp_st_ne hq1)
  obtain ⟨f6, g1a, g2a⟩ := pr_pairs H2 hs1 h4a
  obtain ⟨b0, f8, k1a, k2a, k3a⟩ := md_closes g2a
  unfold fx_D_spreadBy
  rw [hf1, h1a, kp_b2, kp_st_ne (show (85 : Nat) ≠ 84 by omega), he2, h3a, kp_b1, g1a, kp_sb1, k1a, kp_b2]
  cases b0 with
  | false =>
    rw [if_neg (by decide)]
    refine ⟨-1, f8, rfl, fun hz1 => ?_, fun _ => rfl⟩
    exact absurd (k2a.mpr hz1) (by decide)
  | true =>
    obtain ⟨n1a, n2a, n3a, n4a⟩ := k3a rfl
    have hx1 : pn_x (md_t f8) L (pg_S c0 P (yr_S c y 0 T) s) := ⟨hb1, k2a.mp rfl, n1a, fun u v hu1 hv1 => ⟨fun hq1 => ((n4a u v hu1 hv1).1 hq1).1, (n4a u v hu1 hv1).2⟩, fun u v hu1 hv1 hq1 => ((n4a u v hu1 hv1).1 hq1).2⟩
    obtain ⟨v, w1a, w2a, w3a, w4a⟩ := pn_dwidths H2.2.2.2.2.2.2.1 hx1
    rw [if_pos rfl, w1a]
    refine ⟨v, f8, rfl, fun _ => ⟨?_, w3a, w4a⟩, fun hz1 => absurd (k2a.mp rfl) hz1⟩
    rw [w2a]
    exact pg_w hx1.2.2.2.1
end PN
