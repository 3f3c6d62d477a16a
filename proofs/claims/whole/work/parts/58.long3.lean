/-! ===== the long net: growth, and the reference's side ===== -/
section LG
variable {n L T w0 ys sa sb : Nat} {c m c3 m3 : Nat → Nat → Int32} {kc lm ym : Nat → Nat} {K K0 : Nat → Prop}
theorem kp_sb1 {α β : Type} (a : α) (F : α → Option β) : (some a).bind (kv_u1 F) = F a := rfl
theorem kp_sb2 {α β γ : Type} (a : α) (b : β) (F : α → β → Option γ) : (some (a, b)).bind (kv_u2 F) = F a b := rfl
def lg_lo (c : Nat → Nat → Int32) (l : Nat) : Int := if c 3 l = 7 then 0 else (c 1 7).toInt
def lg_hi (c : Nat → Nat → Int32) (l : Nat) : Int := if c 3 l = 7 then 0 else (c 1 8).toInt
def lg_H (c m : Nat → Nat → Int32) (L T : Nat) : Prop := L ≤ 10 ∧ T ≤ 20 ∧ c 10 7 = nI T ∧ m 85 2 = nI T ∧ (∀ w, w < T → yw c m L w) ∧ (-99 ≤ (c 1 7).toInt ∧ (c 1 7).toInt ≤ 99 ∧ -99 ≤ (c 1 8).toInt ∧ (c 1 8).toInt ≤ 99) ∧ m 85 5 = c 1 7 ∧ m 85 6 = c 1 8 ∧ ∀ l, l < L → m 85 (10 + 6 * l) = c 3 l
theorem lg_H_fr (h : lg_H c m L T) (h1 : ∀ q, q < 68 → c3 q = c q) (h2 : m3 85 = m 85) : lg_H c3 m3 L T := by
  obtain ⟨a1, a2, a3, a4, a5, a6, a7, a8, a9⟩ := h
  refine ⟨a1, a2, by rw [h1 10 (by omega)]; exact a3, by rw [h2]; exact a4, fun w hw => yw_fr (a5 w hw) (fun q _ _ => h1 q (by omega)) h2, by rw [h1 1 (by omega)]; exact a6, by rw [h1 1 (by omega), h2]; exact a7, by rw [h1 1 (by omega), h2]; exact a8, fun l hl => by rw [h1 3 (by omega), h2]; exact a9 l hl⟩
theorem lg_H_of {k : Nat} (h : Inv k c m) (hk : k < 600) : ∃ L T, lg_H c m L T ∧ c 2 7 = nI L ∧ m 85 1 = nI L := by
  obtain ⟨L, T, U, hN, hG, hL, hP, hA, hW, hT, hX, hC⟩ := h.1
  refine ⟨L, T, ⟨hN.1, hN.2.1, hN.2.2.2.2.2.1, hN.2.2.2.2.2.2.1, fun w hw => yw_of (by omega) (hW w hw), ?_, hG.2.2.2.2.1, hG.2.2.2.2.2.1, fun l hl => (hL l hl).1⟩, hN.2.2.2.1, hN.2.2.2.2.1⟩
  obtain ⟨-, -, -, -, -, -, g1, g2, g3⟩ := hG
  have g1 : -99 ≤ (c 1 7).toInt := g1
  have g2 : (c 1 7).toInt ≤ (c 1 8).toInt := g2
  have g3 : (c 1 8).toInt ≤ 99 := g3
  exact ⟨g1, by omega, by omega, g3⟩
theorem lg_mb {a d : Int} (h1 : -99 ≤ a) (h2 : a ≤ 99) (h3 : 0 ≤ d) (h4 : d ≤ 140) : -13860 ≤ a * d ∧ a * d ≤ 13860 := by
  have a1 : a * d ≤ 99 * d := Int.mul_le_mul_of_nonneg_right h2 h3
  have a2 : -99 * d ≤ a * d := Int.mul_le_mul_of_nonneg_right h1 h3
  omega
/-- growth from one knot to the next -/
def lc_G (c : Nat → Nat → Int32) (kc : Nat → Nat) (n i : Nat) (x : Nat → Int) : Prop := ∀ j, j < i → j + 1 < n → kc j / 141 = kc (j + 1) / 141 → lg_lo c (kc j / 141) * ((kc (j + 1) : Int) - (kc j : Int)) ≤ x (j + 1) - x j ∧ x (j + 1) - x j ≤ lg_hi c (kc j / 141) * ((kc (j + 1) : Int) - (kc j : Int))
theorem lc_G_add {i : Nat} (x : Nat → Int) : lc_G c kc n (i + 1) x ↔ lc_G c kc n i x ∧ (i + 1 < n → kc i / 141 = kc (i + 1) / 141 → lg_lo c (kc i / 141) * ((kc (i + 1) : Int) - (kc i : Int)) ≤ x (i + 1) - x i ∧ x (i + 1) - x i ≤ lg_hi c (kc i / 141) * ((kc (i + 1) : Int) - (kc i : Int))) := by
  constructor
  · intro h
    exact ⟨fun j hj => h j (by omega), h i (by omega)⟩
  · rintro ⟨h1, h2⟩ j hj
    by_cases z : j = i
    · rw [z]; exact h2
    · exact h1 j (by omega)
theorem lb_growth (hH : lg_H c m L T) (hn : n ≤ 42) (hk : lk_C c n kc K) {e : Nat} (he : e ≤ 40) {Sat : (Nat → Int) → Prop} (hN : ne_N c n e Sat) : ∃ c2 e2, fx_LongNet_boundByGrowth c = some c2 ∧ (∀ q, q < 68 ∨ 71 < q → c2 q = c q) ∧ ne_N c2 n e2 (fun x => Sat x ∧ lc_G c kc n (n - 1) x) := by
  obtain ⟨-, -, -, -, -, ⟨b1, b2, b3, b4⟩, -⟩ := hH
  have key := kp_inv (kv_u2 fb_LongNet_boundByGrowth_2) (fun i st => ∃ c3 e2, st = (nI i, c3) ∧ e2 ≤ e + 2 * i ∧ (∀ q, q < 68 ∨ 71 < q → c3 q = c q) ∧ ne_N c3 n e2 (fun x => Sat x ∧ lc_G c kc n i x)) (fun c2 => ∃ e2, (∀ q, q < 68 ∨ 71 < q → c2 q = c q) ∧ ne_N c2 n e2 (fun x => Sat x ∧ lc_G c kc n (n - 1) x)) (n - 1) ?_ ?_ ((0 : Int32), c) ⟨c, e, rfl, by omega, fun _ _ => rfl, ne_congr hN (fun x => ⟨fun h => ⟨h, fun w hw => absurd hw (Nat.not_lt_zero _)⟩, fun h => h.1⟩)⟩
  · obtain ⟨c2, h1, e2, h2⟩ := key
    exact ⟨c2, e2, by unfold fx_LongNet_boundByGrowth; rw [h1]; rfl, h2⟩
  · rintro i st hi ⟨c3, e2, rfl, he2, q2, q4⟩
    refine Or.inl ?_
    show ∃ s2, fb_LongNet_boundByGrowth_2 (nI i) c3 = some (.inl s2) ∧ _
    obtain ⟨k1, k2, k3, k4, k5⟩ := hk
    have i42 : i < 42 := by omega
    have l1 := k5 i (by omega)
    have l2 := k5 (i + 1) (by omega)
    have l3 := k3 i (i + 1) (by omega) (by omega)
    have d1 : nI (kc i) / (141 : Int32) = nI (kc i / 141) := pk_div (d := 141) (by omega) (by omega) (by omega)
    have d2 : nI (kc (i + 1)) / (141 : Int32) = nI (kc (i + 1) / 141) := pk_div (d := 141) (by omega) (by omega) (by omega)
    unfold fb_LongNet_boundByGrowth_2
    rw [q2 73 (by omega), k1, nI_1, if_neg (nI_ge (show i + 1 < n by omega) (by omega)), kp_gd _ (kp_in_nI i42 (by omega)), nI_clamp (show i < 2 ^ 31 by omega), kp_let, kp_gd _ (kp_in_nI (show i + 1 < 42 by omega) (by omega)), nI_clamp (show i + 1 < 2 ^ 31 by omega), q2 74 (by omega), k2 i (by omega), k2 (i + 1) (by omega), d1, d2]
    have done : ∀ c4 : Nat → Nat → Int32, fj_LongNet_boundByGrowth_128 (nI i) c4 = some (.inl (nI (i + 1), c4)) := fun c4 => by unfold fj_LongNet_boundByGrowth_128; rw [nI_1]
    by_cases z : kc i / 141 = kc (i + 1) / 141
    rotate_left
    · rw [if_neg (fun w => z ((nI_eq (by omega) (by omega)).mp w).symm), done]
      refine ⟨_, rfl, c3, e2, rfl, by omega, q2, ne_congr q4 (fun x => ?_)⟩
      rw [lc_G_add]
      exact ⟨fun ⟨s1, s2⟩ => ⟨s1, s2, fun _ w => absurd w z⟩, fun ⟨s1, s2, _⟩ => ⟨s1, s2⟩⟩
    rw [if_pos (by rw [z]), pk_sub (by omega), kp_let, kp_gd _ (kp_in_nI (show kc i / 141 < 10 by omega) (by omega)), nI_clamp (by omega), q2 3 (by omega)]
    have go : ∀ lo hi : Int32, lo.toInt = lg_lo c (kc i / 141) * ((kc (i + 1) : Int) - (kc i : Int)) → hi.toInt = lg_hi c (kc i / 141) * ((kc (i + 1) : Int) - (kc i : Int)) → ∃ s2, fj_LongNet_boundByGrowth_114 (nI i) lo c3 hi = some (.inl s2) ∧ ∃ c4 e3, s2 = (nI (i + 1), c4) ∧ e3 ≤ e + 2 * (i + 1) ∧ (∀ q, q < 68 ∨ 71 < q → c4 q = c q) ∧ ne_N c4 n e3 (fun x => Sat x ∧ lc_G c kc n (i + 1) x) := by
      intro lo hi g1 g2
      have g3 : -99 ≤ lg_lo c (kc i / 141) ∧ lg_lo c (kc i / 141) ≤ 99 := by unfold lg_lo; split <;> omega
      have g4 : -99 ≤ lg_hi c (kc i / 141) ∧ lg_hi c (kc i / 141) ≤ 99 := by unfold lg_hi; split <;> omega
      have g5 := lg_mb (d := (kc (i + 1) : Int) - (kc i : Int)) g3.1 g3.2 (by omega) (by omega)
      have g6 := lg_mb (d := (kc (i + 1) : Int) - (kc i : Int)) g4.1 g4.2 (by omega) (by omega)
      obtain ⟨c4, r1, r2, r3⟩ := ne_bound (lo := lo) (hi := hi) q4 (by omega) (show i + 1 < n by omega) (show i < n by omega) (by omega) (by omega) (by omega) (by omega)
      unfold fj_LongNet_boundByGrowth_114
      rw [nI_1, r1, kp_b1, done]
      refine ⟨_, rfl, c4, e2 + 2, rfl, by omega, fun q hq => by rw [r2.1 q hq, q2 q hq], ne_congr r3 (fun x => ?_)⟩
      rw [lc_G_add, g1, g2]
      exact ⟨fun ⟨⟨s1, s2⟩, s3⟩ => ⟨s1, s2, fun _ _ => s3⟩, fun ⟨s1, s2, s3⟩ => ⟨⟨s1, s2⟩, s3 (by omega) z⟩⟩
    have ed : (nI (kc (i + 1) - kc i)).toInt = (kc (i + 1) : Int) - (kc i : Int) := by rw [nI_toInt (by omega)]; omega
    by_cases z7 : c 3 (kc i / 141) = 7
    · rw [if_pos z7]
      unfold fj_LongNet_boundByGrowth_78 fj_LongNet_boundByGrowth_96
      rw [if_neg (by decide), if_neg (by decide)]
      refine go 0 0 ?_ ?_
      · unfold lg_lo; rw [if_pos z7, Int.zero_mul]; rfl
      · unfold lg_hi; rw [if_pos z7, Int.zero_mul]; rfl
    · rw [if_neg z7]
      unfold fj_LongNet_boundByGrowth_78 fj_LongNet_boundByGrowth_96
      rw [if_pos rfl, if_pos rfl, q2 1 (by omega)]
      have g5 := lg_mb (d := (kc (i + 1) : Int) - (kc i : Int)) b1 b2 (by omega) (by omega)
      have g6 := lg_mb (d := (kc (i + 1) : Int) - (kc i : Int)) b3 b4 (by omega) (by omega)
      refine go _ _ ?_ ?_
      · unfold lg_lo; rw [if_neg z7, kp_mul (by rw [ed]; omega) (by rw [ed]; omega), ed]
      · unfold lg_hi; rw [if_neg z7, kp_mul (by rw [ed]; omega) (by rw [ed]; omega), ed]
  · rintro st ⟨c3, e2, rfl, he2, q2, q4⟩
    refine ⟨c3, ?_, e2, q2, q4⟩
    show fb_LongNet_boundByGrowth_2 (nI (n - 1)) c3 = _
    unfold fb_LongNet_boundByGrowth_2
    rw [q2 73 (by omega), hk.1, nI_1, if_pos (nI_le (by omega) (by omega))]
/-- the class's long net, built -/
theorem lb_build (hH : lg_H c m L T) (hS : lqS L ys sa sb) (hq : lqC c w0 ys sa sb) {n0 : Nat} (hn0 : n0 ≤ 2) {kc0 : Nat → Nat} (h0 : lk_C c n0 kc0 K0) : ∃ c2 n e kc, fx_LongNet_build c = some c2 ∧ n ≤ 42 ∧ lk_C c2 n kc (lg_K c K0 w0 ys sa sb T) ∧ (∀ q, q < 68 ∨ 74 < q → c2 q = c q) ∧ ne_N c2 n e (fun x => lw_S c w0 ys sa sb T n kc x ∧ lc_G c kc n (n - 1) x) := by
  have hH2 := hH
  obtain ⟨a1, a2, a3, a4, a5, -⟩ := hH2
  obtain ⟨c3, n, kc, g1, g2, g3, g4, g5⟩ := lb_knots hS hq a2 a3 a5 hn0 h0
  obtain ⟨c4, i1, i2, i3⟩ := ne_start (c := c3) (n := n) g2
  have f4 : ∀ q, q < 68 → c4 q = c q := fun q hq => by rw [i2 q (by omega), g4 q (by omega) (by omega)]
  have hq4 : lqC c4 w0 ys sa sb := lqC_fr hq (fun j hj => by rw [i2 73 (by omega)]; exact g5 j hj)
  have K4 : lk_C c4 n kc (lg_K c4 K0 w0 ys sa sb T) := by
    have e : lg_K c4 K0 w0 ys sa sb T = lg_K c K0 w0 ys sa sb T := by
      unfold lg_K lg_ka lg_kb
      rw [f4 11 (by omega), f4 12 (by omega), f4 13 (by omega), f4 16 (by omega)]
    rw [e]
    exact lk_C_fr g3 (fun q hq => i2 q (by omega))
  have H4 := lg_H_fr hH f4 (m3 := m) rfl
  obtain ⟨c5, e, j1, j2, j3, j4⟩ := lb_weigh hS hq4 a2 H4.2.2.1 H4.2.2.2.2.1 g2 K4 i3
  have f5 : ∀ q, q < 68 → c5 q = c q := fun q hq => by rw [j3 q (Or.inl hq), f4 q hq]
  have H5 := lg_H_fr hH f5 (m3 := m) rfl
  obtain ⟨c6, e2, l1, l2, l3⟩ := lb_growth H5 g2 (lk_C_fr K4 (fun q hq => j3 q (Or.inr hq))) (by omega) j4
  refine ⟨c6, n, e2, kc, ?_, g2, ?_, fun q hq => ?_, ne_congr l3 (fun x => ?_)⟩
  · unfold fx_LongNet_build
    rw [g1, kp_sb1, g3.1, i1, kp_b1, j1, kp_sb1, l1, kp_b1]
  · exact lk_C_fr g3 (fun q hq => by rw [l2 q (Or.inr hq), j3 q (Or.inr hq), i2 q (by omega)])
  · rw [l2 q (by omega), j3 q (by omega), i2 q (by omega), g4 q (by omega) (by omega)]
  · have e1 : lw_S c4 w0 ys sa sb T n kc = lw_S c w0 ys sa sb T n kc := by
      unfold lw_S lg_ka lg_kb
      rw [f4 11 (by omega), f4 12 (by omega), f4 13 (by omega), f4 14 (by omega), f4 15 (by omega), f4 16 (by omega)]
    have e2 : lc_G c5 kc n (n - 1) = lc_G c kc n (n - 1) := by
      unfold lc_G lg_lo lg_hi
      rw [f5 1 (by omega), f5 3 (by omega)]
    rw [e1, e2]
/-! the reference -/
theorem sy_say (hH : lg_H c m L T) (h89 : m3 85 = m 85) {w : Nat} (hw : w < T) : ∃ a b y : Nat, a < L ∧ b < L ∧ a ≠ b ∧ y < 141 ∧ c 12 w = nI a ∧ c 13 w = nI b ∧ c 11 w = nI y ∧ fx_D_say (nI w) 0 m3 = some (nI y) ∧ fx_D_say (nI w) 1 m3 = some (nI a) ∧ fx_D_say (nI w) 2 m3 = some (nI b) ∧ m3 85 (85 + 6 * w) = c 16 w := by
  obtain ⟨a1, a2, a3, a4, a5, -⟩ := hH
  obtain ⟨a, b, y, ha, hb, hab, hy, ca, cb, cy, m1, m2, m0, m5⟩ := yw_n (a5 w hw)
  refine ⟨a, b, y, ha, hb, hab, hy, ca, cb, cy, ?_, ?_, ?_, by rw [h89]; exact m5⟩
  · show fx_D_say (nI w) (nI 0) m3 = _
    rw [sx_say (by omega) (by omega), h89, show 80 + 6 * w + 0 = 80 + 6 * w by omega, m0]
  · show fx_D_say (nI w) (nI 1) m3 = _
    rw [sx_say (by omega) (by omega), h89, show 80 + 6 * w + 1 = 81 + 6 * w by omega, m1]
  · show fx_D_say (nI w) (nI 2) m3 = _
    rw [sx_say (by omega) (by omega), h89, show 80 + 6 * w + 2 = 82 + 6 * w by omega, m2]
theorem ld_knots (hH : lg_H c m L T) (hS : lqS L ys sa sb) (hq : lqM m w0 ys sa sb) {n0 : Nat} (hn0 : n0 ≤ 2) {lm0 ym0 : Nat → Nat} (h0 : lk_M m n0 lm0 ym0 K0) : ∃ m2 n lm ym, kv_loop (kv_u2 fb_D_fitsLong_29) ((0 : Int32), m) = some m2 ∧ n ≤ 42 ∧ lk_M m2 n lm ym (lg_K c K0 w0 ys sa sb T) ∧ lm_fr m m2 := by
  have hT := hH.2.1
  have hL := hH.1
  have key := kp_inv (kv_u2 fb_D_fitsLong_29) (fun i st => ∃ m3 n lm ym, st = (nI i, m3) ∧ n ≤ n0 + 2 * i ∧ lk_M m3 n lm ym (lg_K c K0 w0 ys sa sb i) ∧ lm_fr m m3) (fun m2 => ∃ n lm ym, n ≤ 42 ∧ lk_M m2 n lm ym (lg_K c K0 w0 ys sa sb T) ∧ lm_fr m m2) T ?_ ?_ ((0 : Int32), m) ⟨m, n0, lm0, ym0, rfl, by omega, lm_congr h0 (fun q => ⟨fun w => Or.inl w, fun w => by
    rcases w with w | ⟨w, w1, -⟩
    · exact w
    · exact absurd w1 (Nat.not_lt_zero _)⟩), fun _ _ _ _ => rfl, fun _ _ => rfl⟩
  · obtain ⟨m2, h1, n, lm, ym, h2⟩ := key
    exact ⟨m2, n, lm, ym, h1, h2⟩
  · rintro i st hi ⟨m3, n, lm, ym, rfl, hn, q1, q2⟩
    refine Or.inl ?_
    show ∃ s2, fb_D_fitsLong_29 (nI i) m3 = some (.inl s2) ∧ _
    have e89 : m3 85 = m 85 := q2.1 85 (by omega) (by omega) (by omega)
    obtain ⟨a, b, y, ha, hb, hab, hy, ca, cb, cy, s0, s1, s2, s5⟩ := sy_say hH e89 hi
    have i20 : i < 20 := by omega
    have hq3 := lqM_fr hq q2.2
    have ka : lg_ka c ys sa sb i = 141 * lq_mt ys sa sb a y + y := by unfold lg_ka; rw [ca, cy, nI_clamp (by omega), nI_clamp (by omega)]
    have kb : lg_kb c ys sa sb i = 141 * lq_mt ys sa sb b y + y := by unfold lg_kb; rw [cb, cy, nI_clamp (by omega), nI_clamp (by omega)]
    unfold fb_D_fitsLong_29
    rw [e89, hH.2.2.2.1, if_neg (nI_ge hi (by omega)), lq_asked hq3 i20 s5, kp_b1]
    by_cases z : c 16 i = 0 ∧ i ≠ w0
    · rw [decide_eq_true z, if_pos rfl, s1, kp_b1, s0, kp_b1, lq_label hq3 hS ha hy, kp_b1, kp_b1]
      obtain ⟨p, m4, n4, lm4, ym4, e1, ⟨e2, e3⟩, e4, e5⟩ := lm_add q1 (by omega) (l := lq_mt ys sa sb a y) (y := y) (by have := lq_mt_lt hS ha hy; omega) hy
      have fr4 := lm_fr_trans q2 e5
      have e89b : m4 85 = m 85 := fr4.1 85 (by omega) (by omega) (by omega)
      obtain ⟨a', b', y', -, -, -, -, ca', cb', cy', t0, t1, t2, t5⟩ := sy_say hH e89b hi
      have eb : nI b' = nI b := by rw [← cb', cb]
      have ey : nI y' = nI y := by rw [← cy', cy]
      rw [e1, kp_b2, t2, kp_b1, t0, kp_b1, eb, ey, lq_label (lqM_fr hq fr4.2) hS hb hy, kp_b1, kp_b1]
      obtain ⟨p2, m5, n5, lm5, ym5, g1, ⟨g2, g3⟩, g4, g5⟩ := lm_add e4 (by omega) (l := lq_mt ys sa sb b y) (y := y) (by have := lq_mt_lt hS hb hy; omega) hy
      rw [g1, kp_b2]
      refine ⟨(nI (i + 1), m5), by unfold fj_D_fitsLong_114; rw [nI_1], m5, n5, lm5, ym5, rfl, by omega, lm_congr g4 (fun q => ?_), lm_fr_trans fr4 g5⟩
      rw [← lg_K_yes z, ka, kb]
    · rw [decide_eq_false z, if_neg (by decide)]
      exact ⟨(nI (i + 1), m3), by unfold fj_D_fitsLong_114; rw [nI_1], m3, n, lm, ym, rfl, by omega, lm_congr q1 (fun q => lg_K_no z q), q2⟩
  · rintro st ⟨m3, n, lm, ym, rfl, hn, q1, q2⟩
    refine ⟨m3, ?_, n, lm, ym, by omega, q1, q2⟩
    show fb_D_fitsLong_29 (nI T) m3 = _
    unfold fb_D_fitsLong_29
    rw [q2.1 85 (by omega) (by omega) (by omega), hH.2.2.2.1, if_pos (nI_le (Nat.le_refl _) (by omega))]
theorem ld_weigh (hH : lg_H c m L T) (hS : lqS L ys sa sb) (hq : lqM m w0 ys sa sb) (hn : n ≤ 42) (hk : lk_M m n lm ym (lg_K c K0 w0 ys sa sb T)) {f : Nat → Int64} (hN : md_N m f n (fun _ => True)) : ∃ f2, kv_loop (kv_u3 fb_D_fitsLong_131) ((0 : Int32), m, f) = some (m, f2) ∧ md_N m f2 n (lw_S c w0 ys sa sb T n (fun i => 141 * lm i + ym i)) := by
  have hT := hH.2.1
  have hL := hH.1
  have key := kp_inv (kv_u3 fb_D_fitsLong_131) (fun i st => ∃ f3, st = (nI i, m, f3) ∧ md_N m f3 n (lw_S c w0 ys sa sb i n (fun i => 141 * lm i + ym i))) (fun st => ∃ f2, st = (m, f2) ∧ md_N m f2 n (lw_S c w0 ys sa sb T n (fun i => 141 * lm i + ym i))) T ?_ ?_ ((0 : Int32), m, f) ⟨f, rfl, md_congr hN (fun x => ⟨fun _ w hw => absurd hw (Nat.not_lt_zero _), fun _ => trivial⟩)⟩
  · obtain ⟨st, h1, f2, rfl, h2⟩ := key
    exact ⟨f2, h1, h2⟩
  · rintro i st hi ⟨f3, rfl, q4⟩
    refine Or.inl ?_
    show ∃ s2, fb_D_fitsLong_131 (nI i) m f3 = some (.inl s2) ∧ _
    obtain ⟨a, b, y, ha, hb, hab, hy, ca, cb, cy, s0, s1, s2, s5⟩ := sy_say hH rfl hi
    have i20 : i < 20 := by omega
    have ka : lg_ka c ys sa sb i = 141 * lq_mt ys sa sb a y + y := by unfold lg_ka; rw [ca, cy, nI_clamp (by omega), nI_clamp (by omega)]
    have kb : lg_kb c ys sa sb i = 141 * lq_mt ys sa sb b y + y := by unfold lg_kb; rw [cb, cy, nI_clamp (by omega), nI_clamp (by omega)]
    have mne := lq_mt_ne hS hab hy
    unfold fb_D_fitsLong_131
    rw [hH.2.2.2.1, if_neg (nI_ge hi (by omega)), lq_asked hq i20 s5, kp_b1]
    by_cases z : c 16 i = 0 ∧ i ≠ w0
    · obtain ⟨pa, pa1, pa2, pa3, pa4⟩ := lm_at hk (by omega) (l := lq_mt ys sa sb a y) (y := y) (by have := lq_mt_lt hS ha hy; omega) hy (Or.inr ⟨i, hi, z, Or.inl ka.symm⟩)
      obtain ⟨pb, pb1, pb2, pb3, pb4⟩ := lm_at hk (by omega) (l := lq_mt ys sa sb b y) (y := y) (by have := lq_mt_lt hS hb hy; omega) hy (Or.inr ⟨i, hi, z, Or.inr kb.symm⟩)
      obtain ⟨f4, r1, r2⟩ := yd_weighs i20 (hH.2.2.2.2.1 i hi) q4 pa1 pb1 (fun e => mne (by rw [← pa2, ← pb2, e]))
      rw [decide_eq_true z, if_pos rfl, s1, kp_b1, s0, kp_b1, lq_label hq hS ha hy, kp_b1, kp_b1, pa4, kp_b2, s2, kp_b1, s0, kp_b1, lq_label hq hS hb hy, kp_b1, kp_b1, pb4, kp_b2, r1, kp_b1]
      refine ⟨(nI (i + 1), m, f4), by unfold fj_D_fitsLong_215; rw [nI_1], f4, rfl, md_congr r2 (fun x => ?_)⟩
      exact lw_yes (kf := fun i => 141 * lm i + ym i) z (fun u v hu hv e => hk.2.2.1 u v hu hv e) pa1 pb1 (by show 141 * lm pa + ym pa = _; rw [pa2, pa3, ka]) (by show 141 * lm pb + ym pb = _; rw [pb2, pb3, kb]) x
    · rw [decide_eq_false z, if_neg (by decide)]
      exact ⟨(nI (i + 1), m, f3), by unfold fj_D_fitsLong_215; rw [nI_1], f3, rfl, md_congr q4 (lw_no z)⟩
  · rintro st ⟨f3, rfl, q4⟩
    refine ⟨(m, f3), ?_, f3, rfl, q4⟩
    show fb_D_fitsLong_131 (nI T) m f3 = _
    unfold fb_D_fitsLong_131
    rw [hH.2.2.2.1, if_pos (nI_le (Nat.le_refl _) (by omega))]
/-- growth between any two nodes of a lump -/
def ld_1 (c : Nat → Nat → Int32) (lm ym : Nat → Nat) (i j : Nat) (x : Nat → Int) : Prop := lm i = lm j → ym i < ym j → lg_lo c (lm i) * ((ym j : Int) - (ym i : Int)) ≤ x j - x i ∧ x j - x i ≤ lg_hi c (lm i) * ((ym j : Int) - (ym i : Int))
theorem kl_mul {x y : Int64} (h1 : -9223372036854775808 ≤ x.toInt * y.toInt) (h2 : x.toInt * y.toInt < 9223372036854775808) : (x * y).toInt = x.toInt * y.toInt := by
  rw [Int64.toInt_mul, kl_bmod h1 h2]
theorem ld_inner (hH : lg_H c m L T) (hn : n ≤ 42) (hk : lk_M m n lm ym K) (hKL : ∀ i, i < n → lm i < L) {i : Nat} (hi : i < n) {f : Nat → Int64} {Sat : (Nat → Int) → Prop} (hN : md_N m f n Sat) : ∃ f2, kv_loop (kv_u2 (fb_D_fitsLong_236 m (nI i))) ((0 : Int32), f) = some f2 ∧ md_N m f2 n (fun x => Sat x ∧ ∀ j, j < n → ld_1 c lm ym i j x) := by
  obtain ⟨L10, -, -, -, -, ⟨b1, b2, b3, b4⟩, m5, m6, mk⟩ := hH
  obtain ⟨k1, k2, k3, k4⟩ := hk
  refine kp_inv (kv_u2 (fb_D_fitsLong_236 m (nI i))) (fun j st => ∃ f3, st = (nI j, f3) ∧ md_N m f3 n (fun x => Sat x ∧ ∀ v, v < j → ld_1 c lm ym i v x)) _ n ?_ ?_ ((0 : Int32), f) ⟨f, rfl, md_congr hN (fun x => ⟨fun h => ⟨h, fun w hw => absurd hw (Nat.not_lt_zero _)⟩, fun h => h.1⟩)⟩
  · rintro j st hj ⟨f3, rfl, q4⟩
    refine Or.inl ?_
    show ∃ s2, fb_D_fitsLong_236 m (nI i) (nI j) f3 = some (.inl s2) ∧ _
    obtain ⟨i1, i2, i3, i4⟩ := k2 i hi
    obtain ⟨j1, j2, j3, j4⟩ := k2 j hj
    have ext : ∀ x : Nat → Int, (∀ v, v < j + 1 → ld_1 c lm ym i v x) ↔ (∀ v, v < j → ld_1 c lm ym i v x) ∧ ld_1 c lm ym i j x := fun x => ⟨fun h => ⟨fun v hv => h v (by omega), h j (by omega)⟩, fun ⟨h1, h2⟩ v hv => by
      by_cases z : v = j
      · rw [z]; exact h2
      · exact h1 v (by omega)⟩
    have skip : ¬ (lm i = lm j ∧ ym i < ym j) → ∃ s2, fj_D_fitsLong_371 (nI j) f3 = some (.inl s2) ∧ ∃ f4, s2 = (nI (j + 1), f4) ∧ md_N m f4 n (fun x => Sat x ∧ ∀ v, v < j + 1 → ld_1 c lm ym i v x) := by
      intro z
      refine ⟨(nI (j + 1), f3), by unfold fj_D_fitsLong_371; rw [nI_1], f3, rfl, md_congr q4 (fun x => ?_)⟩
      rw [ext]
      exact ⟨fun ⟨s1, s2⟩ => ⟨s1, s2, fun a b => absurd ⟨a, b⟩ z⟩, fun ⟨s1, s2, _⟩ => ⟨s1, s2⟩⟩
    unfold fb_D_fitsLong_236
    rw [k1, if_neg (nI_ge hj (by omega)), kp_gd _ (kp_in_nI (show i < 44 by omega) (by omega)), kp_gd _ (kp_in_nI (show j < 44 by omega) (by omega)), nI_clamp (show i < 2 ^ 31 by omega), nI_clamp (show j < 2 ^ 31 by omega), i1, j1, i2, j2]
    by_cases z1 : lm i = lm j
    rotate_left
    · rw [if_neg (fun w => z1 ((nI_eq (by omega) (by omega)).mp w))]
      exact skip (fun w => z1 w.1)
    rw [if_pos (by rw [z1])]
    by_cases z2 : ym i < ym j
    rotate_left
    · rw [if_neg (nI_nlt (by omega) (by omega))]
      exact skip (fun w => z2 w.2)
    rw [if_pos (nI_lt z2 (by omega)), pk_sub (by omega), kp_let]
    have g0 : fx_D_get (nI (lm i)) 0 m = some (c 3 (lm i)) := by
      show fx_D_get (nI (lm i)) (nI 0) m = _
      rw [sx_get i3 (by omega), show 10 + 6 * lm i + 0 = 10 + 6 * lm i by omega, mk _ (hKL i hi)]
    rw [g0, kp_b1]
    have ed : (nI (ym j - ym i)).toInt64.toInt = (ym j : Int) - (ym i : Int) := by rw [Int32.toInt_toInt64, nI_toInt (by omega)]; omega
    have go : ∀ lo hi : Int64, lo.toInt = lg_lo c (lm i) * ((ym j : Int) - (ym i : Int)) → hi.toInt = lg_hi c (lm i) * ((ym j : Int) - (ym i : Int)) → ∃ s2, fj_D_fitsLong_368 (nI j) (nI i) lo f3 hi = some (.inl s2) ∧ ∃ f4, s2 = (nI (j + 1), f4) ∧ md_N m f4 n (fun x => Sat x ∧ ∀ v, v < j + 1 → ld_1 c lm ym i v x) := by
      intro lo hi' g1 g2
      have g3 : -99 ≤ lg_lo c (lm i) ∧ lg_lo c (lm i) ≤ 99 := by unfold lg_lo; split <;> omega
      have g4 : -99 ≤ lg_hi c (lm i) ∧ lg_hi c (lm i) ≤ 99 := by unfold lg_hi; split <;> omega
      have g5 := lg_mb (d := (ym j : Int) - (ym i : Int)) g3.1 g3.2 (by omega) (by omega)
      have g6 := lg_mb (d := (ym j : Int) - (ym i : Int)) g4.1 g4.2 (by omega) (by omega)
      obtain ⟨f4, r1, r2⟩ := md_binds (lo := lo) (hi := hi') q4 hj hi (fun e => by rw [e] at z2; omega) (by omega) (by omega) (by omega) (by omega)
      unfold fj_D_fitsLong_368
      rw [r1, kp_b1]
      refine ⟨(nI (j + 1), f4), by unfold fj_D_fitsLong_371; rw [nI_1], f4, rfl, md_congr r2 (fun x => ?_)⟩
      rw [ext, g1, g2]
      exact ⟨fun ⟨⟨s1, s2⟩, s3⟩ => ⟨s1, s2, fun _ _ => s3⟩, fun ⟨s1, s2, s3⟩ => ⟨⟨s1, s2⟩, s3 z1 z2⟩⟩
    by_cases z7 : c 3 (lm i) = 7
    · rw [if_pos z7]
      unfold fj_D_fitsLong_322 fj_D_fitsLong_348
      rw [if_neg (by decide), if_neg (by decide)]
      refine go 0 0 ?_ ?_
      · unfold lg_lo; rw [if_pos z7, Int.zero_mul]; exact kl_zz
      · unfold lg_hi; rw [if_pos z7, Int.zero_mul]; exact kl_zz
    · rw [if_neg z7]
      unfold fj_D_fitsLong_322 fj_D_fitsLong_348
      rw [if_pos rfl, if_pos rfl, m5, m6]
      have g5 := lg_mb (d := (ym j : Int) - (ym i : Int)) b1 b2 (by omega) (by omega)
      have g6 := lg_mb (d := (ym j : Int) - (ym i : Int)) b3 b4 (by omega) (by omega)
      refine go _ _ ?_ ?_
      · unfold lg_lo; rw [if_neg z7, kl_mul (by rw [ed, Int32.toInt_toInt64, Int.mul_comm]; omega) (by rw [ed, Int32.toInt_toInt64, Int.mul_comm]; omega), ed, Int32.toInt_toInt64, Int.mul_comm]
      · unfold lg_hi; rw [if_neg z7, kl_mul (by rw [ed, Int32.toInt_toInt64, Int.mul_comm]; omega) (by rw [ed, Int32.toInt_toInt64, Int.mul_comm]; omega), ed, Int32.toInt_toInt64, Int.mul_comm]
  · rintro st ⟨f3, rfl, q4⟩
    refine ⟨f3, ?_, q4⟩
    show fb_D_fitsLong_236 m (nI i) (nI n) f3 = _
    unfold fb_D_fitsLong_236
    rw [k1, if_pos (nI_le (Nat.le_refl _) (by omega))]
theorem ld_growth (hH : lg_H c m L T) (hn : n ≤ 42) (hk : lk_M m n lm ym K) (hKL : ∀ i, i < n → lm i < L) {f : Nat → Int64} {Sat : (Nat → Int) → Prop} (hN : md_N m f n Sat) : ∃ f2, kv_loop (kv_u2 (fb_D_fitsLong_224 m)) ((0 : Int32), f) = some f2 ∧ md_N m f2 n (fun x => Sat x ∧ ∀ i j, i < n → j < n → ld_1 c lm ym i j x) := by
  refine kp_inv (kv_u2 (fb_D_fitsLong_224 m)) (fun i st => ∃ f3, st = (nI i, f3) ∧ md_N m f3 n (fun x => Sat x ∧ ∀ u, u < i → ∀ v, v < n → ld_1 c lm ym u v x)) _ n ?_ ?_ ((0 : Int32), f) ⟨f, rfl, md_congr hN (fun x => ⟨fun h => ⟨h, fun w hw => absurd hw (Nat.not_lt_zero _)⟩, fun h => h.1⟩)⟩
  · rintro i st hi ⟨f3, rfl, q4⟩
    refine Or.inl ?_
    obtain ⟨f4, r1, r2⟩ := ld_inner hH hn hk hKL hi q4
    refine ⟨(nI (i + 1), f4), ?_, f4, rfl, md_congr r2 (fun x => ⟨fun ⟨⟨s1, s2⟩, s3⟩ => ⟨s1, fun u hu v hv => ?_⟩, fun ⟨s1, s2⟩ => ⟨⟨s1, fun u hu => s2 u (by omega)⟩, s2 i (by omega)⟩⟩)⟩
    · show fb_D_fitsLong_224 m (nI i) f3 = _
      unfold fb_D_fitsLong_224
      rw [hk.1, if_neg (nI_ge hi (by omega)), r1]
      show some _ = _
      rw [nI_1]
    · by_cases z : u = i
      · rw [z]; exact s3 v hv
      · exact s2 u (by omega) v hv
  · rintro st ⟨f3, rfl, q4⟩
    refine ⟨f3, ?_, md_congr q4 (fun x => ⟨fun ⟨s1, s2⟩ => ⟨s1, fun i j hi hj => s2 i hi j hj⟩, fun ⟨s1, s2⟩ => ⟨s1, fun i hi j hj => s2 i j hi hj⟩⟩)⟩
    show fb_D_fitsLong_224 m (nI n) f3 = _
    unfold fb_D_fitsLong_224
    rw [hk.1, if_pos (nI_le (Nat.le_refl _) (by omega))]
theorem lg_K_lump (hH : lg_H c m L T) (hS : lqS L ys sa sb) (h0 : ∀ q, K0 q → q / 141 < L) : ∀ q, lg_K c K0 w0 ys sa sb T q → q / 141 < L := by
  rintro q (h | ⟨w, hw, -, h⟩)
  · exact h0 q h
  · obtain ⟨a, b, y, ha, hb, hab, hy, ca, cb, cy, -⟩ := yw_n (hH.2.2.2.2.1 w hw)
    have hL := hH.1
    have l1 := lq_mt_lt hS ha hy
    have l2 := lq_mt_lt hS hb hy
    rcases h with h | h
    · unfold lg_ka at h
      rw [ca, cy, nI_clamp (by omega), nI_clamp (by omega)] at h
      omega
    · unfold lg_kb at h
      rw [cb, cy, nI_clamp (by omega), nI_clamp (by omega)] at h
      omega
/-- the reference's long net, built -/
theorem ld_build (hH : lg_H c m L T) (hS : lqS L ys sa sb) (hq : lqM m w0 ys sa sb) {n0 : Nat} (hn0 : n0 ≤ 2) {lm0 ym0 : Nat → Nat} (h0 : lk_M m n0 lm0 ym0 K0) (hK0 : ∀ q, K0 q → q / 141 < L) (f : Nat → Int64) : ∃ m2 f2 n lm ym, (∀ b f3, fx_D_closes m2 f2 = some (b, f3) → fj_D_fitsLong_26 f m = some (b, m2, f3)) ∧ n ≤ 42 ∧ lk_M m2 n lm ym (lg_K c K0 w0 ys sa sb T) ∧ lm_fr m m2 ∧ md_N m2 f2 n (fun x => lw_S c w0 ys sa sb T n (fun i => 141 * lm i + ym i) x ∧ ∀ i j, i < n → j < n → ld_1 c lm ym i j x) := by
  obtain ⟨m3, n, lm, ym, g1, g2, g3, g4⟩ := ld_knots hH hS hq hn0 h0
  obtain ⟨f4, i1, i2⟩ := md_begins (m := m3) (n := n) (by omega) f
  have e89 : kv_st m3 84 13 (nI n) 85 = m 85 := by rw [kp_st_ne (by omega)]; exact g4.1 85 (by omega) (by omega) (by omega)
  have H5 := lg_H_fr hH (fun _ _ => rfl) e89
  have k5 : lk_M (kv_st m3 84 13 (nI n)) n lm ym (lg_K c K0 w0 ys sa sb T) := by
    obtain ⟨a1, a2, a3, a4⟩ := g3
    exact ⟨by rw [kp_st, if_pos ⟨rfl, rfl⟩], fun i hi => by rw [kp_st_ne (by omega), kp_st_ne (by omega)]; exact a2 i hi, a3, a4⟩
  have fr5 : lm_fr m (kv_st m3 84 13 (nI n)) := lm_fr_trans g4 ⟨fun q a _ _ => kp_st_ne a, fun j hj => by rw [kp_st, if_neg (fun w => hj w.2)]⟩
  obtain ⟨f6, j1, j2⟩ := ld_weigh H5 hS (lqM_fr hq fr5.2) g2 k5 i2
  have hKL : ∀ i, i < n → lm i < L := by
    intro i hi
    obtain ⟨a1, a2, a3, a4⟩ := g3
    have := lg_K_lump hH hS hK0 _ ((a4 _).mpr ⟨i, hi, rfl⟩)
    have := (a2 i hi).2.2.2
    omega
  obtain ⟨f7, l1, l2⟩ := ld_growth H5 g2 k5 hKL j2
  refine ⟨_, f7, n, lm, ym, fun b f3 hcl => ?_, g2, k5, fr5, l2⟩
  unfold fj_D_fitsLong_26
  rw [g1, kp_sb1, g3.1, i1, kp_b2, j1, kp_sb2, l1, kp_sb1, hcl, kp_b2]
end LG
