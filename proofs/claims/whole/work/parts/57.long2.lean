/-! ===== the long net: what is asked, and how each side builds it ===== -/
section LB
variable {n L T w0 ys sa sb : Nat} {c m c3 m3 : Nat → Nat → Int32} {kc lm ym : Nat → Nat} {K K0 : Nat → Prop}
def lq_mt (ys sa sb l y : Nat) : Nat := if y < ys then l else if l = sa then sb else if l = sb then sa else l
def lqC (c : Nat → Nat → Int32) (w0 ys sa sb : Nat) : Prop := ((w0 < 20 ∧ c 73 2 = nI w0) ∨ (w0 = 20 ∧ c 73 2 = -1)) ∧ ((ys < 141 ∧ c 73 3 = nI ys ∧ c 73 4 = nI sa ∧ c 73 5 = nI sb) ∨ (ys = 141 ∧ c 73 3 = 141))
def lqM (m : Nat → Nat → Int32) (w0 ys sa sb : Nat) : Prop := ((w0 < 20 ∧ m 84 17 = nI w0) ∨ (w0 = 20 ∧ m 84 17 = -4)) ∧ ((ys < 141 ∧ m 84 16 = nI ys ∧ m 84 14 = nI sa ∧ m 84 15 = nI sb) ∨ (ys = 141 ∧ m 84 14 = -4 ∧ m 84 15 = -4))
def lqS (L ys sa sb : Nat) : Prop := L ≤ 10 ∧ (ys < 141 → sa < L ∧ sb < L ∧ sa ≠ sb) ∧ ys ≤ 141
theorem lq_mt_lt (hS : lqS L ys sa sb) {l y : Nat} (hl : l < L) (hy : y < 141) : lq_mt ys sa sb l y < L := by
  unfold lq_mt
  obtain ⟨h1, h2, h3⟩ := hS
  by_cases z : y < ys
  · rw [if_pos z]; exact hl
  · have := h2 (by omega)
    rw [if_neg z]
    split
    · exact this.2.1
    · split
      · exact this.1
      · exact hl
theorem lq_mt_ne (hS : lqS L ys sa sb) {a b y : Nat} (hab : a ≠ b) (hy : y < 141) : lq_mt ys sa sb a y ≠ lq_mt ys sa sb b y := by
  unfold lq_mt
  obtain ⟨h1, h2, h3⟩ := hS
  by_cases z : y < ys
  · rw [if_pos z, if_pos z]; exact hab
  · have := h2 (by omega)
    rw [if_neg z, if_neg z]
    split <;> split <;> (try split) <;> (try split) <;> omega
theorem lq_said {w : Nat} (h : lqC c w0 ys sa sb) (hw : w < 20) : fx_LongNet_isSaid (nI w) c = some (decide (c 16 w = 0 ∧ w ≠ w0)) := by
  unfold fx_LongNet_isSaid
  have e : (nI w = c 73 2) ↔ w = w0 := by
    rcases h.1 with ⟨a, b⟩ | ⟨a, b⟩
    · rw [b, nI_eq (by omega) (by omega)]
    · rw [b, kp_eq, nI_toInt (by omega), ki_m1]; omega
  by_cases z : w = w0
  · rw [if_pos (e.mpr z), decide_eq_false (fun q => q.2 z)]
  · rw [if_neg (fun q => z (e.mp q)), kp_gd _ (kp_in_nI hw (by omega)), nI_clamp (by omega)]
    by_cases z2 : c 16 w = 0
    · rw [if_pos z2, decide_eq_true ⟨z2, z⟩]
    · rw [if_neg z2, decide_eq_false (fun q => z2 q.1)]
theorem lq_asked {w : Nat} (h : lqM m w0 ys sa sb) (hw : w < 20) (h5 : m 85 (85 + 6 * w) = c 16 w) : fx_D_isAsked (nI w) m = some (decide (c 16 w = 0 ∧ w ≠ w0)) := by
  unfold fx_D_isAsked
  have s5 : fx_D_say (nI w) 5 m = some (c 16 w) := by
    show fx_D_say (nI w) (nI 5) m = _
    rw [sx_say hw (by omega), show 80 + 6 * w + 5 = 85 + 6 * w by omega, h5]
  have e : (nI w = m 84 17) ↔ w = w0 := by
    rcases h.1 with ⟨a, b⟩ | ⟨a, b⟩
    · rw [b, nI_eq (by omega) (by omega)]
    · rw [b, kp_eq, nI_toInt (by omega), ki_m4]; omega
  rw [s5, kp_b1]
  by_cases z2 : c 16 w = 0
  · rw [if_pos z2]
    by_cases z : w = w0
    · rw [if_pos (e.mpr z), decide_eq_false (fun q => q.2 z)]
    · rw [if_neg (fun q => z (e.mp q)), decide_eq_true ⟨z2, z⟩]
  · rw [if_neg z2, decide_eq_false (fun q => z2 q.1)]
theorem lq_meant (h : lqC c w0 ys sa sb) (hS : lqS L ys sa sb) {l y : Nat} (hl : l < L) (hy : y < 141) : fx_LongNet_meant (nI l) (nI y) c = some (nI (lq_mt ys sa sb l y)) := by
  unfold fx_LongNet_meant lq_mt
  obtain ⟨h1, h2, h3⟩ := hS
  rcases h.2 with ⟨a, b1, b2, b3⟩ | ⟨a, b1⟩
  · have := h2 a
    rw [b1, b2, b3]
    by_cases z : y < ys
    · rw [if_neg (nI_ge z (by omega)), if_pos z]
    · rw [if_pos (nI_le (by omega) (by omega)), if_neg z]
      by_cases z1 : l = sa
      · rw [if_pos (by rw [z1]), if_pos z1]
      · rw [if_neg (fun q => z1 ((nI_eq (by omega) (by omega)).mp q)), if_neg z1]
        by_cases z2 : l = sb
        · rw [if_pos (by rw [z2]), if_pos z2]
        · rw [if_neg (fun q => z2 ((nI_eq (by omega) (by omega)).mp q)), if_neg z2]
  · have b2 : ¬ (141 : Int32) ≤ nI y := nI_ge (b := 141) hy (by omega)
    rw [b1, if_neg b2, if_pos (by omega)]
theorem lq_label (h : lqM m w0 ys sa sb) (hS : lqS L ys sa sb) {l y : Nat} (hl : l < L) (hy : y < 141) : fx_D_labelOf (nI l) (nI y) m = some (nI (lq_mt ys sa sb l y)) := by
  unfold fx_D_labelOf lq_mt fj_D_labelOf_28
  obtain ⟨h1, h2, h3⟩ := hS
  rcases h.2 with ⟨a, b1, b2, b3⟩ | ⟨a, b2, b3⟩
  · have := h2 a
    rw [b1, b2, b3]
    by_cases z : y < ys
    · rw [if_pos (nI_lt z (by omega)), if_pos z]
    · rw [if_neg (nI_nlt (by omega) (by omega)), if_neg z]
      by_cases z1 : l = sa
      · rw [if_pos (by rw [z1]), if_pos (by rw [z1]), if_pos z1]
      · have n1 : ¬ nI l = nI sa := fun q => z1 ((nI_eq (by omega) (by omega)).mp q)
        rw [if_neg n1, if_neg z1]
        by_cases z2 : l = sb
        · rw [if_pos (by rw [z2]), if_neg n1, if_pos z2]
        · rw [if_neg (fun q => z2 ((nI_eq (by omega) (by omega)).mp q)), if_neg z2]
  · have n1 : ¬ nI l = (-4 : Int32) := by rw [kp_eq, nI_toInt (by omega), ki_m4]; omega
    rw [b2, b3, if_neg n1, if_neg n1, if_pos (show y < ys by omega)]
    split <;> rfl
def lg_ka (c : Nat → Nat → Int32) (ys sa sb w : Nat) : Nat := 141 * lq_mt ys sa sb (c 12 w).toNatClampNeg (c 11 w).toNatClampNeg + (c 11 w).toNatClampNeg
def lg_kb (c : Nat → Nat → Int32) (ys sa sb w : Nat) : Nat := 141 * lq_mt ys sa sb (c 13 w).toNatClampNeg (c 11 w).toNatClampNeg + (c 11 w).toNatClampNeg
def lg_K (c : Nat → Nat → Int32) (K0 : Nat → Prop) (w0 ys sa sb T : Nat) (q : Nat) : Prop := K0 q ∨ ∃ w, w < T ∧ (c 16 w = 0 ∧ w ≠ w0) ∧ (q = lg_ka c ys sa sb w ∨ q = lg_kb c ys sa sb w)
theorem lg_K_no (h : ¬ (c 16 T = 0 ∧ T ≠ w0)) (q : Nat) : lg_K c K0 w0 ys sa sb T q ↔ lg_K c K0 w0 ys sa sb (T + 1) q := by
  unfold lg_K
  constructor
  · rintro (w | ⟨w, w1, w2, w3⟩)
    · exact Or.inl w
    · exact Or.inr ⟨w, by omega, w2, w3⟩
  · rintro (w | ⟨w, w1, w2, w3⟩)
    · exact Or.inl w
    · by_cases z : w = T
      · rw [z] at w2; exact absurd w2 h
      · exact Or.inr ⟨w, by omega, w2, w3⟩
theorem lg_K_yes (h : c 16 T = 0 ∧ T ≠ w0) (q : Nat) : ((lg_K c K0 w0 ys sa sb T q ∨ q = lg_ka c ys sa sb T) ∨ q = lg_kb c ys sa sb T) ↔ lg_K c K0 w0 ys sa sb (T + 1) q := by
  unfold lg_K
  constructor
  · rintro (((w | ⟨w, w1, w2, w3⟩) | w) | w)
    · exact Or.inl w
    · exact Or.inr ⟨w, by omega, w2, w3⟩
    · exact Or.inr ⟨T, by omega, h, Or.inl w⟩
    · exact Or.inr ⟨T, by omega, h, Or.inr w⟩
  · rintro (w | ⟨w, w1, w2, w3⟩)
    · exact Or.inl (Or.inl (Or.inl w))
    · by_cases z : w = T
      · rw [z] at w3
        rcases w3 with w3 | w3
        · exact Or.inl (Or.inr w3)
        · exact Or.inr w3
      · exact Or.inl (Or.inl (Or.inr ⟨w, by omega, w2, w3⟩))
/-- the years and lumps of a weighing, as numbers -/
theorem yw_n {w : Nat} (h : yw c m L w) : ∃ a b y : Nat, a < L ∧ b < L ∧ a ≠ b ∧ y < 141 ∧ c 12 w = nI a ∧ c 13 w = nI b ∧ c 11 w = nI y ∧ m 85 (81 + 6 * w) = nI a ∧ m 85 (82 + 6 * w) = nI b ∧ m 85 (80 + 6 * w) = nI y ∧ m 85 (85 + 6 * w) = c 16 w := by
  obtain ⟨a, b, ha, hb, hab, ca, cb, m1, m2, m0, -, -, m5, -, -, -, y1, y2⟩ := h
  obtain ⟨y, e1, e2, e3⟩ := kp_nat y1
  exact ⟨a, b, y, ha, hb, hab, by omega, ca, cb, e1, m1, m2, m0.trans e1, m5⟩
theorem lqC_fr (h : lqC c w0 ys sa sb) (e : ∀ j, j ≠ 1 → c3 73 j = c 73 j) : lqC c3 w0 ys sa sb := by
  unfold lqC at h ⊢
  rw [e 2 (by omega), e 3 (by omega), e 4 (by omega), e 5 (by omega)]
  exact h
theorem lqM_fr (h : lqM m w0 ys sa sb) (e : ∀ j, j ≠ 13 → m3 84 j = m 84 j) : lqM m3 w0 ys sa sb := by
  unfold lqM at h ⊢
  rw [e 14 (by omega), e 15 (by omega), e 16 (by omega), e 17 (by omega)]
  exact h
/-- first the class's knots -/
theorem lb_knots (hS : lqS L ys sa sb) (hq : lqC c w0 ys sa sb) (hT : T ≤ 20) (hc : c 10 7 = nI T) (hw : ∀ w, w < T → yw c m L w) {n0 : Nat} (hn0 : n0 ≤ 2) {kc0 : Nat → Nat} (h0 : lk_C c n0 kc0 K0) : ∃ c2 n kc, kv_loop (kv_u2 fb_LongNet_build_8) ((0 : Int32), c) = some c2 ∧ n ≤ 42 ∧ lk_C c2 n kc (lg_K c K0 w0 ys sa sb T) ∧ (∀ q, q ≠ 73 → q ≠ 74 → c2 q = c q) ∧ ∀ j, j ≠ 1 → c2 73 j = c 73 j := by
  have key := kp_inv (kv_u2 fb_LongNet_build_8) (fun i st => ∃ c3 n kc, st = (nI i, c3) ∧ n ≤ n0 + 2 * i ∧ lk_C c3 n kc (lg_K c K0 w0 ys sa sb i) ∧ (∀ q, q ≠ 73 → q ≠ 74 → c3 q = c q) ∧ ∀ j, j ≠ 1 → c3 73 j = c 73 j) (fun c2 => ∃ n kc, n ≤ 42 ∧ lk_C c2 n kc (lg_K c K0 w0 ys sa sb T) ∧ (∀ q, q ≠ 73 → q ≠ 74 → c2 q = c q) ∧ ∀ j, j ≠ 1 → c2 73 j = c 73 j) T ?_ ?_ ((0 : Int32), c) ⟨c, n0, kc0, rfl, by omega, lk_congr h0 (fun q => ⟨fun w => Or.inl w, fun w => by
    rcases w with w | ⟨w, w1, -⟩
    · exact w
    · exact absurd w1 (Nat.not_lt_zero _)⟩), fun _ _ _ => rfl, fun _ _ => rfl⟩
  · obtain ⟨c2, h1, n, kc, h2⟩ := key
    exact ⟨c2, n, kc, h1, h2⟩
  · rintro i st hi ⟨c3, n, kc, rfl, hn, q1, q2, q3⟩
    refine Or.inl ?_
    show ∃ s2, fb_LongNet_build_8 (nI i) c3 = some (.inl s2) ∧ _
    obtain ⟨a, b, y, ha, hb, hab, hy, ca, cb, cy, -⟩ := yw_n (hw i hi)
    have i20 : i < 20 := by omega
    have sd := lq_said (w := i) (lqC_fr hq q3) i20
    rw [q2 16 (by omega) (by omega)] at sd
    have hL := hS.1
    have ka : lg_ka c ys sa sb i = 141 * lq_mt ys sa sb a y + y := by unfold lg_ka; rw [ca, cy, nI_clamp (by omega), nI_clamp (by omega)]
    have kb : lg_kb c ys sa sb i = 141 * lq_mt ys sa sb b y + y := by unfold lg_kb; rw [cb, cy, nI_clamp (by omega), nI_clamp (by omega)]
    unfold fb_LongNet_build_8
    rw [q2 10 (by omega) (by omega), hc, if_neg (nI_ge hi (by omega)), sd, kp_b1]
    by_cases z : c 16 i = 0 ∧ i ≠ w0
    · rw [decide_eq_true z, if_pos rfl, kp_gd _ (kp_in_nI i20 (by omega)), nI_clamp (by omega), kp_let, q2 11 (by omega) (by omega), q2 12 (by omega) (by omega), ca, cy, lq_meant (lqC_fr hq q3) hS ha hy, kp_b1]
      obtain ⟨c4, n4, kc4, e1, ⟨e2, e3⟩, e4, e5, e6⟩ := lk_add q1 (by omega) (l := lq_mt ys sa sb a y) (y := y) (by have := lq_mt_lt hS ha hy; omega) hy
      have fr4 : ∀ j, j ≠ 1 → c4 73 j = c 73 j := fun j hj => by rw [e6 j hj, q3 j hj]
      rw [e1, kp_b1, e5 13 (by omega) (by omega), q2 13 (by omega) (by omega), cb, lq_meant (lqC_fr hq fr4) hS hb hy, kp_b1]
      obtain ⟨c5, n5, kc5, g1, ⟨g2, g3⟩, g4, g5, g6⟩ := lk_add e4 (by omega) (l := lq_mt ys sa sb b y) (y := y) (by have := lq_mt_lt hS hb hy; omega) hy
      rw [g1, kp_b1]
      refine ⟨(nI (i + 1), c5), by unfold fj_LongNet_build_74; rw [nI_1], c5, n5, kc5, rfl, by omega, lk_congr g4 (fun q => ?_), fun q a1 a2 => by rw [g5 q a1 a2, e5 q a1 a2, q2 q a1 a2], fun j hj => by rw [g6 j hj, fr4 j hj]⟩
      rw [← lg_K_yes z, ka, kb]
    · rw [decide_eq_false z, if_neg (by decide)]
      exact ⟨(nI (i + 1), c3), by unfold fj_LongNet_build_74; rw [nI_1], c3, n, kc, rfl, by omega, lk_congr q1 (fun q => lg_K_no z q), q2, q3⟩
  · rintro st ⟨c3, n, kc, rfl, hn, q1, q2, q3⟩
    refine ⟨c3, ?_, n, kc, by omega, q1, q2, q3⟩
    show fb_LongNet_build_8 (nI T) c3 = _
    unfold fb_LongNet_build_8
    rw [q2 10 (by omega) (by omega), hc, if_pos (nI_le (Nat.le_refl _) (by omega))]
/-- what weighings ask of knots that bear keys -/
def lw_S (c : Nat → Nat → Int32) (w0 ys sa sb T n : Nat) (kf : Nat → Nat) (x : Nat → Int) : Prop := ∀ w, w < T → (c 16 w = 0 ∧ w ≠ w0) → ∀ i j, i < n → j < n → kf i = lg_ka c ys sa sb w → kf j = lg_kb c ys sa sb w → (c 14 w).toInt - (c 15 w).toInt ≤ x i - x j ∧ x i - x j ≤ (c 14 w).toInt + (c 15 w).toInt
theorem lw_no {kf : Nat → Nat} (h : ¬ (c 16 T = 0 ∧ T ≠ w0)) (x : Nat → Int) : lw_S c w0 ys sa sb T n kf x ↔ lw_S c w0 ys sa sb (T + 1) n kf x := by
  constructor
  · intro q w hw ha
    by_cases z : w = T
    · rw [z] at ha; exact absurd ha h
    · exact q w (by omega) ha
  · exact fun q w hw => q w (by omega)
theorem lw_yes {kf : Nat → Nat} (h : c 16 T = 0 ∧ T ≠ w0) (hinj : ∀ i j, i < n → j < n → kf i = kf j → i = j) {i j : Nat} (hi : i < n) (hj : j < n) (h1 : kf i = lg_ka c ys sa sb T) (h2 : kf j = lg_kb c ys sa sb T) (x : Nat → Int) : (lw_S c w0 ys sa sb T n kf x ∧ (c 14 T).toInt - (c 15 T).toInt ≤ x i - x j ∧ x i - x j ≤ (c 14 T).toInt + (c 15 T).toInt) ↔ lw_S c w0 ys sa sb (T + 1) n kf x := by
  constructor
  · rintro ⟨q, q2⟩ w hw ha u v hu hv e1 e2
    by_cases z : w = T
    · subst z
      have a1 : u = i := hinj u i hu hi (by rw [e1, h1])
      have a2 : v = j := hinj v j hv hj (by rw [e2, h2])
      rw [a1, a2]; exact q2
    · exact q w (by omega) ha u v hu hv e1 e2
  · intro q
    exact ⟨fun w hw => q w (by omega), q T (by omega) h i j hi hj h1 h2⟩
theorem lk_inj (h : lk_C c n kc K) : ∀ i j, i < n → j < n → kc i = kc j → i = j := by
  intro i j hi hj e
  rcases Nat.lt_trichotomy i j with w | w | w
  · have := h.2.2.1 i j w hj; omega
  · exact w
  · have := h.2.2.1 j i w hi; omega
theorem lk_C_fr (h : lk_C c n kc K) (e : ∀ q, 71 < q → c3 q = c q) : lk_C c3 n kc K := by
  unfold lk_C at h ⊢
  rw [e 73 (by omega), e 74 (by omega)]
  exact h
/-- then the class's edges by weighings -/
theorem lb_weigh (hS : lqS L ys sa sb) (hq : lqC c w0 ys sa sb) (hT : T ≤ 20) (hc : c 10 7 = nI T) (hw : ∀ w, w < T → yw c m L w) (hn : n ≤ 42) (hk : lk_C c n kc (lg_K c K0 w0 ys sa sb T)) (hN : ne_N c n 0 (fun _ => True)) : ∃ c2 e, kv_loop (kv_u2 fb_LongNet_build_91) ((0 : Int32), c) = some c2 ∧ e ≤ 2 * T ∧ (∀ q, q < 68 ∨ 71 < q → c2 q = c q) ∧ ne_N c2 n e (lw_S c w0 ys sa sb T n kc) := by
  have key := kp_inv (kv_u2 fb_LongNet_build_91) (fun i st => ∃ c3 e, st = (nI i, c3) ∧ e ≤ 2 * i ∧ (∀ q, q < 68 ∨ 71 < q → c3 q = c q) ∧ ne_N c3 n e (lw_S c w0 ys sa sb i n kc)) (fun c2 => ∃ e, e ≤ 2 * T ∧ (∀ q, q < 68 ∨ 71 < q → c2 q = c q) ∧ ne_N c2 n e (lw_S c w0 ys sa sb T n kc)) T ?_ ?_ ((0 : Int32), c) ⟨c, 0, rfl, by omega, fun _ _ => rfl, ne_congr hN (fun x => ⟨fun _ w hw => absurd hw (Nat.not_lt_zero _), fun _ => trivial⟩)⟩
  · obtain ⟨c2, h1, e, h2⟩ := key
    exact ⟨c2, e, h1, h2⟩
  · rintro i st hi ⟨c3, e, rfl, he, q2, q4⟩
    refine Or.inl ?_
    show ∃ s2, fb_LongNet_build_91 (nI i) c3 = some (.inl s2) ∧ _
    obtain ⟨a, b, y, ha, hb, hab, hy, ca, cb, cy, -⟩ := yw_n (hw i hi)
    have i20 : i < 20 := by omega
    have hq3 : lqC c3 w0 ys sa sb := lqC_fr hq (fun j _ => by rw [q2 73 (by omega)])
    have sd := lq_said (w := i) hq3 i20
    rw [q2 16 (by omega)] at sd
    have hL := hS.1
    have ka : lg_ka c ys sa sb i = 141 * lq_mt ys sa sb a y + y := by unfold lg_ka; rw [ca, cy, nI_clamp (by omega), nI_clamp (by omega)]
    have kb : lg_kb c ys sa sb i = 141 * lq_mt ys sa sb b y + y := by unfold lg_kb; rw [cb, cy, nI_clamp (by omega), nI_clamp (by omega)]
    unfold fb_LongNet_build_91
    rw [q2 10 (by omega), hc, if_neg (nI_ge hi (by omega)), sd, kp_b1]
    by_cases z : c 16 i = 0 ∧ i ≠ w0
    · rw [decide_eq_true z, if_pos rfl]
      have hk3 : lk_C c3 n kc (lg_K c K0 w0 ys sa sb T) := lk_C_fr hk (fun q hq => q2 q (Or.inr hq))
      obtain ⟨pa, pa1, pa2, pa3⟩ := lk_at hk3 hn (l := lq_mt ys sa sb a y) (y := y) (by have := lq_mt_lt hS ha hy; omega) hy (Or.inr ⟨i, hi, z, Or.inl ka.symm⟩)
      obtain ⟨pb, pb1, pb2, pb3⟩ := lk_at hk3 hn (l := lq_mt ys sa sb b y) (y := y) (by have := lq_mt_lt hS hb hy; omega) hy (Or.inr ⟨i, hi, z, Or.inr kb.symm⟩)
      obtain ⟨lo, hi', g1, g2, g3, g4⟩ := yk_lo i20 (yw_fr (hw i hi) (fun q a b => q2 q (by omega)) rfl : yw c3 m L i)
      obtain ⟨-, -, -, -, -, -, -, -, -, -, -, -, -, h14, h15, -⟩ := hw i hi
      rw [q2 14 (by omega), q2 15 (by omega)] at g3 g4
      obtain ⟨c4, r1, r2, r3⟩ := ne_bound (lo := lo) (hi := hi') q4 (by omega) pa1 pb1 (by omega) (by omega) (by omega) (by omega)
      have eb : fx_LongNet_boundByWeighing (nI i) c3 = some c4 := by
        unfold fx_LongNet_boundByWeighing
        rw [kp_gd _ (kp_in_nI i20 (by omega)), nI_clamp (by omega), kp_let, q2 11 (by omega), q2 12 (by omega), q2 13 (by omega), ca, cb, cy, lq_meant hq3 hS ha hy, kp_b1, pa3, kp_b1, lq_meant hq3 hS hb hy, kp_b1, pb3, kp_b1, g1, kp_b1, g2, kp_b1, r1, kp_b1]
      rw [eb, kp_b1]
      refine ⟨(nI (i + 1), c4), by unfold fj_LongNet_build_118; rw [nI_1], c4, e + 2, rfl, by omega, fun q hq => by rw [r2.1 q hq, q2 q hq], ne_congr r3 (fun x => ?_)⟩
      rw [g3, g4]
      exact lw_yes z (lk_inj hk) pa1 pb1 (pa2.trans ka.symm) (pb2.trans kb.symm) x
    · rw [decide_eq_false z, if_neg (by decide)]
      exact ⟨(nI (i + 1), c3), by unfold fj_LongNet_build_118; rw [nI_1], c3, e, rfl, by omega, q2, ne_congr q4 (lw_no z)⟩
  · rintro st ⟨c3, e, rfl, he, q2, q4⟩
    refine ⟨c3, ?_, e, by omega, q2, q4⟩
    show fb_LongNet_build_91 (nI T) c3 = _
    unfold fb_LongNet_build_91
    rw [q2 10 (by omega), hc, if_pos (nI_le (Nat.le_refl _) (by omega))]
end LB
