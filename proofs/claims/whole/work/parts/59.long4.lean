/-! ===== the long net: the same on both sides ===== -/
section LT
variable {n n2 L T w0 ys sa sb : Nat} {c m c2 m2 : Nat → Nat → Int32} {kc lm ym : Nat → Nat} {K : Nat → Prop}
theorem lt_chain {x : Nat → Int} (hk : ∀ i j, i < j → j < n → kc i < kc j) (h : lc_G c kc n (n - 1) x) : ∀ d k, k + d < n → kc k / 141 = kc (k + d) / 141 → lg_lo c (kc k / 141) * ((kc (k + d) : Int) - (kc k : Int)) ≤ x (k + d) - x k ∧ x (k + d) - x k ≤ lg_hi c (kc k / 141) * ((kc (k + d) : Int) - (kc k : Int)) := by
  intro d
  induction d with
  | zero =>
    intro k _ _
    have : ((kc (k + 0) : Int) - (kc k : Int)) = 0 := by rw [Nat.add_zero]; omega
    rw [this, Int.mul_zero, Int.mul_zero, Nat.add_zero]
    omega
  | succ d ih =>
    intro k hk2 he
    have m1 : kc k ≤ kc (k + d) := by
      by_cases z : d = 0
      · subst z; exact Nat.le_refl _
      · exact Nat.le_of_lt (hk k (k + d) (by omega) (by omega))
    have m2 := hk (k + d) (k + (d + 1)) (by omega) hk2
    have h1 := ih k (by omega) (by omega)
    have h2 := h (k + d) (by omega) (by omega) (by rw [show k + d + 1 = k + (d + 1) by omega]; omega)
    rw [show k + d + 1 = k + (d + 1) by omega, show kc (k + d) / 141 = kc k / 141 by omega] at h2
    have e1 : ∀ g : Int, g * ((kc (k + (d + 1)) : Int) - (kc k : Int)) = g * ((kc (k + d) : Int) - (kc k : Int)) + g * ((kc (k + (d + 1)) : Int) - (kc (k + d) : Int)) := by
      intro g
      rw [← Int.mul_add]
      congr 1
      omega
    rw [e1, e1]
    omega
def lt_C (c : Nat → Nat → Int32) (w0 ys sa sb T n : Nat) (kc : Nat → Nat) (x : Nat → Int) : Prop := lw_S c w0 ys sa sb T n kc x ∧ lc_G c kc n (n - 1) x
def lt_M (c : Nat → Nat → Int32) (w0 ys sa sb T n : Nat) (lm ym : Nat → Nat) (x : Nat → Int) : Prop := lw_S c w0 ys sa sb T n (fun i => 141 * lm i + ym i) x ∧ ∀ i j, i < n → j < n → ld_1 c lm ym i j x
theorem lt_both (hC : lk_C c2 n kc K) (hM : lk_M m2 n2 lm ym K) : ((∃ x, lt_C c w0 ys sa sb T n kc x) ↔ ∃ x, lt_M c w0 ys sa sb T n2 lm ym x) ∧ ∀ a b a2 b2, a < n → b < n → a2 < n2 → b2 < n2 → kc a = 141 * lm a2 + ym a2 → kc b = 141 * lm b2 + ym b2 → (∀ g, nt_g (lt_C c w0 ys sa sb T n kc) a b g → nt_g (lt_M c w0 ys sa sb T n2 lm ym) a2 b2 g) ∧ (nt_u (lt_C c w0 ys sa sb T n kc) a b → nt_u (lt_M c w0 ys sa sb T n2 lm ym) a2 b2) := by
  have inj := lk_inj hC
  obtain ⟨-, -, k3, k4, k5⟩ := hC
  obtain ⟨-, j2, j3, j4⟩ := hM
  have c1 : ∀ q, ∃ p, K q → p < n ∧ kc p = q := by
    intro q
    by_cases z : K q
    · obtain ⟨i, i1, i2⟩ := (k4 q).mp z
      exact ⟨i, fun _ => ⟨i1, i2⟩⟩
    · exact ⟨0, fun w => absurd w z⟩
  have d1 : ∀ q, ∃ p, K q → p < n2 ∧ 141 * lm p + ym p = q := by
    intro q
    by_cases z : K q
    · obtain ⟨i, i1, i2⟩ := (j4 q).mp z
      exact ⟨i, fun _ => ⟨i1, i2⟩⟩
    · exact ⟨0, fun w => absurd w z⟩
  obtain ⟨pos, hpos⟩ := Classical.axiomOfChoice c1
  obtain ⟨idx, hidx⟩ := Classical.axiomOfChoice d1
  have Kc : ∀ i, i < n → K (kc i) := fun i hi => (k4 _).mpr ⟨i, hi, rfl⟩
  have Km : ∀ i, i < n2 → K (141 * lm i + ym i) := fun i hi => (j4 _).mpr ⟨i, hi, rfl⟩
  have phi : ∀ x, lt_C c w0 ys sa sb T n kc x → lt_M c w0 ys sa sb T n2 lm ym (fun i => x (pos (141 * lm i + ym i))) := by
    rintro x ⟨h1, h2⟩
    refine ⟨fun w hw ha i j hi hj e1 e2 => ?_, fun i j hi hj e1 e2 => ?_⟩
    · obtain ⟨p1, p2⟩ := hpos _ (Km i hi)
      obtain ⟨q1, q2⟩ := hpos _ (Km j hj)
      exact h1 w hw ha _ _ p1 q1 (p2.trans e1) (q2.trans e2)
    · obtain ⟨p1, p2⟩ := hpos _ (Km i hi)
      obtain ⟨q1, q2⟩ := hpos _ (Km j hj)
      have y1 := (j2 i hi).2.2.2
      have y2 := (j2 j hj).2.2.2
      have hlt : pos (141 * lm i + ym i) < pos (141 * lm j + ym j) := by
        rcases Nat.lt_trichotomy (pos (141 * lm i + ym i)) (pos (141 * lm j + ym j)) with w | w | w
        · exact w
        · rw [w] at p2; omega
        · have := k3 _ _ w p1; omega
      have ch := lt_chain k3 h2 (pos (141 * lm j + ym j) - pos (141 * lm i + ym i)) (pos (141 * lm i + ym i)) (by omega)
      rw [show pos (141 * lm i + ym i) + (pos (141 * lm j + ym j) - pos (141 * lm i + ym i)) = pos (141 * lm j + ym j) by omega, p2, q2] at ch
      have ch := ch (by omega)
      rw [show (141 * lm i + ym i) / 141 = lm i by omega, show (((141 * lm j + ym j : Nat) : Int) - ((141 * lm i + ym i : Nat) : Int)) = (ym j : Int) - (ym i : Int) by omega] at ch
      exact ch
  have psi : ∀ x, lt_M c w0 ys sa sb T n2 lm ym x → lt_C c w0 ys sa sb T n kc (fun i => x (idx (kc i))) := by
    rintro x ⟨h1, h2⟩
    refine ⟨fun w hw ha i j hi hj e1 e2 => ?_, fun j hj1 hj e1 => ?_⟩
    · obtain ⟨p1, p2⟩ := hidx _ (Kc i hi)
      obtain ⟨q1, q2⟩ := hidx _ (Kc j hj)
      exact h1 w hw ha _ _ p1 q1 (p2.trans e1) (q2.trans e2)
    · obtain ⟨p1, p2⟩ := hidx _ (Kc j (by omega))
      obtain ⟨q1, q2⟩ := hidx _ (Kc (j + 1) hj)
      have y1 := (j2 _ p1).2.2.2
      have y2 := (j2 _ q1).2.2.2
      have := k3 j (j + 1) (by omega) hj
      have h3 := h2 _ _ p1 q1 (by omega) (by omega)
      rw [show lm (idx (kc j)) = kc j / 141 by omega, show ((ym (idx (kc (j + 1))) : Int) - (ym (idx (kc j)) : Int)) = (kc (j + 1) : Int) - (kc j : Int) by omega] at h3
      exact h3
  refine ⟨⟨fun ⟨x, hx⟩ => ⟨_, phi x hx⟩, fun ⟨x, hx⟩ => ⟨_, psi x hx⟩⟩, fun a b a2 b2 ha hb ha2 hb2 ea eb => ?_⟩
  have pa : pos (141 * lm a2 + ym a2) = a := by
    have := hpos _ (Km a2 ha2)
    exact inj _ _ this.1 ha (by rw [this.2, ea])
  have pb : pos (141 * lm b2 + ym b2) = b := by
    have := hpos _ (Km b2 hb2)
    exact inj _ _ this.1 hb (by rw [this.2, eb])
  have qa : idx (kc a) = a2 := by
    have := hidx _ (Kc a ha)
    exact j3 _ _ this.1 ha2 (by rw [this.2, ea])
  have qb : idx (kc b) = b2 := by
    have := hidx _ (Kc b hb)
    exact j3 _ _ this.1 hb2 (by rw [this.2, eb])
  refine ⟨fun g ⟨⟨x, hx, hg⟩, hub⟩ => ⟨⟨_, phi x hx, ?_⟩, fun y hy => ?_⟩, fun hu M => ?_⟩
  · show x (pos (141 * lm a2 + ym a2)) - x (pos (141 * lm b2 + ym b2)) = g
    rw [pa, pb]; exact hg
  · have h1 : y (idx (kc a)) - y (idx (kc b)) ≤ g := hub _ (psi y hy)
    rw [qa, qb] at h1
    exact h1
  · obtain ⟨x, hx, hM⟩ := hu M
    refine ⟨_, phi x hx, ?_⟩
    show M ≤ x (pos (141 * lm a2 + ym a2)) - x (pos (141 * lm b2 + ym b2))
    rw [pa, pb]; exact hM
theorem lt_same {b b0 : Bool} {P Q : Prop} (h1 : b = true ↔ P) (h2 : P ↔ Q) (h3 : b0 = true ↔ Q) : b = b0 := by
  have := h1.trans (h2.trans h3.symm)
  cases b <;> cases b0 <;> simp_all
/-- whether the long net fits: on both sides the same -/
theorem lt_fits (hH : lg_H c m L T) (hS : lqS L ys sa sb) (hqC : lqC c w0 ys sa sb) (h1 : c 73 1 = 0) (hqM : lqM m w0 ys sa sb) (f : Nat → Int64) : ∃ b c2 c3 m2 f3, fx_LongNet_build c = some c2 ∧ fx_Net_holds c2 = some (b, c3) ∧ (∀ q, q < 68 ∨ 74 < q → c3 q = c q) ∧ fx_D_fitsLongNow m f = some (b, m2, f3) ∧ lm_fr m m2 := by
  obtain ⟨c2, n, e, kc, g1, g2, g3, g4, g5⟩ := lb_build (K0 := fun _ => False) hH hS hqC (n0 := 0) (by omega) (kc0 := fun _ => 0) ⟨h1, fun i hi => absurd hi (Nat.not_lt_zero _), fun i j _ hj => absurd hj (Nat.not_lt_zero _), fun q => ⟨False.elim, fun ⟨i, hi, _⟩ => absurd hi (Nat.not_lt_zero _)⟩, fun i hi => absurd hi (Nat.not_lt_zero _)⟩
  have fr0 : lm_fr m (kv_st m 84 13 0) := ⟨fun q a _ _ => kp_st_ne a, fun j hj => by rw [kp_st, if_neg (fun w => hj w.2)]⟩
  have H0 := lg_H_fr hH (fun _ _ => rfl) (m3 := kv_st m 84 13 0) (kp_st_ne (by omega))
  obtain ⟨m2, f2, n2, lm, ym, i1, i2, i3, i4, i5⟩ := ld_build (K0 := fun _ => False) H0 hS (lqM_fr hqM fr0.2) (n0 := 0) (by omega) (lm0 := fun _ => 0) (ym0 := fun _ => 0) ⟨by rw [kp_st, if_pos ⟨rfl, rfl⟩]; rfl, fun i hi => absurd hi (Nat.not_lt_zero _), fun i j hi => absurd hi (Nat.not_lt_zero _), fun q => ⟨False.elim, fun ⟨i, hi, _⟩ => absurd hi (Nat.not_lt_zero _)⟩⟩ (fun q h => h.elim) f
  obtain ⟨b, c3, k1, k2, k3⟩ := ne_holds g5
  obtain ⟨b0, f3, l1, l2, -⟩ := md_closes i5
  have hb : b = b0 := lt_same k3 (lt_both (c := c) (w0 := w0) (ys := ys) (sa := sa) (sb := sb) (T := T) g3 i3).1 l2
  refine ⟨b, c2, c3, m2, f3, g1, k1, fun q hq => by rw [k2 q (by omega), g4 q hq], ?_, lm_fr_trans fr0 i4⟩
  unfold fx_D_fitsLongNow fx_D_fitsLong
  rw [kp_let, if_pos (by decide), i1 b0 f3 l1, kp_b3, hb]
/-- the start of the class's long net -/
theorem lt_start (c : Nat → Nat → Int32) : ∃ c1, fx_LongNet_start c = some c1 ∧ (∀ q, q ≠ 73 → c1 q = c q) ∧ c1 73 1 = 0 ∧ c1 73 2 = -1 ∧ c1 73 3 = 141 := by
  refine ⟨_, rfl, fun q hq => ?_, ?_, ?_, ?_⟩
  · show kv_st (kv_st (kv_st (kv_st (kv_st c 73 1 0) 73 2 (-1)) 73 3 141) 73 4 (-1)) 73 5 (-1) q = c q
    rw [kp_st_ne hq, kp_st_ne hq, kp_st_ne hq, kp_st_ne hq, kp_st_ne hq]
  · show kv_st (kv_st (kv_st (kv_st (kv_st c 73 1 0) 73 2 (-1)) 73 3 141) 73 4 (-1)) 73 5 (-1) 73 1 = 0
    simp [kp_st]
  · show kv_st (kv_st (kv_st (kv_st (kv_st c 73 1 0) 73 2 (-1)) 73 3 141) 73 4 (-1)) 73 5 (-1) 73 2 = -1
    simp [kp_st]
  · show kv_st (kv_st (kv_st (kv_st (kv_st c 73 1 0) 73 2 (-1)) 73 3 141) 73 4 (-1)) 73 5 (-1) 73 3 = 141
    simp [kp_st]
theorem lqM_none (h14 : m 84 14 = -4) (h15 : m 84 15 = -4) (h17 : m 84 17 = -4) : lqM m 20 141 0 0 := ⟨Or.inr ⟨rfl, h17⟩, Or.inr ⟨rfl, h14, h15⟩⟩
theorem lqS_none (hL : L ≤ 10) : lqS L 141 0 0 := ⟨hL, fun h => absurd h (by omega), by omega⟩
theorem lt_now (hH : lg_H c m L T) (h14 : m 84 14 = -4) (h15 : m 84 15 = -4) (h17 : m 84 17 = -4) (f : Nat → Int64) : ∃ b c3 m2 f3, fx_K_longNetHolds c = some (b, c3) ∧ (∀ q, q < 68 ∨ 74 < q → c3 q = c q) ∧ fx_D_fitsLongNow m f = some (b, m2, f3) ∧ lm_fr m m2 := by
  obtain ⟨c1, s1, s2, s3, s4, s5⟩ := lt_start c
  have H1 := lg_H_fr hH (c3 := c1) (fun q hq => s2 q (by omega)) (m3 := m) rfl
  obtain ⟨b, c2, c3, m2, f3, g1, g2, g3, g4, g5⟩ := lt_fits H1 (lqS_none hH.1) ⟨Or.inr ⟨rfl, s4⟩, Or.inr ⟨rfl, s5⟩⟩ s3 (lqM_none h14 h15 h17) f
  refine ⟨b, c3, m2, f3, ?_, fun q hq => by rw [g3 q hq, s2 q (by omega)], g4, g5⟩
  unfold fx_K_longNetHolds
  rw [s1, kp_b1, g1, kp_b1, g2, kp_b2]
theorem fr_long {k : Nat} (h : Inv k c m) (h1 : ∀ q, q < 68 → c2 q = c q) (h2 : lm_fr m m2) : Inv (k + 1) c2 m2 :=
  fr_Inv h h1 (fun r _ _ => h2.1 r (by omega) (by omega) (by omega)) (h2.2 8 (by omega)) (h2.2 14 (by omega)) (h2.2 15 (by omega)) (h2.2 17 (by omega))
theorem op_fits {k : Nat} (h : Inv k c m) (hk : k < 600) (f : Nat → Int64) (p : Int32) : ∃ r c2 m2 f2, fx_K_fits p c = some (r, c2) ∧ fx_D_fits p m f = some (r, m2, f2) ∧ Inv (k + 1) c2 m2 := by
  unfold fx_K_fits fx_D_fits fj_D_fits_16
  by_cases z : p = -1
  · rw [if_pos z, if_pos z, if_neg (by rw [z]; decide)]
    obtain ⟨L, T, hH, -⟩ := lg_H_of h hk
    obtain ⟨b, c3, m2, f3, g1, g2, g3, g4⟩ := lt_now hH h.2.2.2.1 h.2.2.2.2.1 h.2.2.2.2.2.1 f
    have fin := fr_long h (fun q hq => g2 q (Or.inl hq)) g4
    rw [g1, kp_b2, g3, kp_b3]
    cases b with
    | false => exact ⟨0, c3, m2, f3, rfl, rfl, fin⟩
    | true => exact ⟨1, c3, m2, f3, rfl, rfl, fin⟩
  · rw [if_neg z, if_neg z]
    rcases h_isYear p with ⟨y1, y2, e1, e2⟩ | ⟨-, e1, e2⟩
    rotate_left
    · rw [e1, e2]
      exact ⟨-1, c, m, f, rfl, rfl, fr_same h⟩
    rw [e1, e2, kp_b1, kp_b1, if_pos rfl, if_pos rfl, if_pos (by rw [kp_le, ki_0]; exact y1)]
    obtain ⟨b, c2, c3, c4, f2, g1, g2, g3, g4, L, g5⟩ := h_fitsYear h hk f p
    have fin := fr_net h g4 (nI L) rfl
    rw [g1, kp_b1, g2, kp_b1, g3, kp_b2, g5, kp_b3]
    cases b with
    | false => exact ⟨0, c4, _, f2, rfl, rfl, fin⟩
    | true => exact ⟨1, c4, _, f2, rfl, rfl, fin⟩
theorem op_longApart {k : Nat} (h : Inv k c m) (hk : k < 600) (f : Nat → Int64) (p y q z w : Int32) : ∃ r c2 m2 f2, fx_K_longApart p y q z w c = some (r, c2) ∧ fx_D_longApart p y q z w m f = some (r, m2, f2) ∧ Inv (k + 1) c2 m2 := by
  have no : ∃ r c2 m2 f2, some ((-1000000001 : Int32), c) = some (r, c2) ∧ some ((-1000000001 : Int32), m, f) = some (r, m2, f2) ∧ Inv (k + 1) c2 m2 := ⟨_, _, _, _, rfl, rfl, fr_same h⟩
  obtain ⟨L, T, hH, c7, m1⟩ := lg_H_of h hk
  have hL := hH.1
  unfold fx_K_longApart fx_D_longApart
  have A := h_lump c7 m1 hL p
  have B := h_lump c7 m1 hL q
  have Y := h_isYear y
  have Z := h_isYear z
  rcases A with ⟨a, ha, rfl, e1, e2⟩ | ⟨-, e1, e2⟩
  rotate_left
  · rw [e1, e2]; exact no
  rw [e1, e2]
  rcases B with ⟨b, hb, rfl, e3, e4⟩ | ⟨-, e3, e4⟩
  rotate_left
  · rcases Y with ⟨-, -, e5, e6⟩ | ⟨-, e5, e6⟩
    · rw [e3, e4, e5]; exact no
    · rw [e4, e5]; exact no
  rcases Y with ⟨y1, y2, e5, e6⟩ | ⟨-, e5, e6⟩
  rotate_left
  · rw [e4, e5, e6]; exact no
  rcases Z with ⟨z1, z2, e7, e8⟩ | ⟨-, e7, e8⟩
  rotate_left
  · rw [e3, e4, e5, e6, e7, e8]; exact no
  obtain ⟨yn, rfl, ye, -⟩ := kp_nat y1
  obtain ⟨zn, rfl, ze, -⟩ := kp_nat z1
  rw [e3, e4, e5, e6, e7, e8, sx_isWithin, sx_isInL w 0 1 (by decide) (by decide), ki_0, ki_1]
  simp only [kp_b1, if_true]
  by_cases zw : 0 ≤ w.toInt ∧ w.toInt ≤ 1
  rotate_left
  · rw [decide_eq_false zw]; exact no
  rw [decide_eq_true zw, if_pos rfl, if_pos rfl]
  have w01 : w = 0 ∨ w = 1 := by
    rw [kp_eq, kp_eq, ki_0, ki_1]
    omega
  obtain ⟨c1, s1, s2, s3, s4, s5⟩ := lt_start c
  have kq0 : lk_C c1 0 (fun _ => 0) (fun _ => False) := ⟨s3, fun i hi => absurd hi (Nat.not_lt_zero _), fun i j _ hj => absurd hj (Nat.not_lt_zero _), fun q => ⟨False.elim, fun ⟨i, hi, _⟩ => absurd hi (Nat.not_lt_zero _)⟩, fun i hi => absurd hi (Nat.not_lt_zero _)⟩
  obtain ⟨c3, n3, kc3, t1, ⟨-, t2⟩, t3, t4, t5⟩ := lk_add kq0 (by omega) (l := a) (y := yn) (by omega) (by omega)
  obtain ⟨c4, n4, kc4, u1, ⟨-, u2⟩, u3, u4, u5⟩ := lk_add t3 (by omega) (l := b) (y := zn) (by omega) (by omega)
  have f4 : ∀ q, q ≠ 73 → q ≠ 74 → c4 q = c q := fun q h1 h2 => by rw [u4 q h1 h2, t4 q h1 h2, s2 q h1]
  have q4 : lqC c4 20 141 0 0 := lqC_fr (lqC_fr (⟨Or.inr ⟨rfl, s4⟩, Or.inr ⟨rfl, s5⟩⟩ : lqC c1 20 141 0 0) t5) u5
  have H4 := lg_H_fr hH (c3 := c4) (fun q hq => f4 q (by omega) (by omega)) (m3 := m) rfl
  obtain ⟨c5, n, e, kc, g1, g2, g3, g4, g5⟩ := lb_build H4 (lqS_none hL) q4 (n0 := n4) (by omega) u3
  have Ka : lg_K c4 (fun q => (False ∨ q = 141 * a + yn) ∨ q = 141 * b + zn) 20 141 0 0 T (141 * a + yn) := Or.inl (Or.inl (Or.inr rfl))
  have Kb : lg_K c4 (fun q => (False ∨ q = 141 * a + yn) ∨ q = 141 * b + zn) 20 141 0 0 T (141 * b + zn) := Or.inl (Or.inr rfl)
  obtain ⟨pa, pa1, pa2, pa3⟩ := lk_at g3 g2 (l := a) (y := yn) (by omega) (by omega) Ka
  obtain ⟨pb, pb1, pb2, pb3⟩ := lk_at g3 g2 (l := b) (y := zn) (by omega) (by omega) Kb
  have fr0 : lm_fr m (kv_st m 84 13 0) := ⟨fun q a _ _ => kp_st_ne a, fun j hj => by rw [kp_st, if_neg (fun w => hj w.2)]⟩
  have mq0 : lk_M (kv_st m 84 13 0) 0 (fun _ => 0) (fun _ => 0) (fun _ => False) := ⟨by rw [kp_st, if_pos ⟨rfl, rfl⟩]; rfl, fun i hi => absurd hi (Nat.not_lt_zero _), fun i j hi => absurd hi (Nat.not_lt_zero _), fun q => ⟨False.elim, fun ⟨i, hi, _⟩ => absurd hi (Nat.not_lt_zero _)⟩⟩
  obtain ⟨i3, m3, o3, lm3, ym3, v1, ⟨-, v2⟩, v3, v4⟩ := lm_add mq0 (by omega) (l := a) (y := yn) (by omega) (by omega)
  obtain ⟨i4, m4, o4, lm4, ym4, x1, ⟨-, x2⟩, x3, x4⟩ := lm_add v3 (by omega) (l := b) (y := zn) (by omega) (by omega)
  have frm := lm_fr_trans fr0 (lm_fr_trans v4 x4)
  have H5 := lg_H_fr hH (c3 := c4) (fun q hq => f4 q (by omega) (by omega)) (m3 := m4) (frm.1 85 (by omega) (by omega) (by omega))
  obtain ⟨m6, f6, n6, lm, ym, l1, l2, l3, l4, l5⟩ := ld_build H5 (lqS_none hL) (lqM_fr (lqM_none h.2.2.2.1 h.2.2.2.2.1 h.2.2.2.2.2.1) frm.2) (n0 := o4) (by omega) x3 (fun q hq => by
    rcases hq with (hq | hq) | hq
    · exact hq.elim
    · omega
    · omega) f
  obtain ⟨ia, ia1, ia2, ia3, ia4⟩ := lm_at l3 (by omega) (l := a) (y := yn) (by omega) (by omega) Ka
  obtain ⟨ib, ib1, ib2, ib3, ib4⟩ := lm_at l3 (by omega) (l := b) (y := zn) (by omega) (by omega) Kb
  have lt := lt_both (c := c4) (w0 := 20) (ys := 141) (sa := 0) (sb := 0) (T := T) g3 l3
  have tab := lt.2 pa pb ia ib pa1 pb1 ia1 ib1 (by rw [pa2, ia2, ia3]) (by rw [pb2, ib2, ib3])
  have tba := lt.2 pb pa ib ia pb1 pa1 ib1 ia1 (by rw [pb2, ib2, ib3]) (by rw [pa2, ia2, ia3])
  obtain ⟨r, c7, r1, r2, b0, f7, r3, r4, r5⟩ := bd_both g5 l5 pa1 pb1 ia1 ib1 lt.1 tab.1 tba.1 tab.2 tba.2 w w01
  have fin : Inv (k + 1) c7 m6 := fr_long h (fun q hq => by rw [r2 q (by omega), g4 q (Or.inl hq), f4 q (by omega) (by omega)]) (lm_fr_trans frm l4)
  have em : fx_D_fitsLong (nI a) (nI yn) (nI b) (nI zn) m f = some (b0, m6, f7) := by
    unfold fx_D_fitsLong
    rw [kp_let, if_neg (nI_pos (by omega)), v1, kp_b2, x1, kp_b2, l1 b0 f7 r3]
  rw [s1, kp_b1, t1, kp_b1, u1, kp_b1, g1, kp_b1, pa3, kp_b1, pb3, kp_b1, r1, kp_b2, em, kp_b3]
  cases b0 with
  | false => exact ⟨r, c7, m6, f7, rfl, by rw [if_neg (by decide), r5 rfl], fin⟩
  | true => exact ⟨r, c7, m6, f7, rfl, by rw [if_pos rfl, ia4, kp_b2, ib4, kp_b2, r4 rfl, kp_b1], fin⟩
end LT
