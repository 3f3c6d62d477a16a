/-! ===== the net of a year ===== -/
section YR
variable {k n e : Nat} {c m c3 m3 : Nat → Nat → Int32} {Sat : (Nat → Int) → Prop} {L T p : Nat} {y : Int32}
def yr_1 (c : Nat → Nat → Int32) (p w : Nat) (x : Nat → Int) : Prop := (c 14 w).toInt - (c 15 w).toInt ≤ x (p + (c 12 w).toNatClampNeg) - x (p + (c 13 w).toNatClampNeg) ∧ x (p + (c 12 w).toNatClampNeg) - x (p + (c 13 w).toNatClampNeg) ≤ (c 14 w).toInt + (c 15 w).toInt
def yr_S (c : Nat → Nat → Int32) (y : Int32) (p T : Nat) (x : Nat → Int) : Prop := ∀ w, w < T → c 16 w = 0 → c 11 w = y → yr_1 c p w x
/-- a weighing, on both sides -/
def yw (c m : Nat → Nat → Int32) (L w : Nat) : Prop := ∃ a b : Nat, a < L ∧ b < L ∧ a ≠ b ∧ c 12 w = nI a ∧ c 13 w = nI b ∧ m 85 (81 + 6 * w) = nI a ∧ m 85 (82 + 6 * w) = nI b ∧ m 85 (80 + 6 * w) = c 11 w ∧ m 85 (83 + 6 * w) = c 14 w ∧ m 85 (84 + 6 * w) = c 15 w ∧ m 85 (85 + 6 * w) = c 16 w ∧ (-239900 ≤ (c 14 w).toInt ∧ (c 14 w).toInt ≤ 239900) ∧ (0 ≤ (c 15 w).toInt ∧ (c 15 w).toInt ≤ 99) ∧ (c 16 w = 0 ∨ c 16 w = 1) ∧ (0 ≤ (c 11 w).toInt ∧ (c 11 w).toInt ≤ 140)
theorem yw_of {b : Int} {w : Nat} (hb : b ≤ 69899) (h : iW1 (i_v c 1) (m 85) b L w) : yw c m L w := by
  obtain ⟨r0, r1, r2, r3, r4, r5, r6, ⟨x, y, q1, q2, q3, q4, q5⟩, r8, r9, r10⟩ := h
  exact ⟨x, y, q1, q2, q3, q4, q5, r1.trans q4, r2.trans q5, r0, r3, r4, r5, ⟨by have : -(2 * b + 100000) ≤ (c 14 w).toInt := r8.1; omega, by have : (c 14 w).toInt ≤ 2 * b + 100000 := r8.2; omega⟩, r9, r10, r6⟩
theorem yw_fr {w : Nat} (h : yw c m L w) (h1 : ∀ q, 11 ≤ q → q ≤ 16 → c3 q = c q) (h2 : m3 85 = m 85) : yw c3 m3 L w := by
  unfold yw at h ⊢
  rw [h1 11 (by omega) (by omega), h1 12 (by omega) (by omega), h1 13 (by omega) (by omega), h1 14 (by omega) (by omega), h1 15 (by omega) (by omega), h1 16 (by omega) (by omega), h2]
  exact h
theorem yr_S_fr (h1 : ∀ q, 11 ≤ q → q ≤ 16 → c3 q = c q) : yr_S c3 y p T = yr_S c y p T := by
  unfold yr_S yr_1
  rw [h1 11 (by omega) (by omega), h1 12 (by omega) (by omega), h1 13 (by omega) (by omega), h1 14 (by omega) (by omega), h1 15 (by omega) (by omega), h1 16 (by omega) (by omega)]
theorem yr_S_add (x : Nat → Int) : yr_S c y p (T + 1) x ↔ yr_S c y p T x ∧ (c 16 T = 0 → c 11 T = y → yr_1 c p T x) := by
  constructor
  · intro h
    exact ⟨fun w hw => h w (by omega), h T (by omega)⟩
  · rintro ⟨h1, h2⟩ w hw
    by_cases z : w = T
    · rw [z]; exact h2
    · exact h1 w (by omega)
theorem yk_counts {w : Nat} (hw : w < 20) : fx_Weighings_counts (nI w) y c = some (decide (c 16 w = 0 ∧ c 11 w = y)) := by
  unfold fx_Weighings_counts
  rw [kp_gd _ (kp_in_nI hw (by omega)), nI_clamp (by omega)]
  by_cases z : c 16 w = 0
  · rw [if_pos z]
    by_cases z2 : c 11 w = y
    · rw [if_pos z2, decide_eq_true ⟨z, z2⟩]
    · rw [if_neg z2, decide_eq_false (fun q => z2 q.2)]
  · rw [if_neg z, decide_eq_false (fun q => z q.1)]
theorem yk_lo {w : Nat} (hw : w < 20) (h : yw c m L w) : ∃ lo hi : Int32, fx_Weighings_least (nI w) c = some lo ∧ fx_Weighings_greatest (nI w) c = some hi ∧ lo.toInt = (c 14 w).toInt - (c 15 w).toInt ∧ hi.toInt = (c 14 w).toInt + (c 15 w).toInt := by
  obtain ⟨a, b, -, -, -, -, -, -, -, -, -, -, -, h14, h15, -⟩ := h
  refine ⟨c 14 w - c 15 w, c 14 w + c 15 w, ?_, ?_, by rw [kp_sub (by omega) (by omega)], by rw [kp_add (by omega) (by omega)]⟩
  · unfold fx_Weighings_least
    rw [kp_gd _ (kp_in_nI hw (by omega)), nI_clamp (by omega)]
  · unfold fx_Weighings_greatest
    rw [kp_gd _ (kp_in_nI hw (by omega)), nI_clamp (by omega)]
theorem yk_year (hT : T ≤ 20) (hc : c 10 7 = nI T) (hw : ∀ w, w < T → yw c m L w) (hN : ne_N c n e Sat) (hp : p + L ≤ n) (he : e + 2 * T ≤ 124) : ∃ c2 e2, fx_K_boundByYear y (nI p) c = some c2 ∧ e2 ≤ e + 2 * T ∧ ne_fr c c2 e ∧ ne_N c2 n e2 (fun x => Sat x ∧ yr_S c y p T x) := by
  have n42 : n ≤ 42 := by obtain ⟨_, _, _, hE, _⟩ := hN; exact hE.1
  have key := kp_inv (kv_u2 (fb_K_boundByYear_11 y (nI p))) (fun i st => ∃ c3 e2, st = (nI i, c3) ∧ e ≤ e2 ∧ e2 ≤ e + 2 * i ∧ ne_fr c c3 e ∧ ne_N c3 n e2 (fun x => Sat x ∧ yr_S c y p i x)) (fun c3 => ∃ e2, e2 ≤ e + 2 * T ∧ ne_fr c c3 e ∧ ne_N c3 n e2 (fun x => Sat x ∧ yr_S c y p T x)) T ?_ ?_ ((0 : Int32), c) ⟨c, e, rfl, Nat.le_refl _, by omega, ne_fr_refl e, ne_congr hN (fun x => ⟨fun h => ⟨h, fun w hw => absurd hw (Nat.not_lt_zero _)⟩, fun h => h.1⟩)⟩
  · obtain ⟨c2, h1, e2, h2, h3, h4⟩ := key
    exact ⟨c2, e2, by unfold fx_K_boundByYear; rw [h1]; rfl, h2, h3, h4⟩
  · rintro i st hi ⟨c3, e2, rfl, q1, q2, q3, q4⟩
    refine Or.inl ?_
    show ∃ s2, fb_K_boundByYear_11 y (nI p) (nI i) c3 = some (.inl s2) ∧ _
    have fr3 : ∀ q, 11 ≤ q → q ≤ 16 → c3 q = c q := fun q a b => q3.1 q (by omega)
    have ew := yw_fr (hw i hi) fr3 rfl
    unfold fb_K_boundByYear_11
    rw [q3.1 10 (by omega), hc, if_neg (nI_ge hi (by omega)), yk_counts (by omega), kp_b1, fr3 16 (by omega) (by omega), fr3 11 (by omega) (by omega)]
    by_cases z : c 16 i = 0 ∧ c 11 i = y
    · rw [decide_eq_true z, if_pos rfl]
      obtain ⟨lo, hi', g1, g2, g3, g4⟩ := yk_lo (show i < 20 by omega) ew
      obtain ⟨a, b, ha, hb, hab, ca, cb, -, -, -, -, -, -, h14, h15, -⟩ := hw i hi
      rw [fr3 14 (by omega) (by omega), fr3 15 (by omega) (by omega)] at g3 g4
      obtain ⟨c4, r1, r2, r3⟩ := ne_bound (lo := lo) (hi := hi') q4 (by omega) (show p + a < n by omega) (show p + b < n by omega) (by omega) (by omega) (by omega) (by omega)
      rw [kp_gd _ (kp_in_nI (show i < 20 by omega) (by omega)), nI_clamp (by omega), kp_let, kp_let, g1, g2, kp_b1, kp_b1, fr3 12 (by omega) (by omega), fr3 13 (by omega) (by omega), ca, cb, nI_add, nI_add, r1, kp_b1]
      refine ⟨(nI (i + 1), c4), by unfold fj_K_boundByYear_75; rw [nI_1], c4, e2 + 2, rfl, by omega, by omega, ne_fr_trans q1 q3 r2, ne_congr r3 (fun x => ?_)⟩
      rw [yr_S_add]
      have e1 : yr_1 c p i x ↔ (lo.toInt ≤ x (p + a) - x (p + b) ∧ x (p + a) - x (p + b) ≤ hi'.toInt) := by
        unfold yr_1
        rw [ca, cb, nI_clamp (by omega), nI_clamp (by omega), g3, g4]
      rw [e1]
      constructor
      · rintro ⟨⟨s1, s2⟩, s3⟩
        exact ⟨s1, s2, fun _ _ => s3⟩
      · rintro ⟨s1, s2, s3⟩
        exact ⟨⟨s1, s2⟩, s3 z.1 z.2⟩
    · rw [decide_eq_false z, if_neg (by decide)]
      refine ⟨(nI (i + 1), c3), by unfold fj_K_boundByYear_75; rw [nI_1], c3, e2, rfl, q1, by omega, q3, ne_congr q4 (fun x => ?_)⟩
      rw [yr_S_add]
      constructor
      · rintro ⟨s1, s2⟩
        exact ⟨s1, s2, fun a b => absurd ⟨a, b⟩ z⟩
      · rintro ⟨s1, s2, s3⟩
        exact ⟨s1, s2⟩
  · rintro st ⟨c3, e2, rfl, q1, q2, q3, q4⟩
    refine ⟨c3, ?_, e2, q2, q3, q4⟩
    show fb_K_boundByYear_11 y (nI p) (nI T) c3 = _
    unfold fb_K_boundByYear_11
    rw [q3.1 10 (by omega), hc, if_pos (nI_le (Nat.le_refl _) (by omega))]
theorem yd_weighs {f : Nat → Int64} {w : Nat} (hw20 : w < 20) (hw : yw c m L w) (hN : md_N m f n Sat) {a b : Nat} (ha : a < n) (hb : b < n) (hab : a ≠ b) : ∃ f2, fx_D_weighs (nI w) (nI a) (nI b) m f = some f2 ∧ md_N m f2 n (fun x => Sat x ∧ (c 14 w).toInt - (c 15 w).toInt ≤ x a - x b ∧ x a - x b ≤ (c 14 w).toInt + (c 15 w).toInt) := by
  obtain ⟨_, _, -, -, -, -, -, -, -, -, m3, m4, -, h14, h15, -⟩ := hw
  have s3 : fx_D_say (nI w) 3 m = some (c 14 w) := by
    show fx_D_say (nI w) (nI 3) m = _
    rw [sx_say hw20 (by omega), show 80 + 6 * w + 3 = 83 + 6 * w by omega, m3]
  have s4 : fx_D_say (nI w) 4 m = some (c 15 w) := by
    show fx_D_say (nI w) (nI 4) m = _
    rw [sx_say hw20 (by omega), show 80 + 6 * w + 4 = 84 + 6 * w by omega, m4]
  have e1 : ((c 14 w).toInt64 - (c 15 w).toInt64).toInt = (c 14 w).toInt - (c 15 w).toInt := by
    rw [kl_sub] <;> rw [Int32.toInt_toInt64, Int32.toInt_toInt64] <;> omega
  have e2 : ((c 14 w).toInt64 + (c 15 w).toInt64).toInt = (c 14 w).toInt + (c 15 w).toInt := by
    rw [kl_add] <;> rw [Int32.toInt_toInt64, Int32.toInt_toInt64] <;> omega
  obtain ⟨f2, q1, q2⟩ := md_binds hN ha hb hab (lo := (c 14 w).toInt64 - (c 15 w).toInt64) (hi := (c 14 w).toInt64 + (c 15 w).toInt64) (by omega) (by omega) (by omega) (by omega)
  refine ⟨f2, ?_, ?_⟩
  · unfold fx_D_weighs
    rw [s3, kp_b1, s4, kp_b1, kp_b1, kp_b1, q1, kp_b1]
  · rw [e1, e2] at q2
    exact q2
theorem yd_year {f : Nat → Int64} (hT : T ≤ 20) (hm : m 85 2 = nI T) (hw : ∀ w, w < T → yw c m L w) (hN : md_N m f n Sat) (hp : p + L ≤ n) : ∃ f2, fx_D_bindsYear y (nI p) m f = some f2 ∧ md_N m f2 n (fun x => Sat x ∧ yr_S c y p T x) := by
  have n44 := hN.1
  have key := kp_inv (kv_u2 (fb_D_bindsYear_2 m y (nI p))) (fun i st => ∃ f3, st = (nI i, f3) ∧ md_N m f3 n (fun x => Sat x ∧ yr_S c y p i x)) (fun f3 => md_N m f3 n (fun x => Sat x ∧ yr_S c y p T x)) T ?_ ?_ ((0 : Int32), f) ⟨f, rfl, md_congr hN (fun x => ⟨fun h => ⟨h, fun w hw => absurd hw (Nat.not_lt_zero _)⟩, fun h => h.1⟩)⟩
  · obtain ⟨f2, h1, h2⟩ := key
    exact ⟨f2, by unfold fx_D_bindsYear; rw [h1]; rfl, h2⟩
  · rintro i st hi ⟨f3, rfl, q4⟩
    refine Or.inl ?_
    show ∃ s2, fb_D_bindsYear_2 m y (nI p) (nI i) f3 = some (.inl s2) ∧ _
    have hwi := hw i hi
    obtain ⟨a, b, ha, hb, hab, ca, cb, m1, m2, m0, -, -, m5, -⟩ := hw i hi
    have i20 : i < 20 := by omega
    have s5 : fx_D_say (nI i) 5 m = some (c 16 i) := by
      show fx_D_say (nI i) (nI 5) m = _
      rw [sx_say i20 (by omega), show 80 + 6 * i + 5 = 85 + 6 * i by omega, m5]
    have s0 : fx_D_say (nI i) 0 m = some (c 11 i) := by
      show fx_D_say (nI i) (nI 0) m = _
      rw [sx_say i20 (by omega), show 80 + 6 * i + 0 = 80 + 6 * i by omega, m0]
    have s1 : fx_D_say (nI i) 1 m = some (nI a) := by
      show fx_D_say (nI i) (nI 1) m = _
      rw [sx_say i20 (by omega), show 80 + 6 * i + 1 = 81 + 6 * i by omega, m1]
    have s2 : fx_D_say (nI i) 2 m = some (nI b) := by
      show fx_D_say (nI i) (nI 2) m = _
      rw [sx_say i20 (by omega), show 80 + 6 * i + 2 = 82 + 6 * i by omega, m2]
    have no : ¬ (c 16 i = 0 ∧ c 11 i = y) → ∃ s2, fj_D_bindsYear_52 (nI i) f3 = some (.inl s2) ∧ ∃ f4, s2 = (nI (i + 1), f4) ∧ md_N m f4 n (fun x => Sat x ∧ yr_S c y p (i + 1) x) := by
      intro z
      refine ⟨(nI (i + 1), f3), by unfold fj_D_bindsYear_52; rw [nI_1], f3, rfl, md_congr q4 (fun x => ?_)⟩
      rw [yr_S_add]
      constructor
      · rintro ⟨s1, s2⟩
        exact ⟨s1, s2, fun a b => absurd ⟨a, b⟩ z⟩
      · rintro ⟨s1, s2, s3⟩
        exact ⟨s1, s2⟩
    unfold fb_D_bindsYear_2
    rw [hm, if_neg (nI_ge hi (by omega)), s5, kp_b1]
    by_cases z1 : c 16 i = 0
    rotate_left
    · rw [if_neg z1]
      exact no (fun q => z1 q.1)
    rw [if_pos z1, s0, kp_b1]
    by_cases z2 : c 11 i = y
    rotate_left
    · rw [if_neg z2]
      exact no (fun q => z2 q.2)
    rw [if_pos z2, s1, kp_b1, s2, kp_b1, nI_add, nI_add]
    obtain ⟨f4, r1, r2⟩ := yd_weighs i20 hwi q4 (show p + a < n by omega) (show p + b < n by omega) (by omega)
    rw [r1, kp_b1]
    refine ⟨(nI (i + 1), f4), by unfold fj_D_bindsYear_52; rw [nI_1], f4, rfl, md_congr r2 (fun x => ?_)⟩
    rw [yr_S_add]
    have e1 : yr_1 c p i x ↔ ((c 14 i).toInt - (c 15 i).toInt ≤ x (p + a) - x (p + b) ∧ x (p + a) - x (p + b) ≤ (c 14 i).toInt + (c 15 i).toInt) := by
      unfold yr_1
      rw [ca, cb, nI_clamp (by omega), nI_clamp (by omega)]
    rw [e1]
    constructor
    · rintro ⟨⟨s1, s2⟩, s3⟩
      exact ⟨s1, s2, fun _ _ => s3⟩
    · rintro ⟨s1, s2, s3⟩
      exact ⟨⟨s1, s2⟩, s3 z1 z2⟩
  · rintro st ⟨f3, rfl, q4⟩
    refine ⟨f3, ?_, q4⟩
    show fb_D_bindsYear_2 m y (nI p) (nI T) f3 = _
    unfold fb_D_bindsYear_2
    rw [hm, if_pos (nI_le (Nat.le_refl _) (by omega))]
/-- what the reference has for a net of a year -/
theorem yd_begin (hL : L ≤ 10) (hT : T ≤ 20) (hmL : m 85 1 = nI L) (hm : m 85 2 = nI T) (hw : ∀ w, w < T → yw c m L w) (y : Int32) (f : Nat → Int64) : ∃ f3, fx_D_begins (nI L) m f = some (kv_st m 84 13 (nI L), f3) ∧ ∃ f4, fx_D_bindsYear y 0 (kv_st m 84 13 (nI L)) f3 = some f4 ∧ md_N (kv_st m 84 13 (nI L)) f4 L (yr_S c y 0 T) := by
  obtain ⟨f3, h1, h2⟩ := md_begins (m := m) (n := L) (by omega) f
  have e89 : kv_st m 84 13 (nI L) 85 = m 85 := kp_st_ne (by omega)
  obtain ⟨f4, h3, h4⟩ := yd_year (c := c) (p := 0) (y := y) (L := L) hT (by rw [e89]; exact hm) (fun w hw2 => yw_fr (hw w hw2) (fun _ _ _ => rfl) e89) h2 (by omega)
  exact ⟨f3, h1, f4, h3, md_congr h4 (fun x => ⟨fun q => q.2, fun q => ⟨trivial, q⟩⟩)⟩
/-- and the class -/
theorem yk_begin (hL : L ≤ 10) (hT : T ≤ 20) (hc : c 10 7 = nI T) (hw : ∀ w, w < T → yw c m L w) (y : Int32) : ∃ c2, fx_Net_start 10 c = some c2 ∧ ∃ c3, fx_K_boundByYear y 0 c2 = some c3 ∧ (∀ q, q < 68 ∨ 72 ≤ q → c3 q = c q) ∧ ∃ e, ne_N c3 10 e (yr_S c y 0 T) := by
  obtain ⟨c2, h1, h2, h3⟩ := ne_start (c := c) (n := 10) (by omega)
  have fr : ∀ q, 11 ≤ q → q ≤ 16 → c2 q = c q := fun q a b => h2 q (by omega)
  obtain ⟨c3, e2, g1, g2, g3, g4⟩ := yk_year (p := 0) (y := y) (m := m) (L := L) hT (by rw [h2 10 (by omega)]; exact hc) (fun w hw2 => yw_fr (hw w hw2) fr rfl) h3 (by omega) (by omega)
  refine ⟨c2, h1, c3, g1, fun q hq => by rw [g3.1 q (by omega), h2 q (by omega)], e2, ne_congr g4 (fun x => ?_)⟩
  rw [yr_S_fr fr]
  exact ⟨fun q => q.2, fun q => ⟨trivial, q⟩⟩
theorem h_yw (h : Inv k c m) (hk : k < 600) : ∃ L T : Nat, L ≤ 10 ∧ T ≤ 20 ∧ c 2 7 = nI L ∧ m 85 1 = nI L ∧ c 10 7 = nI T ∧ m 85 2 = nI T ∧ ∀ w, w < T → yw c m L w := by
  obtain ⟨L, T, U, hN, hG, hL, hP, hA, hW, hT, hX, hC⟩ := h.1
  exact ⟨L, T, hN.1, hN.2.1, hN.2.2.2.1, hN.2.2.2.2.1, hN.2.2.2.2.2.1, hN.2.2.2.2.2.2.1, fun w hw => yw_of (by omega) (hW w hw)⟩
theorem fr_net (h : Inv k c m) {c2 m2 : Nat → Nat → Int32} (h1 : ∀ q, q < 68 → c2 q = c q) (x : Int32) (h2 : m2 = kv_st m 84 13 x) : Inv (k + 1) c2 m2 := by
  subst h2
  exact fr_Inv h h1 (fun r _ _ => kp_st_ne (by omega)) (by rw [kp_st, if_neg (by omega)]) (by rw [kp_st, if_neg (by omega)]) (by rw [kp_st, if_neg (by omega)]) (by rw [kp_st, if_neg (by omega)])
theorem op_apart (h : Inv k c m) (hk : k < 600) (f : Nat → Int64) (p q y w : Int32) : ∃ r c2 m2 f2, fx_K_apart p q y w c = some (r, c2) ∧ fx_D_apart p q y w m f = some (r, m2, f2) ∧ Inv (k + 1) c2 m2 := by
  have no : ∃ r c2 m2 f2, some ((-1000000001 : Int32), c) = some (r, c2) ∧ some ((-1000000001 : Int32), m, f) = some (r, m2, f2) ∧ Inv (k + 1) c2 m2 := ⟨_, _, _, _, rfl, rfl, fr_same h⟩
  obtain ⟨L, T, hL, hT, c7, m1, c10, m2, hw⟩ := h_yw h hk
  unfold fx_K_apart fx_D_apart
  rcases h_lump c7 m1 hL p with ⟨a, ha, rfl, e1, e2⟩ | ⟨-, e1, e2⟩
  rotate_left
  · rw [e1, e2]; exact no
  rw [e1, e2, kp_b1, kp_b1, if_pos rfl, if_pos rfl]
  rcases h_lump c7 m1 hL q with ⟨b, hb, rfl, e1, e2⟩ | ⟨-, e1, e2⟩
  rotate_left
  · rw [e1, e2]; exact no
  rw [e1, e2, kp_b1, kp_b1, if_pos rfl, if_pos rfl]
  rcases h_isYear y with ⟨y1, y2, e1, e2⟩ | ⟨-, e1, e2⟩
  rotate_left
  · rw [e1, e2]; exact no
  rw [e1, e2, kp_b1, kp_b1, if_pos rfl, if_pos rfl, sx_isWithin, sx_isInL w 0 1 (by decide) (by decide), ki_0, ki_1, kp_b1, kp_b1]
  by_cases z : 0 ≤ w.toInt ∧ w.toInt ≤ 1
  rotate_left
  · rw [decide_eq_false z]; exact no
  rw [decide_eq_true z, if_pos rfl, if_pos rfl]
  have w01 : w = 0 ∨ w = 1 := by
    rw [kp_eq, kp_eq, ki_0, ki_1]
    omega
  obtain ⟨c2, h1, c3, h2, h3, e, h4⟩ := yk_begin hL hT c10 hw y
  obtain ⟨f3, g1, f4, g2, g3⟩ := yd_begin hL hT m1 m2 hw y f
  obtain ⟨r, c4, r1, r2, b0, f5, r3, r4, r5⟩ := bd_both h4 g3 (show a < 10 by omega) (show b < 10 by omega) ha hb Iff.rfl (fun _ h => h) (fun _ h => h) (fun h => h) (fun h => h) w w01
  unfold fx_D_fitsYear
  rw [h1, kp_b1, h2, kp_b1, r1, kp_b2, m1, g1, kp_b2, g2, kp_b1, r3, kp_b2, kp_b3]
  have fin : Inv (k + 1) c4 (kv_st m 84 13 (nI L)) := fr_net h (fun q hq => by rw [r2 q (by omega), h3 q (by omega)]) _ rfl
  cases b0 with
  | false => exact ⟨r, c4, _, f5, rfl, by rw [if_neg (by decide), r5 rfl], fin⟩
  | true => exact ⟨r, c4, _, f5, rfl, by rw [if_pos rfl, r4 rfl, kp_b1], fin⟩
/-- the net of a year fits, on both sides -/
theorem h_fitsYear (h : Inv k c m) (hk : k < 600) (f : Nat → Int64) (y : Int32) : ∃ b c2 c3 c4 f2, fx_Net_start 10 c = some c2 ∧ fx_K_boundByYear y 0 c2 = some c3 ∧ fx_Net_holds c3 = some (b, c4) ∧ (∀ q, q < 68 → c4 q = c q) ∧ ∃ L, fx_D_fitsYear y m f = some (b, kv_st m 84 13 (nI L), f2) := by
  obtain ⟨L, T, hL, hT, c7, m1, c10, m2, hw⟩ := h_yw h hk
  obtain ⟨c2, h1, c3, h2, h3, e, h4⟩ := yk_begin hL hT c10 hw y
  obtain ⟨f3, g1, f4, g2, g3⟩ := yd_begin hL hT m1 m2 hw y f
  obtain ⟨b, c4, k1, k2, k3⟩ := ne_holds h4
  obtain ⟨b0, f5, k4, k5, -⟩ := md_closes g3
  have hb : b = b0 := by
    have := k3.trans k5.symm
    cases b <;> cases b0 <;> simp_all
  refine ⟨b, c2, c3, c4, f5, h1, h2, k1, fun q hq => by rw [k2 q (by omega), h3 q (by omega)], L, ?_⟩
  unfold fx_D_fitsYear
  rw [m1, g1, kp_b2, g2, kp_b1, k4, kp_b2, hb]
end YR
