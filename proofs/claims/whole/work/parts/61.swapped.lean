/-! ===== swapped ===== -/
section SW
variable {k L T : Nat} {c m : Nat → Nat → Int32}
theorem sw_has (h : c 2 7 = nI L) (hL : L ≤ 10) {x : Nat} (hx : x < 2 ^ 31) : fx_Lumps_has (nI x) c = some (decide (x < L)) := by
  rw [sx_has _ _ h (by omega), nI_toInt hx]
  congr 1
  exact decide_eq_decide.mpr (by omega)
theorem sw_pair (h : c 2 7 = nI L) (hL : L ≤ 10) {x y : Nat} (hx : x < 2 ^ 31) (hy : y < 2 ^ 31) : fx_Lumps_hasPair (nI x) (nI y) c = some (decide (x < L ∧ y < L ∧ x ≠ y)) := by
  unfold fx_Lumps_hasPair
  rw [sw_has h hL hx, sw_has h hL hy, kp_b1]
  by_cases z1 : x < L
  · rw [decide_eq_true z1, if_pos rfl, kp_b1]
    by_cases z2 : y < L
    · rw [decide_eq_true z2, if_pos rfl]
      by_cases z3 : x = y
      · rw [if_pos (by rw [z3]), decide_eq_false (fun w => w.2.2 z3)]
      · rw [if_neg (fun w => z3 ((nI_eq hx hy).mp w)), decide_eq_true ⟨z1, z2, z3⟩]
    · rw [decide_eq_false z2, if_neg (by decide), decide_eq_false (fun w => z2 w.2.1)]
  · rw [decide_eq_false z1, if_neg (by decide), decide_eq_false (fun w => z1 w.1)]
theorem sw_ordered (h : c 2 7 = nI L) (hL : L ≤ 10) {p : Nat} (hp : p < 2 ^ 31) : fx_K_isOrderedPair (nI p) c = some (decide (p / 10 < p % 10 ∧ p % 10 < L)) := by
  unfold fx_K_isOrderedPair
  obtain ⟨d1, d2⟩ := nd_d10 hp
  rw [if_neg (nI_pos hp), d2, d1]
  by_cases z : p / 10 < p % 10
  · rw [if_neg (nI_ge z (by omega)), sw_pair h hL (by omega) (by omega), kp_b1]
    by_cases z2 : p % 10 < L
    · rw [decide_eq_true ⟨by omega, z2, by omega⟩, if_pos rfl, decide_eq_true ⟨z, z2⟩]
    · rw [decide_eq_false (fun w => z2 w.2.1), if_neg (by decide), decide_eq_false (fun w => z2 w.2)]
  · rw [if_pos (nI_le (by omega) (by omega)), decide_eq_false (fun w => z w.1)]
def sw_good (L : Nat) (ab : Int) (B : Nat → Bool) (p : Nat) : Prop := p / 10 < p % 10 ∧ p % 10 < L ∧ ab < p ∧ B p = true
def sw_min (L : Nat) (ab : Int) (B : Nat → Bool) (p : Nat) : Prop := sw_good L ab B p ∧ ∀ q, q < p → ¬ sw_good L ab B q
theorem sw_min_one {ab : Int} {B : Nat → Bool} {p q : Nat} (h1 : sw_min L ab B p) (h2 : sw_min L ab B q) : p = q := by
  rcases Nat.lt_trichotomy p q with s | s | s
  · exact absurd h1.1 (h2.2 p s)
  · exact s
  · exact absurd h2.1 (h1.2 q s)
def sw_CB (c : Nat → Nat → Int32) (y L : Nat) (B : Nat → Bool) : Prop := ∀ p, p / 10 < p % 10 → p % 10 < L → ∀ c4, nd_c c c4 → ∃ c5, fx_K_longNetHoldsSwapped (nI y) (nI (p / 10)) (nI (p % 10)) c4 = some (B p, c5) ∧ nd_c c c5
def sw_MB (m : Nat → Nat → Int32) (y L : Nat) (B : Nat → Bool) : Prop := ∀ p, p / 10 < p % 10 → p % 10 < L → ∀ (m4 : Nat → Nat → Int32) (f4 : Nat → Int64), (nd_m m m4 ∧ m4 84 16 = nI y ∧ m4 84 17 = -4) → ∃ m5 f5, fx_D_fitsLongNow (kv_st (kv_st m4 84 14 (nI (p / 10))) 84 15 (nI (p % 10))) f4 = some (B p, m5, f5) ∧ (nd_m m m5 ∧ m5 84 16 = nI y ∧ m5 84 17 = -4)
theorem sw_K {y : Nat} {B : Nat → Bool} (hB : sw_CB c y L B) (hL : L ≤ 10) {p2 : Int32} {c3 : Nat → Nat → Int32} (h3 : nd_c c c3) : ∃ z, kv_loop (kv_u2 (fb_K_swapped_46 (nI L) p2 (nI y))) ((0 : Int32), c3) = some z ∧ Sum.elim (fun st : Int32 × Int32 × (Nat → Nat → Int32) => ∃ p, sw_min L p2.toInt B p ∧ st.1 = nI (p / 10) ∧ st.2.1 = nI (p % 10) ∧ nd_c c st.2.2) (fun c4 => nd_c c c4 ∧ ∀ p, ¬ sw_good L p2.toInt B p) z := by
  refine kp_inv (kv_u2 (fb_K_swapped_46 (nI L) p2 (nI y))) (fun a st => ∃ c4, st = (nI a, c4) ∧ nd_c c c4 ∧ ∀ p, p / 10 < a → ¬ sw_good L p2.toInt B p) _ L ?_ ?_ ((0 : Int32), c3) ⟨c3, rfl, h3, fun p hp => absurd hp (Nat.not_lt_zero _)⟩
  · rintro a st ha ⟨c4, rfl, q1, q2⟩
    have inner := kp_inv (kv_u2 (fb_K_swapped_58 (nI L) (nI a) p2 (nI y))) (fun i st => ∃ c5, st = (nI (a + 1 + i), c5) ∧ nd_c c c5 ∧ ∀ p, p / 10 = a → p % 10 < a + 1 + i → ¬ sw_good L p2.toInt B p) (fun z => Sum.elim (fun st : Int32 × (Nat → Nat → Int32) => ∃ b, b < L ∧ sw_good L p2.toInt B (10 * a + b) ∧ (∀ p, p / 10 = a → p % 10 < b → ¬ sw_good L p2.toInt B p) ∧ st.1 = nI b ∧ nd_c c st.2) (fun c5 => nd_c c c5 ∧ ∀ p, p / 10 = a → ¬ sw_good L p2.toInt B p) z) (L - (a + 1)) ?_ ?_ (nI (a + 1), c4) ⟨c4, rfl, q1, fun p h1 h2 h3 => by have := h3.1; omega⟩
    · obtain ⟨z, z1, z2⟩ := inner
      show (∃ s2, fb_K_swapped_46 (nI L) p2 (nI y) (nI a) c4 = some (.inl s2) ∧ _) ∨ ∃ r, fb_K_swapped_46 (nI L) p2 (nI y) (nI a) c4 = some (.inr r) ∧ _
      unfold fb_K_swapped_46
      rw [if_neg (nI_ge ha (by omega)), kp_let, nI_1, z1]
      cases z with
      | inl st =>
        obtain ⟨x14, c15⟩ := st
        obtain ⟨b, b1, b2, b3, b4, b5⟩ := z2
        have b4 : x14 = nI b := b4
        refine Or.inr ⟨.inl (nI a, x14, c15), rfl, 10 * a + b, ⟨b2, fun q hq => ?_⟩, by rw [show (10 * a + b) / 10 = a by omega], by rw [show (10 * a + b) % 10 = b by omega]; exact b4, b5⟩
        by_cases e : q / 10 < a
        · exact q2 q e
        · exact b3 q (by omega) (by omega)
      | inr c16 =>
        obtain ⟨b1, b2⟩ := z2
        refine Or.inl ⟨(nI (a + 1), c16), rfl, c16, rfl, b1, fun p hp => ?_⟩
        by_cases e : p / 10 < a
        · exact q2 p e
        · exact b2 p (by omega)
    · rintro i st hi ⟨c5, rfl, r1, r2⟩
      show (∃ s2, fb_K_swapped_58 (nI L) (nI a) p2 (nI y) (nI (a + 1 + i)) c5 = some (.inl s2) ∧ _) ∨ ∃ r, fb_K_swapped_58 (nI L) (nI a) p2 (nI y) (nI (a + 1 + i)) c5 = some (.inr r) ∧ _
      have e10 : ((10 : Int32) * nI a) + nI (a + 1 + i) = nI (10 * a + (a + 1 + i)) := by
        have : (10 : Int32) * nI a = nI (10 * a) := pk_mul 10 a
        rw [this, nI_add]
      have ext : ¬ sw_good L p2.toInt B (10 * a + (a + 1 + i)) → ∀ p, p / 10 = a → p % 10 < a + 1 + (i + 1) → ¬ sw_good L p2.toInt B p := by
        intro z p h1 h2
        by_cases e : p % 10 < a + 1 + i
        · exact r2 p h1 e
        · rw [show p = 10 * a + (a + 1 + i) by omega]; exact z
      unfold fb_K_swapped_58
      rw [if_neg (nI_ge (show a + 1 + i < L by omega) (by omega)), e10]
      by_cases z : nI (10 * a + (a + 1 + i)) ≤ p2
      · rw [if_pos z]
        rw [kp_le, nI_toInt (by omega)] at z
        exact Or.inl ⟨(nI (a + 1 + (i + 1)), c5), by unfold fj_K_swapped_97; rw [nI_1]; rfl, c5, rfl, r1, ext (fun w => by have := w.2.2.1; omega)⟩
      · rw [if_neg z]
        rw [kp_le, nI_toInt (by omega)] at z
        obtain ⟨c6, s1, s2⟩ := hB (10 * a + (a + 1 + i)) (by omega) (by omega) c5 r1
        rw [show (10 * a + (a + 1 + i)) / 10 = a by omega, show (10 * a + (a + 1 + i)) % 10 = a + 1 + i by omega] at s1
        rw [s1, kp_b2]
        by_cases zb : B (10 * a + (a + 1 + i)) = true
        · rw [if_pos zb]
          exact Or.inr ⟨.inl (nI (a + 1 + i), c6), rfl, a + 1 + i, by omega, ⟨by omega, by omega, by omega, zb⟩, r2, rfl, s2⟩
        · rw [if_neg zb]
          exact Or.inl ⟨(nI (a + 1 + (i + 1)), c6), by unfold fj_K_swapped_97; rw [nI_1]; rfl, c6, rfl, s2, ext (fun w => zb w.2.2.2)⟩
    · rintro st ⟨c5, rfl, r1, r2⟩
      refine ⟨.inr c5, ?_, r1, fun p h1 h2 => r2 p h1 (by have := h2.2.1; omega) h2⟩
      show fb_K_swapped_58 (nI L) (nI a) p2 (nI y) (nI (a + 1 + (L - (a + 1)))) c5 = _
      unfold fb_K_swapped_58
      rw [if_pos (nI_le (by omega) (by omega))]
  · rintro st ⟨c4, rfl, q1, q2⟩
    refine ⟨.inr c4, ?_, q1, fun p hp => q2 p (by have := hp.1; have := hp.2.1; omega) hp⟩
    show fb_K_swapped_46 (nI L) p2 (nI y) (nI L) c4 = _
    unfold fb_K_swapped_46
    rw [if_pos (nI_le (Nat.le_refl _) (by omega))]
theorem sw_D {y : Nat} {B : Nat → Bool} (hB : sw_MB m y L B) (hL : L ≤ 10) (hm1 : m 85 1 = nI L) {s : Nat} (hs : s ≤ 100) {m3 : Nat → Nat → Int32} (h3 : nd_m m m3 ∧ m3 84 16 = nI y ∧ m3 84 17 = -4) (f3 : Nat → Int64) : ∃ x m4 f4, kv_loop (kv_u4 fb_D_swapped_56) ((-4 : Int32), nI s, m3, f3) = some (x, m4, f4) ∧ (nd_m m m4 ∧ m4 84 17 = -4) ∧ ((x = -4 ∧ ∀ p, ¬ sw_good L ((s : Int) - 1) B p) ∨ ∃ p, p < 100 ∧ x = nI p ∧ sw_min L ((s : Int) - 1) B p) := by
  have key := kp_inv (kv_u4 fb_D_swapped_56) (fun i st => ∃ x m4 f4, st = (x, nI (s + i), m4, f4) ∧ (nd_m m m4 ∧ m4 84 16 = nI y ∧ m4 84 17 = -4) ∧ ((x = -4 ∧ ∀ p, p < s + i → ¬ sw_good L ((s : Int) - 1) B p) ∨ ∃ p, p < 100 ∧ x = nI p ∧ sw_min L ((s : Int) - 1) B p)) (fun st => ∃ x m4 f4, st = (x, m4, f4) ∧ (nd_m m m4 ∧ m4 84 17 = -4) ∧ ((x = -4 ∧ ∀ p, ¬ sw_good L ((s : Int) - 1) B p) ∨ ∃ p, p < 100 ∧ x = nI p ∧ sw_min L ((s : Int) - 1) B p)) (100 - s) ?_ ?_ ((-4 : Int32), nI s, m3, f3) ⟨-4, m3, f3, rfl, h3, Or.inl ⟨rfl, fun p hp hg => by have := hg.2.2.1; omega⟩⟩
  · obtain ⟨st, h1, x, m4, f4, rfl, h2, h4⟩ := key
    exact ⟨x, m4, f4, h1, h2, h4⟩
  · rintro i st hi ⟨x, m4, f4, rfl, q1, q4⟩
    show (∃ s2, fb_D_swapped_56 x (nI (s + i)) m4 f4 = some (.inl s2) ∧ _) ∨ ∃ r, fb_D_swapped_56 x (nI (s + i)) m4 f4 = some (.inr r) ∧ _
    have b100 : ¬ (100 : Int32) ≤ nI (s + i) := nI_ge (b := 100) (by omega) (by omega)
    have e89 : m4 85 1 = nI L := by rw [q1.1.1 85 (by omega) (by omega) (by omega)]; exact hm1
    unfold fb_D_swapped_56
    rw [if_neg b100]
    rcases q4 with ⟨rfl, q4⟩ | ⟨p, p1, rfl, p3⟩
    rotate_left
    · rw [if_pos (nI_pos' (by omega))]
      exact Or.inr ⟨_, rfl, nI p, m4, f4, rfl, ⟨q1.1, q1.2.2⟩, Or.inr ⟨p, p1, rfl, p3⟩⟩
    obtain ⟨d1, d2⟩ := nd_d10 (p := s + i) (by omega)
    have ext : ¬ sw_good L ((s : Int) - 1) B (s + i) → ∀ p, p < s + (i + 1) → ¬ sw_good L ((s : Int) - 1) B p := fun z p hp => by
      by_cases e : p = s + i
      · rw [e]; exact z
      · exact q4 p (by omega)
    rw [if_neg (by decide), nd_pair e89 hL (by omega), kp_b1, d2, d1]
    by_cases z1 : s + i < 100 ∧ (s + i) / 10 < L ∧ (s + i) % 10 < L ∧ (s + i) / 10 ≠ (s + i) % 10
    rotate_left
    · rw [decide_eq_false z1, if_neg (by decide)]
      exact Or.inl ⟨(-4, nI (s + (i + 1)), m4, f4), by unfold fj_D_swapped_125; rw [nI_1]; rfl, -4, m4, f4, rfl, q1, Or.inl ⟨rfl, ext (fun w => z1 ⟨by omega, by have := w.1; have := w.2.1; omega, w.2.1, by have := w.1; omega⟩)⟩⟩
    rw [decide_eq_true z1, if_pos rfl]
    by_cases z2 : (s + i) / 10 ≤ (s + i) % 10
    rotate_left
    · rw [if_neg (nI_ge (by omega) (by omega))]
      exact Or.inl ⟨(-4, nI (s + (i + 1)), m4, f4), by unfold fj_D_swapped_125; rw [nI_1]; rfl, -4, m4, f4, rfl, q1, Or.inl ⟨rfl, ext (fun w => by have := w.1; omega)⟩⟩
    rw [if_pos (nI_le z2 (by omega)), kp_let, kp_let]
    obtain ⟨m5, f5, r1, r2⟩ := hB (s + i) (by omega) z1.2.2.1 m4 f4 q1
    rw [r1, kp_b3]
    by_cases zb : B (s + i) = true
    · rw [if_pos zb]
      exact Or.inl ⟨(nI (s + i), nI (s + (i + 1)), m5, f5), by unfold fj_D_swapped_124 fj_D_swapped_125; rw [nI_1]; rfl, nI (s + i), m5, f5, rfl, r2, Or.inr ⟨s + i, by omega, rfl, ⟨by omega, z1.2.2.1, by omega, zb⟩, q4⟩⟩
    · rw [if_neg zb]
      exact Or.inl ⟨(-4, nI (s + (i + 1)), m5, f5), by unfold fj_D_swapped_124 fj_D_swapped_125; rw [nI_1]; rfl, -4, m5, f5, rfl, r2, Or.inl ⟨rfl, ext (fun w => zb w.2.2.2)⟩⟩
  · rintro st ⟨x, m4, f4, rfl, q1, q4⟩
    refine ⟨(x, m4, f4), ?_, x, m4, f4, rfl, ⟨q1.1, q1.2.2⟩, ?_⟩
    · show fb_D_swapped_56 x (nI (s + (100 - s))) m4 f4 = _
      unfold fb_D_swapped_56
      have b100 : (100 : Int32) ≤ nI (s + (100 - s)) := nI_le (a := 100) (by omega) (by omega)
      rw [if_pos b100]
    · rcases q4 with ⟨q5, q6⟩ | q5
      · exact Or.inl ⟨q5, fun p hp => q6 p (by have := hp.1; have := hp.2.1; omega) hp⟩
      · exact Or.inr q5
theorem op_swapped (h : Inv k c m) (hk : k < 600) (f : Nat → Int64) (p q : Int32) : ∃ r c2 m2 f2, fx_K_swapped p q c = some (r, c2) ∧ fx_D_swapped p q m f = some (r, m2, f2) ∧ Inv (k + 1) c2 m2 := by
  have no : ∃ r c2 m2 f2, some ((-1 : Int32), c) = some (r, c2) ∧ some ((-1 : Int32), m, f) = some (r, m2, f2) ∧ Inv (k + 1) c2 m2 := ⟨_, _, _, _, rfl, rfl, fr_same h⟩
  obtain ⟨L, T, hH, c7, m1⟩ := lg_H_of h hk
  have hL := hH.1
  unfold fx_K_swapped fx_D_swapped
  rcases h_isYear p with ⟨y1, y2, e1, e2⟩ | ⟨-, e1, e2⟩
  rotate_left
  · rw [e1, e2]; exact no
  obtain ⟨y, rfl, ye, -⟩ := kp_nat y1
  rw [e1, e2, kp_b1, kp_b1, if_pos rfl, if_pos rfl]
  have core : ∀ s : Nat, s ≤ 100 → q.toInt = (s : Int) - 1 → q + 1 = nI s → ∃ r c2 m2 f2, fj_K_swapped_22 c q (nI y) = some (r, c2) ∧ fj_D_swapped_33 m f (nI y) q = some (r, m2, f2) ∧ Inv (k + 1) c2 m2 := by
    intro s hs hq hq1
    obtain ⟨b, c3, m3, f3, g1, g2, g3, g4⟩ := lt_now hH h.2.2.2.1 h.2.2.2.2.1 h.2.2.2.2.2.1 f
    unfold fj_K_swapped_22 fj_D_swapped_33
    rw [g1, kp_b2, g3, kp_b3]
    cases b with
    | true => exact ⟨-3, c3, m3, f3, rfl, rfl, fr_long h (fun q hq => g2 q (Or.inl hq)) g4⟩
    | false =>
      rw [if_neg (by decide), if_neg (by decide)]
      have hB : ∀ p, ∃ B : Bool, (p / 10 < p % 10 ∧ p % 10 < L) → (∀ c4, nd_c c c4 → ∃ c5, fx_K_longNetHoldsSwapped (nI y) (nI (p / 10)) (nI (p % 10)) c4 = some (B, c5) ∧ nd_c c c5) ∧ ∀ mf : (Nat → Nat → Int32) × (Nat → Int64), (nd_m m mf.1 ∧ mf.1 84 16 = nI y ∧ mf.1 84 17 = -4) → ∃ z : (Nat → Nat → Int32) × (Nat → Int64), fx_D_fitsLongNow (kv_st (kv_st mf.1 84 14 (nI (p / 10))) 84 15 (nI (p % 10))) mf.2 = some (B, z) ∧ (nd_m m z.1 ∧ z.1 84 16 = nI y ∧ z.1 84 17 = -4) := by
        intro p
        by_cases z : p / 10 < p % 10 ∧ p % 10 < L
        · obtain ⟨B, hB⟩ := nd_swap hH (y := y) (a := p / 10) (b := p % 10) (by omega) (by omega) z.2 (by omega)
          exact ⟨B, fun _ => hB⟩
        · exact ⟨true, fun w => absurd w z⟩
      obtain ⟨B, hB⟩ := Classical.axiomOfChoice hB
      have hCB : sw_CB c y L B := fun p a1 a2 => (hB p ⟨a1, a2⟩).1
      have hMB : sw_MB m y L B := fun p a1 a2 m4 f4 hq => by
        obtain ⟨⟨m5, f5⟩, r1, r2⟩ := (hB p ⟨a1, a2⟩).2 (m4, f4) hq
        exact ⟨m5, f5, r1, r2⟩
      have g4m : nd_m m (kv_st m3 84 16 (nI y)) := ⟨fun q a1 a2 a3 => by rw [kp_st_ne a1, g4.1 q a1 a2 a3], fun j hj => by rw [kp_st, if_neg (by omega), g4.2 j (by omega)]⟩
      obtain ⟨z, z1, z2⟩ := sw_K hCB hL (p2 := q) g2
      obtain ⟨x, m5, f5, d1, ⟨d2, d3⟩, d4⟩ := sw_D hMB hL m1 hs (m3 := kv_st m3 84 16 (nI y)) ⟨g4m, by rw [kp_st, if_pos ⟨rfl, rfl⟩], by rw [kp_st, if_neg (by omega), g4.2 17 (by omega)]; exact h.2.2.2.2.2.1⟩ f3
      have fin : ∀ c4, nd_c c c4 → Inv (k + 1) c4 (kv_st (kv_st m5 84 14 (-4)) 84 15 (-4)) := fun c4 h4 => fr_nd h h4 ⟨fun q a1 a2 a3 => by rw [kp_st_ne a1, kp_st_ne a1, d2.1 q a1 a2 a3], fun j hj => by rw [kp_st, if_neg (by omega), kp_st, if_neg (by omega), d2.2 j hj]⟩ (by simp [kp_st]) (by simp [kp_st]) (by simp [kp_st]; exact d3)
      have em : ((some (x, m5, f5) : Option (Int32 × (Nat → Nat → Int32) × (Nat → Int64))).bind (kv_u3 (fun x11 m12 f13 => kv_let (kv_st m12 84 14 (-4 : Int32)) (fun m24 => kv_let (kv_st m24 84 15 (-4 : Int32)) (fun m25 => some (x11, m25, f13)))))) = some (x, kv_st (kv_st m5 84 14 (-4)) 84 15 (-4), f5) := rfl
      rw [kp_let, g2 2 (by omega), c7, z1, kp_let, hq1, kp_let, d1, em]
      rw [hq] at z2
      cases z with
      | inl st =>
        obtain ⟨x7, x8, c9⟩ := st
        obtain ⟨p, p1, p2, p3, p4⟩ := z2
        have p2 : x7 = nI (p / 10) := p2
        have p3 : x8 = nI (p % 10) := p3
        have hp := p1.1.1
        have hp2 := p1.1.2.1
        have e10 : ((10 : Int32) * x7) + x8 = nI p := by
          rw [p2, p3]
          have : (10 : Int32) * nI (p / 10) = nI (10 * (p / 10)) := pk_mul 10 _
          rw [this, nI_add]
          congr 1
          omega
        refine ⟨nI p, c9, _, f5, by rw [← e10]; rfl, ?_, fin c9 p4⟩
        rcases d4 with ⟨-, w⟩ | ⟨v, v1, v2, v3⟩
        · exact absurd p1.1 (w p)
        · rw [v2, sw_min_one v3 p1]
      | inr c9 =>
        obtain ⟨w1, w2⟩ := z2
        refine ⟨-4, c9, _, f5, rfl, ?_, fin c9 w1⟩
        rcases d4 with ⟨w, -⟩ | ⟨v, v1, v2, v3⟩
        · rw [w]
        · exact absurd v3.1 (w2 v)
  by_cases z : q = -1
  · rw [if_pos z, if_pos z]
    exact core 0 (by omega) (by rw [z, ki_m1]; rfl) (by rw [z]; decide)
  rw [if_neg z, if_neg z]
  by_cases zq : 0 ≤ q.toInt
  · obtain ⟨n, rfl, hn, hn2⟩ := kp_nat zq
    obtain ⟨d1, d2⟩ := nd_d10 hn2
    rw [sw_ordered c7 hL hn2, nd_pair m1 hL hn2, kp_b1, kp_b1, d2, d1]
    by_cases w : n / 10 < n % 10 ∧ n % 10 < L
    · rw [decide_eq_true w, decide_eq_true (show n < 100 ∧ n / 10 < L ∧ n % 10 < L ∧ n / 10 ≠ n % 10 by omega), if_pos rfl, if_pos rfl, if_pos (nI_le (by omega) (by omega))]
      exact core (n + 1) (by omega) (by rw [nI_toInt hn2]; omega) (nI_1 n)
    · rw [decide_eq_false w, if_neg (by decide)]
      by_cases w2 : n < 100 ∧ n / 10 < L ∧ n % 10 < L ∧ n / 10 ≠ n % 10
      · rw [decide_eq_true w2, if_pos rfl, if_neg (nI_ge (by omega) (by omega))]
        exact no
      · rw [decide_eq_false w2, if_neg (by decide)]
        exact no
  · have e3 : fx_K_isOrderedPair q c = some false := by
      unfold fx_K_isOrderedPair
      rw [if_pos (by rw [kp_lt, ki_0]; omega)]
    have e4 : fx_D_isPair q m = some false := by
      unfold fx_D_isPair
      rw [sx_isInL _ 0 99 (by decide) (by decide), decide_eq_false (by omega)]
      rfl
    rw [e3, e4]
    exact no
end SW
