/-! ===== needed, swapped ===== -/
section ND
variable {k L T : Nat} {c m : Nat → Nat → Int32}
/-- two functions that answer alike from any two states answer one and the same -/
theorem nd_one {α β γ δ : Type} {F : α → Option (Bool × γ)} {G : β → Option (Bool × δ)} {P : α → Prop} {Q : β → Prop} {P2 : γ → Prop} {Q2 : δ → Prop} (ha : ∃ a, P a) (hb : ∃ b, Q b) (H : ∀ a b, P a → Q b → ∃ r x y, F a = some (r, x) ∧ G b = some (r, y) ∧ P2 x ∧ Q2 y) : ∃ B : Bool, (∀ a, P a → ∃ x, F a = some (B, x) ∧ P2 x) ∧ ∀ b, Q b → ∃ y, G b = some (B, y) ∧ Q2 y := by
  obtain ⟨a, ha⟩ := ha
  obtain ⟨b, hb⟩ := hb
  obtain ⟨r, x, y, h1, h2, h3, h4⟩ := H a b ha hb
  refine ⟨r, fun a2 ha2 => ?_, fun b2 hb2 => ?_⟩
  · obtain ⟨r2, x2, y2, g1, g2, g3, g4⟩ := H a2 b ha2 hb
    rw [h2] at g2
    have e : r = r2 := by injection g2 with e; injection e
    exact ⟨x2, by rw [e]; exact g1, g3⟩
  · obtain ⟨r2, x2, y2, g1, g2, g3, g4⟩ := H a b2 ha hb2
    rw [h1] at g1
    have e : r = r2 := by injection g1 with e; injection e
    exact ⟨y2, by rw [e]; exact g2, g4⟩
def nd_c (c c3 : Nat → Nat → Int32) : Prop := ∀ q, q < 68 ∨ 74 < q → c3 q = c q
/-- rows of the reference, but what the long net works with -/
def nd_m (m m3 : Nat → Nat → Int32) : Prop := (∀ q, q ≠ 84 → q ≠ 94 → q ≠ 95 → m3 q = m q) ∧ ∀ j, j < 13 → m3 84 j = m 84 j
theorem nd_m_fr {m2 m3 : Nat → Nat → Int32} (h : nd_m m m2) (h2 : lm_fr m2 m3) : nd_m m m3 := ⟨fun q a b d => by rw [h2.1 q a b d, h.1 q a b d], fun j hj => by rw [h2.2 j (by omega), h.2 j hj]⟩
theorem nd_without (hH : lg_H c m L T) {w : Nat} (hw : w < 20) : ∃ B : Bool, (∀ c4, nd_c c c4 → ∃ c5, fx_K_longNetHoldsWithout (nI w) c4 = some (B, c5) ∧ nd_c c c5) ∧ ∀ mf : (Nat → Nat → Int32) × (Nat → Int64), (nd_m m mf.1 ∧ mf.1 84 14 = -4 ∧ mf.1 84 15 = -4) → ∃ y : (Nat → Nat → Int32) × (Nat → Int64), fx_D_fitsLongNow (kv_st mf.1 84 17 (nI w)) mf.2 = some (B, y) ∧ (nd_m m y.1 ∧ y.1 84 14 = -4 ∧ y.1 84 15 = -4) := by
  refine nd_one ⟨c, fun _ _ => rfl⟩ ⟨(fun q j => if q = 84 ∧ (j = 14 ∨ j = 15) then -4 else m q j, fun _ => 0), ⟨fun q h1 _ _ => ?_, fun j hj => ?_⟩, ?_, ?_⟩ ?_
  · funext j; exact if_neg (fun w => h1 w.1)
  · exact if_neg (by omega)
  · rfl
  · rfl
  · rintro c4 ⟨m4, f⟩ hc ⟨hm, h14, h15⟩
    obtain ⟨c1, s1, s2, s3, s4, s5⟩ := lt_start c4
    have e2 : ∀ q, q ≠ 73 → kv_st c1 73 2 (nI w) q = c4 q := fun q hq => by rw [kp_st_ne hq, s2 q hq]
    have e89 : kv_st m4 84 17 (nI w) 85 = m 85 := by rw [kp_st_ne (by omega)]; exact hm.1 85 (by omega) (by omega) (by omega)
    have H1 := lg_H_fr hH (c3 := kv_st c1 73 2 (nI w)) (fun q hq => by rw [e2 q (by omega), hc q (Or.inl hq)]) e89
    have qC : lqC (kv_st c1 73 2 (nI w)) w 141 0 0 := ⟨Or.inl ⟨hw, by rw [kp_st, if_pos ⟨rfl, rfl⟩]⟩, Or.inr ⟨rfl, by rw [kp_st, if_neg (by omega)]; exact s5⟩⟩
    have qM : lqM (kv_st m4 84 17 (nI w)) w 141 0 0 := ⟨Or.inl ⟨hw, by rw [kp_st, if_pos ⟨rfl, rfl⟩]⟩, Or.inr ⟨rfl, by rw [kp_st, if_neg (by omega)]; exact h14, by rw [kp_st, if_neg (by omega)]; exact h15⟩⟩
    obtain ⟨b, c2, c3, m2, f3, g1, g2, g3, g4, g5⟩ := lt_fits H1 (lqS_none hH.1) qC (by rw [kp_st, if_neg (by omega)]; exact s3) qM f
    have hm : nd_m m m4 := hm
    have p1 : nd_m m m2 := ⟨fun q a1 a2 a3 => by rw [g5.1 q a1 a2 a3, kp_st_ne a1, hm.1 q a1 a2 a3], fun j hj => by rw [g5.2 j (by omega), kp_st, if_neg (by omega), hm.2 j hj]⟩
    have p2 : m2 84 14 = -4 := by rw [g5.2 14 (by omega), kp_st, if_neg (by omega)]; exact h14
    have p3 : m2 84 15 = -4 := by rw [g5.2 15 (by omega), kp_st, if_neg (by omega)]; exact h15
    refine ⟨b, c3, (m2, f3), ?_, g4, fun q hq => by rw [g3 q hq, e2 q (by omega), hc q hq], p1, p2, p3⟩
    unfold fx_K_longNetHoldsWithout
    rw [s1, kp_b1, kp_let, g1, kp_b1, g2, kp_b2]
theorem fr_nd {c2 m2 : Nat → Nat → Int32} (h : Inv k c m) (h1 : nd_c c c2) (h2 : nd_m m m2) (h14 : m2 84 14 = -4) (h15 : m2 84 15 = -4) (h17 : m2 84 17 = -4) : Inv (k + 1) c2 m2 :=
  fr_Inv h (fun q hq => h1 q (Or.inl hq)) (fun r _ _ => h2.1 r (by omega) (by omega) (by omega)) (h2.2 8 (by omega)) (h14.trans h.2.2.2.1.symm) (h15.trans h.2.2.2.2.1.symm) (h17.trans h.2.2.2.2.2.1.symm)
theorem op_needed (h : Inv k c m) (hk : k < 600) (f : Nat → Int64) : ∃ r c2 m2 f2, fx_K_needed c = some (r, c2) ∧ fx_D_needed m f = some (r, m2, f2) ∧ Inv (k + 1) c2 m2 := by
  obtain ⟨L, T, hH, -⟩ := lg_H_of h hk
  have hT := hH.2.1
  obtain ⟨b, c3, m3, f3, g1, g2, g3, g4⟩ := lt_now hH h.2.2.2.1 h.2.2.2.2.1 h.2.2.2.2.2.1 f
  unfold fx_K_needed fx_D_needed
  rw [g1, kp_b2, g3, kp_b3]
  cases b with
  | true => exact ⟨-3, c3, m3, f3, rfl, rfl, fr_long h (fun q hq => g2 q (Or.inl hq)) g4⟩
  | false =>
    rw [if_neg (by decide), if_neg (by decide)]
    have hB : ∀ w, ∃ B : Bool, w < 20 → (∀ c4, nd_c c c4 → ∃ c5, fx_K_longNetHoldsWithout (nI w) c4 = some (B, c5) ∧ nd_c c c5) ∧ ∀ mf : (Nat → Nat → Int32) × (Nat → Int64), (nd_m m mf.1 ∧ mf.1 84 14 = -4 ∧ mf.1 84 15 = -4) → ∃ y : (Nat → Nat → Int32) × (Nat → Int64), fx_D_fitsLongNow (kv_st mf.1 84 17 (nI w)) mf.2 = some (B, y) ∧ (nd_m m y.1 ∧ y.1 84 14 = -4 ∧ y.1 84 15 = -4) := by
      intro w
      by_cases hw : w < 20
      · obtain ⟨B, hB⟩ := nd_without hH hw
        exact ⟨B, fun _ => hB⟩
      · exact ⟨true, fun q => absurd q hw⟩
    obtain ⟨B, hB⟩ := Classical.axiomOfChoice hB
    have kk := kp_inv (kv_u2 fb_K_needed_20) (fun i st => ∃ c4, st = (nI i, c4) ∧ nd_c c c4 ∧ ∀ w, w < i → ¬ (c 16 w = 0 ∧ B w = true)) (fun z => Sum.elim (fun st : Int32 × (Nat → Nat → Int32) => ∃ w, w < T ∧ st.1 = nI w ∧ (c 16 w = 0 ∧ B w = true) ∧ (∀ v, v < w → ¬ (c 16 v = 0 ∧ B v = true)) ∧ nd_c c st.2) (fun c4 => nd_c c c4 ∧ ∀ w, w < T → ¬ (c 16 w = 0 ∧ B w = true)) z) T ?_ ?_ ((0 : Int32), c3) ⟨c3, rfl, g2, fun w hw => absurd hw (Nat.not_lt_zero _)⟩
    have dd := kp_inv (kv_u4 fb_D_needed_15) (fun i st => ∃ x m4 f4, st = (x, nI i, m4, f4) ∧ (nd_m m m4 ∧ m4 84 14 = -4 ∧ m4 84 15 = -4) ∧ ((x = -4 ∧ ∀ w, w < i → ¬ (c 16 w = 0 ∧ B w = true)) ∨ ∃ w, w < T ∧ x = nI w ∧ (c 16 w = 0 ∧ B w = true) ∧ ∀ v, v < w → ¬ (c 16 v = 0 ∧ B v = true))) (fun st : Int32 × (Nat → Nat → Int32) × (Nat → Int64) => (nd_m m st.2.1 ∧ st.2.1 84 14 = -4 ∧ st.2.1 84 15 = -4) ∧ ((st.1 = -4 ∧ ∀ w, w < T → ¬ (c 16 w = 0 ∧ B w = true)) ∨ ∃ w, w < T ∧ st.1 = nI w ∧ (c 16 w = 0 ∧ B w = true) ∧ ∀ v, v < w → ¬ (c 16 v = 0 ∧ B v = true))) T ?_ ?_ ((-4 : Int32), (0 : Int32), m3, f3) ⟨-4, m3, f3, rfl, ⟨⟨g4.1, fun j hj => g4.2 j (by omega)⟩, (g4.2 14 (by omega)).trans h.2.2.2.1, (g4.2 15 (by omega)).trans h.2.2.2.2.1⟩, Or.inl ⟨rfl, fun w hw => absurd hw (Nat.not_lt_zero _)⟩⟩
    · obtain ⟨z, z1, z2⟩ := kk
      obtain ⟨⟨x, m4, f4⟩, d1, ⟨d2, d3, d4⟩, d5⟩ := dd
      have d5 : (x = -4 ∧ ∀ w, w < T → ¬ (c 16 w = 0 ∧ B w = true)) ∨ ∃ w, w < T ∧ x = nI w ∧ (c 16 w = 0 ∧ B w = true) ∧ ∀ v, v < w → ¬ (c 16 v = 0 ∧ B v = true) := d5
      have d3 : m4 84 14 = -4 := d3
      have d4 : m4 84 15 = -4 := d4
      have d2 : nd_m m m4 := d2
      have em : ((some (x, m4, f4) : Option (Int32 × (Nat → Nat → Int32) × (Nat → Int64))).bind (kv_u3 (fun x8 m9 f10 => kv_let (kv_st m9 84 17 (-4 : Int32)) (fun m20 => some (x8, m20, f10))))) = some (x, kv_st m4 84 17 (-4), f4) := rfl
      have fin : ∀ c4, nd_c c c4 → Inv (k + 1) c4 (kv_st m4 84 17 (-4)) := fun c4 h4 => fr_nd h h4 ⟨fun q a1 a2 a3 => by rw [kp_st_ne a1, d2.1 q a1 a2 a3], fun j hj => by rw [kp_st, if_neg (by omega), d2.2 j hj]⟩ (by rw [kp_st, if_neg (by omega)]; exact d3) (by rw [kp_st, if_neg (by omega)]; exact d4) (by rw [kp_st, if_pos ⟨rfl, rfl⟩])
      rw [z1, d1, em]
      cases z with
      | inl st =>
        obtain ⟨w, w1, w2, w3, w4, w5⟩ := z2
        obtain ⟨x0, c4⟩ := st
        have w2 : x0 = nI w := w2
        refine ⟨x0, c4, _, f4, rfl, ?_, fin c4 w5⟩
        rcases d5 with ⟨-, q⟩ | ⟨v, v1, v2, v3, v4⟩
        · exact absurd w3 (q w w1)
        · have : v = w := by
            rcases Nat.lt_trichotomy v w with s | s | s
            · exact absurd v3 (w4 v s)
            · exact s
            · exact absurd w3 (v4 w s)
          rw [v2, w2, this]
      | inr c4 =>
        obtain ⟨w1, w2⟩ := z2
        refine ⟨-4, c4, _, f4, rfl, ?_, fin c4 w1⟩
        rcases d5 with ⟨q, -⟩ | ⟨v, v1, v2, v3, v4⟩
        · rw [q]
        · exact absurd v3 (w2 v v1)
    · rintro i st hi ⟨x, m4, f4, rfl, ⟨q1, q2, q3⟩, q4⟩
      show (∃ s2, fb_D_needed_15 x (nI i) m4 f4 = some (.inl s2) ∧ _) ∨ ∃ r, fb_D_needed_15 x (nI i) m4 f4 = some (.inr r) ∧ _
      have i20 : i < 20 := by omega
      have e89 : m4 85 = m 85 := q1.1 85 (by omega) (by omega) (by omega)
      unfold fb_D_needed_15
      rw [e89, hH.2.2.2.1, if_neg (nI_ge hi (by omega))]
      rcases q4 with ⟨rfl, q4⟩ | ⟨w, w1, rfl, w3, w4⟩
      rotate_left
      · rw [if_pos (nI_pos' (by omega))]
        exact Or.inr ⟨_, rfl, ⟨q1, q2, q3⟩, Or.inr ⟨w, w1, rfl, w3, w4⟩⟩
      obtain ⟨_, _, _, _, _, _, _, _, _, _, _, _, _, s5⟩ := yw_n (hH.2.2.2.2.1 i hi)
      have s5' : fx_D_say (nI i) 5 m4 = some (c 16 i) := by
        show fx_D_say (nI i) (nI 5) m4 = _
        rw [sx_say i20 (by omega), e89, show 80 + 6 * i + 5 = 85 + 6 * i by omega, s5]
      rw [if_neg (by decide), s5', kp_b1]
      have b01 := (hH.2.2.2.2.1 i hi)
      obtain ⟨_, _, _, _, _, _, _, _, _, _, _, _, _, _, _, h16, _⟩ := b01
      have ext : ¬ (c 16 i = 0 ∧ B i = true) → ∀ w, w < i + 1 → ¬ (c 16 w = 0 ∧ B w = true) := fun z w hw => by
        by_cases e : w = i
        · rw [e]; exact z
        · exact q4 w (by omega)
      by_cases z1 : c 16 i = 1
      · rw [if_pos z1]
        refine Or.inl ⟨(-4, nI (i + 1), m4, f4), by unfold fj_D_needed_61; rw [nI_1], -4, m4, f4, rfl, ⟨q1, q2, q3⟩, Or.inl ⟨rfl, ext (fun w => ?_)⟩⟩
        rw [z1] at w
        exact absurd w.1 (by decide)
      · have z0 : c 16 i = 0 := h16.resolve_right z1
        rw [if_neg z1, kp_let]
        obtain ⟨⟨m5, f5⟩, r1, r2⟩ := (hB i i20).2 (m4, f4) ⟨q1, q2, q3⟩
        have r1 : fx_D_fitsLongNow (kv_st m4 84 17 (nI i)) f4 = some (B i, m5, f5) := r1
        rw [r1, kp_b3]
        by_cases zb : B i = true
        · rw [if_pos zb]
          exact Or.inl ⟨(nI i, nI (i + 1), m5, f5), by unfold fj_D_needed_60 fj_D_needed_61; rw [nI_1], nI i, m5, f5, rfl, r2, Or.inr ⟨i, hi, rfl, ⟨z0, zb⟩, q4⟩⟩
        · rw [if_neg zb]
          exact Or.inl ⟨(-4, nI (i + 1), m5, f5), by unfold fj_D_needed_60 fj_D_needed_61; rw [nI_1], -4, m5, f5, rfl, r2, Or.inl ⟨rfl, ext (fun w => zb w.2)⟩⟩
    · rintro st ⟨x, m4, f4, rfl, q1, q4⟩
      refine ⟨(x, m4, f4), ?_, q1, q4⟩
      show fb_D_needed_15 x (nI T) m4 f4 = _
      unfold fb_D_needed_15
      rw [q1.1.1 85 (by omega) (by omega) (by omega), hH.2.2.2.1, if_pos (nI_le (Nat.le_refl _) (by omega))]
    · rintro i st hi ⟨c4, rfl, q1, q2⟩
      show (∃ s2, fb_K_needed_20 (nI i) c4 = some (.inl s2) ∧ _) ∨ ∃ r, fb_K_needed_20 (nI i) c4 = some (.inr r) ∧ _
      have i20 : i < 20 := by omega
      unfold fb_K_needed_20
      rw [q1 10 (by omega), hH.2.2.1, if_neg (nI_ge hi (by omega)), kp_gd _ (kp_in_nI i20 (by omega)), nI_clamp (by omega), q1 16 (by omega)]
      have ext : ¬ (c 16 i = 0 ∧ B i = true) → ∀ w, w < i + 1 → ¬ (c 16 w = 0 ∧ B w = true) := fun z w hw => by
        by_cases e : w = i
        · rw [e]; exact z
        · exact q2 w (by omega)
      by_cases z0 : c 16 i = 0
      · rw [if_pos z0]
        obtain ⟨c5, r1, r2⟩ := (hB i i20).1 c4 q1
        rw [r1, kp_b2]
        by_cases zb : B i = true
        · rw [if_pos zb]
          exact Or.inr ⟨.inl (nI i, c5), rfl, i, hi, rfl, ⟨z0, zb⟩, q2, r2⟩
        · rw [if_neg zb]
          exact Or.inl ⟨(nI (i + 1), c5), by unfold fj_K_needed_47; rw [nI_1], c5, rfl, r2, ext (fun w => zb w.2)⟩
      · rw [if_neg z0]
        exact Or.inl ⟨(nI (i + 1), c4), by unfold fj_K_needed_47; rw [nI_1], c4, rfl, q1, ext (fun w => z0 w.1)⟩
    · rintro st ⟨c4, rfl, q1, q2⟩
      refine ⟨.inr c4, ?_, q1, q2⟩
      show fb_K_needed_20 (nI T) c4 = _
      unfold fb_K_needed_20
      rw [q1 10 (by omega), hH.2.2.1, if_pos (nI_le (Nat.le_refl _) (by omega))]
/-! swapped -/
theorem nd_swap (hH : lg_H c m L T) {y a b : Nat} (hy : y < 141) (ha : a < L) (hb : b < L) (hab : a ≠ b) : ∃ B : Bool, (∀ c4, nd_c c c4 → ∃ c5, fx_K_longNetHoldsSwapped (nI y) (nI a) (nI b) c4 = some (B, c5) ∧ nd_c c c5) ∧ ∀ mf : (Nat → Nat → Int32) × (Nat → Int64), (nd_m m mf.1 ∧ mf.1 84 16 = nI y ∧ mf.1 84 17 = -4) → ∃ z : (Nat → Nat → Int32) × (Nat → Int64), fx_D_fitsLongNow (kv_st (kv_st mf.1 84 14 (nI a)) 84 15 (nI b)) mf.2 = some (B, z) ∧ (nd_m m z.1 ∧ z.1 84 16 = nI y ∧ z.1 84 17 = -4) := by
  refine nd_one ⟨c, fun _ _ => rfl⟩ ⟨(fun q j => if q = 84 ∧ j = 16 then nI y else if q = 84 ∧ j = 17 then -4 else m q j, fun _ => 0), ⟨fun q h1 _ _ => ?_, fun j hj => ?_⟩, ?_, ?_⟩ ?_
  · funext j
    show (if q = 84 ∧ j = 16 then nI y else if q = 84 ∧ j = 17 then -4 else m q j) = m q j
    rw [if_neg (fun w => h1 w.1), if_neg (fun w => h1 w.1)]
  · show (if (84 : Nat) = 84 ∧ j = 16 then nI y else if (84 : Nat) = 84 ∧ j = 17 then -4 else m 84 j) = m 84 j
    rw [if_neg (by omega), if_neg (by omega)]
  · rfl
  · rfl
  · rintro c4 ⟨m4, f⟩ hc ⟨hm, h16, h17⟩
    obtain ⟨c1, s1, s2, s3, s4, s5⟩ := lt_start c4
    have sw : fx_LongNet_swapFrom (nI y) (nI a) (nI b) c1 = some (kv_st (kv_st (kv_st c1 73 3 (nI y)) 73 4 (nI a)) 73 5 (nI b)) := rfl
    have e2 : ∀ q, q ≠ 73 → kv_st (kv_st (kv_st c1 73 3 (nI y)) 73 4 (nI a)) 73 5 (nI b) q = c4 q := fun q hq => by rw [kp_st_ne hq, kp_st_ne hq, kp_st_ne hq, s2 q hq]
    have e89 : kv_st (kv_st m4 84 14 (nI a)) 84 15 (nI b) 85 = m 85 := by rw [kp_st_ne (by omega), kp_st_ne (by omega)]; exact hm.1 85 (by omega) (by omega) (by omega)
    have H1 := lg_H_fr hH (c3 := kv_st (kv_st (kv_st c1 73 3 (nI y)) 73 4 (nI a)) 73 5 (nI b)) (fun q hq => by rw [e2 q (by omega), hc q (Or.inl hq)]) e89
    have hS : lqS L y a b := ⟨hH.1, fun _ => ⟨ha, hb, hab⟩, by omega⟩
    have qC : lqC (kv_st (kv_st (kv_st c1 73 3 (nI y)) 73 4 (nI a)) 73 5 (nI b)) 20 y a b := ⟨Or.inr ⟨rfl, by simp [kp_st]; exact s4⟩, Or.inl ⟨hy, by simp [kp_st], by simp [kp_st], by simp [kp_st]⟩⟩
    have qM : lqM (kv_st (kv_st m4 84 14 (nI a)) 84 15 (nI b)) 20 y a b := ⟨Or.inr ⟨rfl, by simp [kp_st]; exact h17⟩, Or.inl ⟨hy, by simp [kp_st]; exact h16, by simp [kp_st], by simp [kp_st]⟩⟩
    obtain ⟨r, c2, c3, m2, f3, g1, g2, g3, g4, g5⟩ := lt_fits H1 hS qC (by simp [kp_st]; exact s3) qM f
    have hm : nd_m m m4 := hm
    have p1 : nd_m m m2 := ⟨fun q a1 a2 a3 => by rw [g5.1 q a1 a2 a3, kp_st_ne a1, kp_st_ne a1, hm.1 q a1 a2 a3], fun j hj => by rw [g5.2 j (by omega), kp_st, if_neg (by omega), kp_st, if_neg (by omega), hm.2 j hj]⟩
    have p2 : m2 84 16 = nI y := by rw [g5.2 16 (by omega), kp_st, if_neg (by omega), kp_st, if_neg (by omega)]; exact h16
    have p3 : m2 84 17 = -4 := by rw [g5.2 17 (by omega), kp_st, if_neg (by omega), kp_st, if_neg (by omega)]; exact h17
    refine ⟨r, c3, (m2, f3), ?_, g4, fun q hq => by rw [g3 q hq, e2 q (by omega), hc q hq], p1, p2, p3⟩
    unfold fx_K_longNetHoldsSwapped
    rw [s1, kp_b1, sw, kp_b1, g1, kp_b1, g2, kp_b2]
/-- told pairs, on both sides -/
theorem nd_d10 {p : Nat} (hp : p < 2 ^ 31) : nI p / (10 : Int32) = nI (p / 10) ∧ nI p - nI p / (10 : Int32) * (10 : Int32) = nI (p % 10) := ⟨pk_div (d := 10) hp (by omega) (by omega), pk_rem (d := 10) hp (by omega) (by omega)⟩
theorem nd_lt {L : Nat} (h2 : m 85 1 = nI L) (hL : L ≤ 10) {x : Nat} (hx : x < 2 ^ 31) : fx_D_isLump (nI x) m = some (decide (x < L)) := by
  rw [sx_isLump _ _ h2 (by omega), nI_toInt hx]
  congr 1
  exact decide_eq_decide.mpr (by omega)
theorem nd_pair (h2 : m 85 1 = nI L) (hL : L ≤ 10) {p : Nat} (hp : p < 2 ^ 31) : fx_D_isPair (nI p) m = some (decide (p < 100 ∧ p / 10 < L ∧ p % 10 < L ∧ p / 10 ≠ p % 10)) := by
  unfold fx_D_isPair
  obtain ⟨d1, d2⟩ := nd_d10 hp
  rw [sx_isInL _ 0 99 (by decide) (by decide), nI_toInt hp, kp_b1, d2, d1, nd_lt h2 hL (by omega), nd_lt h2 hL (by omega)]
  by_cases z : p < 100
  · rw [decide_eq_true (by omega), if_pos rfl, kp_b1]
    by_cases z1 : p / 10 < L
    · rw [decide_eq_true z1, if_pos rfl, kp_b1]
      by_cases z2 : p % 10 < L
      · rw [decide_eq_true z2, if_pos rfl]
        by_cases z3 : p / 10 = p % 10
        · rw [if_pos (by rw [z3]), decide_eq_false (fun w => w.2.2.2 z3)]
        · rw [if_neg (fun w => z3 ((nI_eq (by omega) (by omega)).mp w)), decide_eq_true ⟨z, z1, z2, z3⟩]
      · rw [decide_eq_false z2, if_neg (by decide), decide_eq_false (fun w => z2 w.2.2.1)]
    · rw [decide_eq_false z1, if_neg (by decide), decide_eq_false (fun w => z1 w.2.1)]
  · rw [decide_eq_false (by omega), if_neg (by decide), decide_eq_false (fun w => z w.1)]
end ND
