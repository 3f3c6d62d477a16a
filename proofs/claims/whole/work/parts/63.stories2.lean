/-! ===== stories, all of them ===== -/
section S2
variable {k L T n : Nat} {c m : Nat → Nat → Int32} {Sat : (Nat → Int) → Prop}
theorem st_pop_le : ∀ j v, st_pop j v ≤ j := by
  intro j
  induction j with
  | zero => intro v; exact Nat.le_refl _
  | succ j ih =>
    intro v
    have e : st_pop (j + 1) v = v % 2 + st_pop j (v / 2) := rfl
    have := ih (v / 2)
    omega
def s2_fr (c9 c4 : Nat → Nat → Int32) (e0 : Nat) : Prop := (∀ q, q < 68 ∨ 72 < q → c4 q = c9 q) ∧ c4 68 4 = c9 68 4 ∧ ∀ q j, 69 ≤ q → q ≤ 71 → j < e0 → c4 q j = c9 q j
theorem s2_cut {c9 c4 : Nat → Nat → Int32} {e0 : Nat} (h : ne_N c9 n e0 Sat) (hf : s2_fr c9 c4 e0) : ne_N (kv_st c4 68 5 (nI e0)) n e0 Sat := by
  obtain ⟨fr, to, ln, ⟨h1, h2, h3, h4, h5⟩, hS⟩ := h
  refine ⟨fr, to, ln, ⟨h1, h2, by rw [kp_st, if_neg (by omega), hf.2.1]; exact h3, by rw [kp_st, if_pos ⟨rfl, rfl⟩], fun i hi => ?_⟩, hS⟩
  rw [kp_st_ne (by omega), kp_st_ne (by omega), kp_st_ne (by omega), hf.2.2 69 i (by omega) (by omega) hi, hf.2.2 70 i (by omega) (by omega) hi, hf.2.2 71 i (by omega) (by omega) hi]
  exact h5 i hi
theorem s2_iter {c9 : Nat → Nat → Int32} {e0 : Nat} (he : e0 ≤ 100) {y1 y2 : Int32} (hN : ne_N c9 20 e0 (fun x => yr_S c y1 0 T x ∧ yr_S c y2 10 T x)) (hL : L ≤ 10) (hT : T ≤ 20) (hm1 : m 85 1 = nI L) (hm2 : m 85 2 = nI T) (hw : ∀ w, w < T → yw c m L w) {s code : Nat} (hs : s < 2 ^ L) (hcode : code < 1000) {p3 : Int32} (h3 : 1 ≤ p3.toInt ∧ p3.toInt ≤ 9999) {c4 : Nat → Nat → Int32} (hf : s2_fr c9 c4 e0) {m4 : Nat → Nat → Int32} (h89 : m4 85 = m 85) (f : Nat → Int64) : ∃ b c5 c6 f5, fx_K_tellStory (nI s) (nI code) p3 (kv_st c4 68 5 (nI e0)) = some c5 ∧ fx_Net_holds c5 = some (b, c6) ∧ s2_fr c9 c6 e0 ∧ fx_D_isLet (nI s) y1 y2 p3 (nI code) m4 f = some (b, kv_st m4 84 13 (nI (2 * L)), f5) := by
  have hs10 : s < 1024 := by
    have : 2 ^ L ≤ 2 ^ 10 := Nat.pow_le_pow_right (by omega) hL
    omega
  obtain ⟨c5, e2, a1, a2, a3⟩ := st_tellK hs10 hcode h3 (s2_cut hN hf) he
  obtain ⟨b, c6, b1, b2, b3⟩ := ne_holds a3
  obtain ⟨f1, d1, d2⟩ := md_begins (m := m4) (n := 2 * L) (by omega) f
  have e89 : kv_st m4 84 13 (nI (2 * L)) 85 = m 85 := by rw [kp_st_ne (by omega)]; exact h89
  have hw2 : ∀ w, w < T → yw c (kv_st m4 84 13 (nI (2 * L))) L w := fun w h => yw_fr (hw w h) (fun _ _ _ => rfl) e89
  obtain ⟨f2, g1, g2⟩ := yd_year (c := c) (p := 0) (y := y1) (L := L) hT (by rw [e89]; exact hm2) hw2 d2 (by omega)
  obtain ⟨f3, i1, i2⟩ := yd_year (c := c) (p := L) (y := y2) (L := L) hT (by rw [e89]; exact hm2) hw2 g2 (by omega)
  obtain ⟨f4, j1, j2⟩ := st_tellD hs10 hcode hL h3 (md_congr i2 (fun x => (⟨fun ⟨⟨_, q1⟩, q2⟩ => ⟨q1, q2⟩, fun ⟨q1, q2⟩ => ⟨⟨trivial, q1⟩, q2⟩⟩ : _ ↔ (yr_S c y1 0 T x ∧ yr_S c y2 L T x))))
  obtain ⟨b0, f5, l1, l2, -⟩ := md_closes j2
  have hb : b = b0 := lt_same b3 (st_move (code := code) (most := p3.toInt) hL hs hw) l2
  refine ⟨b, c5, c6, f5, a1, b1, ⟨fun q hq => ?_, ?_, fun q j q1 q2 q3 => ?_⟩, ?_⟩
  · rw [b2 q (by omega), a2.1 q (by omega), kp_st_ne (by omega), hf.1 q hq]
  · rw [b2 68 (by omega), a2.2.1 4 (by omega), kp_st, if_neg (by omega), hf.2.1]
  · rw [b2 q (by omega), a2.2.2 q j q1 q2 q3, kp_st_ne (by omega), hf.2.2 q j q1 q2 q3]
  · have e2 : (2 : Int32) * nI L = nI (2 * L) := pk_mul 2 L
    have g1' : fx_D_bindsYear y1 0 (kv_st m4 84 13 (nI (2 * L))) f1 = some f2 := g1
    unfold fx_D_isLet
    rw [h89, hm1, kp_let, e2, d1, kp_b2, g1', kp_b1, i1, kp_b1, j1, kp_sb1, l1, kp_b2, hb]
theorem op_stories (h : Inv k c m) (hk : k < 600) (f : Nat → Int64) (p1 p2 p3 p4 : Int32) : ∃ r c2 m2 f2, fx_K_stories p1 p2 p3 p4 c = some (r, c2) ∧ fx_D_stories p1 p2 p3 p4 m f = some (r, m2, f2) ∧ Inv (k + 1) c2 m2 := by
  have no : ∃ r c2 m2 f2, some ((-1 : Int32), c) = some (r, c2) ∧ some ((-1 : Int32), m, f) = some (r, m2, f2) ∧ Inv (k + 1) c2 m2 := ⟨_, _, _, _, rfl, rfl, fr_same h⟩
  obtain ⟨L, T, hL, hT, c7, m1, c10, m2, hw⟩ := h_yw h hk
  have hpw : 2 ^ L ≤ 2 ^ 10 := Nat.pow_le_pow_right (by omega) hL
  have hpw0 : 0 < 2 ^ L := Nat.pow_pos (by omega)
  unfold fx_K_stories fx_D_stories
  rw [kp_let, kp_let, kp_let, kp_let]
  have eub : ((1 : Int32) <<< (nI L &&& 31) - 1).toInt = ((2 ^ L : Nat) : Int) - 1 := by
    rw [st_shl L (by omega), kp_sub] <;> rw [nI_toInt (by omega), ki_1] <;> omega
  rw [m1, sx_isInL p1 1 (((2 ^ L : Nat) : Int) - 1) (by decide) (by rw [Int32.toInt_toInt64]; exact eub), kp_b1]
  by_cases zs : 1 ≤ p1.toInt ∧ p1.toInt ≤ ((2 ^ L : Nat) : Int) - 1
  rotate_left
  · have e1 : fx_K_isStorySet p1 c = some false := by
      unfold fx_K_isStorySet
      rw [c7, st_shl L (by omega)]
      by_cases z1 : p1 ≤ 0
      · rw [if_pos z1]
      · rw [if_neg z1, if_pos]
        rw [kp_le, ki_0] at z1
        rw [kp_le, nI_toInt (by omega)]
        omega
    rw [e1, decide_eq_false zs]
    exact no
  obtain ⟨s, rfl, hs1, hs2⟩ := kp_nat (x := p1) (by omega)
  have hs10 : s < 1024 := by omega
  have e1 : fx_K_isStorySet (nI s) c = some (decide (st_pop 10 s ≤ 4)) := by
    unfold fx_K_isStorySet
    have hp40 := st_pop_le 10 s
    rw [c7, st_shl L (by omega), if_neg (nI_nle (by omega) (by omega)), if_neg (nI_ge (by omega) (by omega)), st_cntK s hs10, kp_b1]
    by_cases z : st_pop 10 s ≤ 4
    · have b : ¬ (4 : Int32) < nI (st_pop 10 s) := nI_nlt (a := 4) z (by omega)
      rw [if_neg b, decide_eq_true z]
    · have b : (4 : Int32) < nI (st_pop 10 s) := nI_lt (a := 4) (by omega) (by omega)
      rw [if_pos b, decide_eq_false z]
  rw [e1, decide_eq_true zs, if_pos rfl, st_cntD hs10, kp_b1, kp_b1]
  by_cases z4 : st_pop 10 s ≤ 4
  rotate_left
  · have b : (4 : Int32) < nI (st_pop 10 s) := by
      rw [kp_lt]
      have hp40 := st_pop_le 10 s
      rw [nI_toInt (by omega), ki_4]; omega
    rw [decide_eq_false z4, if_pos b]
    exact no
  have b4 : ¬ (4 : Int32) < nI (st_pop 10 s) := nI_nlt (a := 4) z4 (by omega)
  rw [decide_eq_true z4, if_pos rfl, if_neg b4]
  rcases h_isYear (p2 / (1000 : Int32)) with ⟨y1, y2, e3, e4⟩ | ⟨-, e3, e4⟩
  rotate_left
  · rw [e3, e4]
    by_cases zn : p2 < 0
    · rw [if_pos zn]; exact no
    · rw [if_neg zn]; exact no
  rcases h_isYear (p2 - p2 / (1000 : Int32) * (1000 : Int32)) with ⟨y3, y4, e5, e6⟩ | ⟨-, e5, e6⟩
  rotate_left
  · rw [e3, e4, e5, e6]
    by_cases zn : p2 < 0
    · rw [if_pos zn]; exact no
    · rw [if_neg zn]; exact no
  have npos : ¬ p2 < 0 := by
    have k1000 : (1000 : Int32).toInt = 1000 := by decide
    have em : (p2 / (1000 : Int32) * (1000 : Int32)).toInt = (p2 / (1000 : Int32)).toInt * 1000 := by
      rw [kp_mul (by rw [k1000]; omega) (by rw [k1000]; omega), k1000]
    have e : p2 = (p2 - p2 / (1000 : Int32) * (1000 : Int32)) + p2 / (1000 : Int32) * (1000 : Int32) := (Int32.sub_add_cancel p2 _).symm
    have e2 : p2.toInt = (p2 - p2 / (1000 : Int32) * (1000 : Int32)).toInt + (p2 / (1000 : Int32)).toInt * 1000 := by
      have e9 : p2.toInt = ((p2 - p2 / (1000 : Int32) * (1000 : Int32)) + p2 / (1000 : Int32) * (1000 : Int32)).toInt := by rw [← e]
      rw [e9, kp_add (by rw [em]; omega) (by rw [em]; omega), em]
    rw [kp_lt, ki_0]
    omega
  rw [e3, e4, e5, e6, if_neg npos]
  simp only [kp_b1, if_true]
  generalize p2 / (1000 : Int32) = v1 at *
  generalize p2 - v1 * (1000 : Int32) = v2 at *
  by_cases z5 : v1 < v2
  rotate_left
  · rw [if_neg z5, if_pos (show v2 ≤ v1 by rw [kp_le]; rw [kp_lt] at z5; omega)]
    exact no
  rw [if_pos z5, if_neg (show ¬ v2 ≤ v1 by rw [kp_le]; rw [kp_lt] at z5; omega), sx_isWithin, sx_isInL p3 1 9999 (by decide) (by decide), ki_1, ki_9999, kp_b1, kp_b1]
  by_cases z6 : 1 ≤ p3.toInt ∧ p3.toInt ≤ 9999
  rotate_left
  · rw [decide_eq_false z6]
    exact no
  rw [decide_eq_true z6, if_pos rfl, if_pos rfl]
  by_cases z7 : (-1 : Int32) ≤ p4
  rotate_left
  · rw [if_neg z7, if_neg z7]
    exact no
  rw [if_pos z7, if_pos z7]
  obtain ⟨c2, s1, s2, s3⟩ := ne_start (c := c) (n := 20) (by omega)
  have fr2 : ∀ q, 11 ≤ q → q ≤ 16 → c2 q = c q := fun q a b => s2 q (by omega)
  obtain ⟨c3, e, t1, t2, t3, t4⟩ := yk_year (p := 0) (y := v1) (m := m) (L := L) hT (by rw [s2 10 (by omega)]; exact c10) (fun w h => yw_fr (hw w h) fr2 rfl) s3 (by omega) (by omega)
  have fr3 : ∀ q, 11 ≤ q → q ≤ 16 → c3 q = c q := fun q a b => by rw [t3.1 q (by omega), fr2 q a b]
  obtain ⟨c9, e9, u1, u2, u3, u4⟩ := yk_year (p := 10) (y := v2) (m := m) (L := L) hT (by rw [t3.1 10 (by omega), s2 10 (by omega)]; exact c10) (fun w h => yw_fr (hw w h) fr3 rfl) t4 (by omega) (by omega)
  have f9 : ∀ q, q < 68 → c9 q = c q := fun q hq => by rw [u3.1 q (Or.inl hq), t3.1 q (Or.inl hq), s2 q (by omega)]
  have hN9 : ne_N c9 20 e9 (fun x => yr_S c v1 0 T x ∧ yr_S c v2 10 T x) := ne_congr u4 (fun x => by
    rw [yr_S_fr fr2, yr_S_fr fr3]
    exact ⟨fun ⟨⟨_, q1⟩, q2⟩ => ⟨q1, q2⟩, fun ⟨q1, q2⟩ => ⟨⟨trivial, q1⟩, q2⟩⟩)
  have e95 : c9 68 5 = nI e9 := by obtain ⟨_, _, _, hE, _⟩ := hN9; exact hE.2.2.2.1
  have t1' : fx_K_boundByYear v1 0 c2 = some c3 := t1
  have u1' : fx_K_boundByYear v2 10 c3 = some c9 := u1
  have s1' : fx_Net_start 20 c = some c2 := s1
  have pl : 3 ^ st_pop 10 s ≤ 3 ^ 4 := Nat.pow_le_pow_right (by omega) z4
  have sim := kp_sim (kv_u3 (fb_K_stories_111 (nI (3 ^ st_pop 10 s)) (nI e9) (nI s) p3 p4)) (kv_u4 (fb_D_stories_122 (nI (3 ^ st_pop 10 s)) (nI s) v1 v2 p3 p4)) (fun i st tt => ∃ x c4 m4 f4, st = (x, nI i, c4) ∧ tt = (x, nI i, m4, f4) ∧ s2_fr c9 c4 e9 ∧ (m4 = m ∨ m4 = kv_st m 84 13 (nI (2 * L)))) (fun z z2 => (∃ x c4 m4 f4, (z = .inl (x, c4) ∧ z2 = .inl (x, m4, f4) ∨ z = .inr (x, c4) ∧ z2 = .inr (x, m4, f4)) ∧ s2_fr c9 c4 e9 ∧ (m4 = m ∨ m4 = kv_st m 84 13 (nI (2 * L))))) (3 ^ st_pop 10 s) ?_ ?_ ((0 : Int32), (0 : Int32), c9) ((0 : Int32), (0 : Int32), m, f) ⟨0, c9, m, f, rfl, rfl, ⟨fun _ _ => rfl, rfl, fun _ _ _ _ _ => rfl⟩, Or.inl rfl⟩
  · obtain ⟨z, z2, g1, g2, x, c4, m4, f4, g3, g4, g5⟩ := sim
    have fin : Inv (k + 1) c4 m4 := by
      have hc4 : ∀ q, q < 68 → c4 q = c q := fun q hq => by rw [g4.1 q (Or.inl hq), f9 q hq]
      rcases g5 with rfl | rfl
      · exact fr_Inv h hc4 (fun _ _ _ => rfl) rfl rfl rfl rfl
      · exact fr_net h hc4 _ rfl
    rw [s1', kp_b1, t1', kp_b1, u1', kp_b1, e95, kp_let, st_allK hs10, kp_b1, g1, st_allD hs10 z4, kp_sb1, g2]
    rcases g3 with ⟨rfl, rfl⟩ | ⟨rfl, rfl⟩
    · exact ⟨x, c4, m4, f4, rfl, rfl, fin⟩
    · rw [kp_le, ki_m1] at z7
      have a1 : ((some (Sum.inr (x, c4)) : Option ((Int32 × (Nat → Nat → Int32)) ⊕ (Int32 × (Nat → Nat → Int32)))).bind (Sum.elim (kv_u2 (fun x15 c16 => some (x15, c16))) (kv_u2 (fun x17 c18 => if p4 = (-1 : Int32) then some (x17, c18) else some ((-4 : Int32), c18))))) = if p4 = (-1 : Int32) then some (x, c4) else some ((-4 : Int32), c4) := rfl
      have a2 : ((some (Sum.inr (x, m4, f4)) : Option ((Int32 × (Nat → Nat → Int32) × (Nat → Int64)) ⊕ (Int32 × (Nat → Nat → Int32) × (Nat → Int64)))).bind (Sum.elim (kv_u3 (fun x17 m18 f19 => some (x17, m18, f19))) (kv_u3 (fun x20 m21 f22 => if 0 ≤ p4 then some ((-4 : Int32), m21, f22) else some (x20, m21, f22))))) = if 0 ≤ p4 then some ((-4 : Int32), m4, f4) else some (x, m4, f4) := rfl
      rw [a1, a2]
      by_cases w : p4 = -1
      · rw [if_pos w, if_neg (by rw [w]; decide)]
        exact ⟨x, c4, m4, f4, rfl, rfl, fin⟩
      · rw [if_neg w, if_pos (by rw [kp_le, ki_0]; rw [kp_eq, ki_m1] at w; omega)]
        exact ⟨-4, c4, m4, f4, rfl, rfl, fin⟩
  · rintro i st tt hi ⟨x, c4, m4, f4, rfl, rfl, q1, q2⟩
    have h89 : m4 85 = m 85 := by
      rcases q2 with rfl | rfl
      · rfl
      · exact kp_st_ne (by omega)
    obtain ⟨b, c5, c6, f5, r1, r2, r3, r4⟩ := s2_iter (m := m) (by omega) hN9 hL hT m1 m2 hw (s := s) (code := i) (by omega) (by omega) z6 q1 h89 f4
    have em4 : kv_st m4 84 13 (nI (2 * L)) = kv_st m 84 13 (nI (2 * L)) := by
      rcases q2 with rfl | rfl
      · rfl
      · funext q j
        simp only [kp_st]
        split <;> rfl
    rw [em4] at r4
    have K1 : kv_u3 (fb_K_stories_111 (nI (3 ^ st_pop 10 s)) (nI e9) (nI s) p3 p4) (x, nI i, c4) = if b = true then (if x = p4 then some (.inr (.inl (nI i, c6))) else some (.inl (x + 1, nI (i + 1), c6))) else some (.inl (x, nI (i + 1), c6)) := by
      show fb_K_stories_111 (nI (3 ^ st_pop 10 s)) (nI e9) (nI s) p3 p4 x (nI i) c4 = _
      have ec : fx_Net_cutTo (nI e9) c4 = some (kv_st c4 68 5 (nI e9)) := rfl
      unfold fb_K_stories_111 fj_K_stories_158
      rw [if_neg (nI_ge hi (by omega)), ec, kp_b1, r1, kp_b1, r2, kp_b2, nI_1]
    have D1 : kv_u4 (fb_D_stories_122 (nI (3 ^ st_pop 10 s)) (nI s) v1 v2 p3 p4) (x, nI i, m4, f4) = if b = true then (if x = p4 then some (.inr (.inl (nI i, kv_st m 84 13 (nI (2 * L)), f5))) else some (.inl (x + 1, nI (i + 1), kv_st m 84 13 (nI (2 * L)), f5))) else some (.inl (x, nI (i + 1), kv_st m 84 13 (nI (2 * L)), f5)) := by
      show fb_D_stories_122 (nI (3 ^ st_pop 10 s)) (nI s) v1 v2 p3 p4 x (nI i) m4 f4 = _
      unfold fb_D_stories_122 fj_D_stories_160
      rw [if_neg (nI_ge hi (by omega)), r4, kp_b3, nI_1]
    rw [K1, D1]
    cases b with
    | false =>
      rw [if_neg (by decide), if_neg (by decide)]
      exact Or.inl ⟨_, _, rfl, rfl, x, c6, _, f5, rfl, rfl, r3, Or.inr rfl⟩
    | true =>
      rw [if_pos rfl, if_pos rfl]
      by_cases w : x = p4
      · rw [if_pos w, if_pos w]
        exact Or.inr ⟨_, _, rfl, rfl, nI i, c6, _, f5, Or.inl ⟨rfl, rfl⟩, r3, Or.inr rfl⟩
      · rw [if_neg w, if_neg w]
        exact Or.inl ⟨_, _, rfl, rfl, x + 1, c6, _, f5, rfl, rfl, r3, Or.inr rfl⟩
  · rintro st tt ⟨x, c4, m4, f4, rfl, rfl, q1, q2⟩
    refine ⟨.inr (x, c4), .inr (x, m4, f4), ?_, ?_, x, c4, m4, f4, Or.inr ⟨rfl, rfl⟩, q1, q2⟩
    · show fb_K_stories_111 (nI (3 ^ st_pop 10 s)) (nI e9) (nI s) p3 p4 x (nI (3 ^ st_pop 10 s)) c4 = _
      unfold fb_K_stories_111
      rw [if_pos (nI_le (Nat.le_refl _) (by omega))]
    · show fb_D_stories_122 (nI (3 ^ st_pop 10 s)) (nI s) v1 v2 p3 p4 x (nI (3 ^ st_pop 10 s)) m4 f4 = _
      unfold fb_D_stories_122
      rw [if_pos (nI_le (Nat.le_refl _) (by omega))]
end S2
