section OW
variable {k : Nat} {c m : Nat → Nat → Int32} {p : Int32}
def w_min (c m : Nat → Nat → Int32) (p : Int32) (S : Nat → Nat → Prop) (x e : Int) : Prop := (x = e ∧ ∀ a b, S a b → ¬ w_ok c m p a b) ∨ ((∃ a b, S a b ∧ w_ok c m p a b ∧ x = w_y c a b) ∧ ∀ a b, S a b → w_ok c m p a b → x ≤ w_y c a b)
theorem w_same {S S2 : Nat → Nat → Prop} {x e : Int} (h : w_min c m p S x e) (h1 : ∀ a b, S a b → S2 a b) (h2 : ∀ a b, S2 a b → w_ok c m p a b → S a b) : w_min c m p S2 x e := by
  rcases h with ⟨h3, h4⟩ | ⟨⟨a, b, h3, h4, h5⟩, h6⟩
  · exact Or.inl ⟨h3, fun a b q1 q2 => h4 a b (h2 a b q1 q2) q2⟩
  · exact Or.inr ⟨⟨a, b, h1 a b h3, h4, h5⟩, fun a b q1 q2 => h6 a b (h2 a b q1 q2) q2⟩
theorem w_add {S S2 : Nat → Nat → Prop} {x x2 e : Int} {a b : Nat} (h : w_min c m p S x e) (hok : w_ok c m p a b) (h1 : ∀ i j, S i j → S2 i j) (h0 : S2 a b) (h2 : ∀ i j, S2 i j → w_ok c m p i j → S i j ∨ (i = a ∧ j = b)) (hy : ∀ i j, S i j → w_y c i j ≠ e) (he : x = e → x2 = w_y c a b) (hn : x ≠ e → x2 = if w_y c a b < x then w_y c a b else x) : w_min c m p S2 x2 e := by
  refine Or.inr ?_
  rcases h with ⟨h3, h4⟩ | ⟨⟨i, j, h3, h4, h5⟩, h6⟩
  · have := he h3
    refine ⟨⟨a, b, h0, hok, this⟩, fun i j q1 q2 => ?_⟩
    rcases h2 i j q1 q2 with q | ⟨rfl, rfl⟩
    · exact absurd q2 (h4 i j q)
    · omega
  · have hx := hn (by rw [h5]; exact hy i j h3)
    by_cases z : w_y c a b < x
    · rw [if_pos z] at hx
      refine ⟨⟨a, b, h0, hok, hx⟩, fun i2 j2 q1 q2 => ?_⟩
      rcases h2 i2 j2 q1 q2 with q3 | ⟨rfl, rfl⟩
      · have := h6 i2 j2 q3 q2
        omega
      · omega
    · rw [if_neg z] at hx
      refine ⟨⟨i, j, h1 i j h3, h4, by omega⟩, fun i2 j2 q1 q2 => ?_⟩
      rcases h2 i2 j2 q1 q2 with q3 | ⟨rfl, rfl⟩
      · have := h6 i2 j2 q3 q2
        omega
      · omega
theorem h_year (hC : ∀ h, h < 4 → iC1 (i_v c 1) (m 85) h) {a : Nat} (ha : a < 4) : fx_D_chainOf (nI a) 2 m = some (c 24 a) ∧ 0 ≤ (c 24 a).toInt ∧ (c 24 a).toInt ≤ 140 := by
  obtain ⟨K, -, -, -, a4, a5, -⟩ := hC a ha
  have a4 : m 85 (341 + 26 * a) = c 24 a := a4
  refine ⟨?_, a5⟩
  unfold fx_D_chainOf
  have e : ((340 : Int32) + ((26 : Int32) * nI a)) + (1 : Int32) = nI (340 + 26 * a + 1) := kp_ix3 340 26 a 1
  rw [if_pos rfl, e, kp_gd _ (kp_in_nI (by omega) (by omega)), nI_clamp (by omega), show 340 + 26 * a + 1 = 341 + 26 * a by omega, a4]
theorem h_will (hC : ∀ h, h < 4 → iC1 (i_v c 1) (m 85) h) {a : Nat} (ha : a < 4) (p : Int32) : ∃ d : Int32, fx_Chains_doubtOf (nI a) c = some d ∧ fx_D_chainOf (nI a) 1 m = some d ∧ fx_Chains_willDo (nI a) p c = some (decide (c 23 a ≠ 0 ∧ d.toInt ≤ p.toInt)) := by
  obtain ⟨d, d1, d2, -⟩ := h_chainD ha (hC a ha)
  obtain ⟨K, hK, a1, -⟩ := hC a ha
  have a1 : c 23 a = nI K := a1
  refine ⟨d, d1, d2, ?_⟩
  unfold fx_Chains_willDo
  rw [kp_gd _ (kp_in_nI (by omega) (by omega)), nI_clamp (by omega), a1, d1, kp_b1]
  simp only [kp_le, kp_lt, ki_0, nI_toInt (show K < 2 ^ 31 by omega), kp_eq, ne_eq]
  split
  · simp; omega
  · split
    · simp; omega
    · simp; omega
theorem wk_step (hC : ∀ h, h < 4 → iC1 (i_v c 1) (m 85) h) {a b : Nat} (ha : a < 4) (hb : b < 4) (x : Int32) : ∃ x2 : Int32, fb_K_when_33 (nI a) p c x (nI b) = some (.inl (x2, nI (b + 1))) ∧ ((w_ok c m p a b ∧ x2.toInt = if w_y c a b < x.toInt then w_y c a b else x.toInt) ∨ (¬ w_ok c m p a b ∧ x2 = x)) := by
  obtain ⟨d1, u1, -, u3⟩ := h_will hC ha p
  obtain ⟨d2, w1, -, w3⟩ := h_will hC hb p
  obtain ⟨lk, l1, -, -, l2⟩ := h_lack ha hb hC
  have l3 := l2 0 (by rw [ki_0]; omega) (by rw [ki_0]; omega)
  rw [ki_0] at l3
  unfold fb_K_when_33
  have e4 : ¬ (4 : Int32) ≤ nI b := nI_ge (b := 4) hb (by omega)
  rw [if_neg e4, u3, kp_b1]
  have hok : w_ok c m p a b ↔ (c 23 a ≠ 0 ∧ d1.toInt ≤ p.toInt) ∧ (c 23 b ≠ 0 ∧ d2.toInt ≤ p.toInt) ∧ lk.toInt ≤ 0 := by
    unfold w_ok
    rw [u1, w1, l3]
    constructor
    · rintro ⟨q1, q2, ⟨x, y, q3, q4, q5, q6⟩, q7⟩
      cases q3; cases q4
      exact ⟨⟨q1, q5⟩, ⟨q2, q6⟩, by simpa using q7⟩
    · rintro ⟨⟨q1, q2⟩, ⟨q3, q4⟩, q5⟩
      exact ⟨q1, q3, ⟨d1, d2, rfl, rfl, q2, q4⟩, by simp [q5]⟩
  by_cases z1 : c 23 a ≠ 0 ∧ d1.toInt ≤ p.toInt
  · rw [if_pos (decide_eq_true z1), w3, kp_b1]
    by_cases z2 : c 23 b ≠ 0 ∧ d2.toInt ≤ p.toInt
    · rw [if_pos (decide_eq_true z2), l1, kp_b1]
      by_cases z3 : 0 < lk
      · rw [if_pos z3]
        refine ⟨x, by unfold fj_K_when_92; rw [nI_1], Or.inr ⟨fun q => ?_, rfl⟩⟩
        have := (hok.mp q).2.2
        rw [kp_lt, ki_0] at z3
        omega
      · rw [if_neg z3, kp_gd _ (kp_in_nI (by omega) (by omega)), kp_gd _ (kp_in_nI (by omega) (by omega)), nI_clamp (by omega), nI_clamp (by omega), kp_let]
        refine ⟨_, by unfold fj_K_when_92; rw [nI_1], Or.inl ⟨hok.mpr ⟨z1, z2, ?_⟩, ?_⟩⟩
        · rw [kp_lt, ki_0] at z3; omega
        · unfold w_y
          simp only [kp_lt]
          by_cases q : (c 24 a).toInt < (c 24 b).toInt
          · have q2 : (c 24 a).toInt ≤ (c 24 b).toInt := by omega
            simp only [if_pos q, if_pos q2]; split <;> rfl
          · by_cases q2 : (c 24 a).toInt ≤ (c 24 b).toInt
            · have q3 : (c 24 b).toInt = (c 24 a).toInt := by omega
              simp only [if_neg q, if_pos q2]
              rw [q3]; split <;> rfl
            · simp only [if_neg q, if_neg q2]; split <;> rfl
    · rw [if_neg (fun q => z2 (of_decide_eq_true q))]
      exact ⟨x, by unfold fj_K_when_92; rw [nI_1], Or.inr ⟨fun q => z2 (hok.mp q).2.1, rfl⟩⟩
  · rw [if_neg (fun q => z1 (of_decide_eq_true q))]
    exact ⟨x, by unfold fj_K_when_92; rw [nI_1], Or.inr ⟨fun q => z1 (hok.mp q).1, rfl⟩⟩
theorem wd_step (hC : ∀ h, h < 4 → iC1 (i_v c 1) (m 85) h) {a b : Nat} (ha : a < 4) (hb : b < a) (x : Int32) : ∃ x2 : Int32, fb_D_when_19 (nI a) m p x (nI b) = some (.inl (x2, nI (b + 1))) ∧ ((w_ok c m p a b ∧ x2.toInt = if x.toInt < 0 then w_y c a b else if w_y c a b < x.toInt then w_y c a b else x.toInt) ∨ (¬ w_ok c m p a b ∧ x2 = x)) := by
  have hb4 : b < 4 := by omega
  obtain ⟨d1, u1, u2, -⟩ := h_will hC ha p
  obtain ⟨d2, w1, w2, -⟩ := h_will hC hb4 p
  obtain ⟨lk, -, -, -, l2⟩ := h_lack ha hb4 hC
  have l3 := l2 0 (by rw [ki_0]; omega) (by rw [ki_0]; omega)
  rw [ki_0] at l3
  obtain ⟨y1, y2, y3⟩ := h_year hC ha
  obtain ⟨t1, t2, t3⟩ := h_year hC hb4
  unfold fb_D_when_19
  have e4 : ¬ nI a ≤ nI b := nI_ge hb (by omega)
  rw [if_neg e4, h_many ha hC, kp_b1, h_many hb4 hC, kp_b1, l3, kp_b1, u2, kp_b1, w2, kp_b1, y1, t1]
  have hok : w_ok c m p a b ↔ (c 23 a ≠ 0 ∧ d1.toInt ≤ p.toInt) ∧ (c 23 b ≠ 0 ∧ d2.toInt ≤ p.toInt) ∧ lk.toInt ≤ 0 := by
    unfold w_ok
    rw [u1, w1, l3]
    constructor
    · rintro ⟨q1, q2, ⟨x, y, q3, q4, q5, q6⟩, q7⟩
      cases q3; cases q4
      exact ⟨⟨q1, q5⟩, ⟨q2, q6⟩, by simpa using q7⟩
    · rintro ⟨⟨q1, q2⟩, ⟨q3, q4⟩, q5⟩
      exact ⟨q1, q3, ⟨d1, d2, rfl, rfl, q2, q4⟩, by simp [q5]⟩
  have no : ¬ w_ok c m p a b → ∃ x2 : Int32, fj_D_when_128 (nI b) x = some (.inl (x2, nI (b + 1))) ∧ ((w_ok c m p a b ∧ x2.toInt = if x.toInt < 0 then w_y c a b else if w_y c a b < x.toInt then w_y c a b else x.toInt) ∨ (¬ w_ok c m p a b ∧ x2 = x)) := fun q => ⟨x, by unfold fj_D_when_128; rw [nI_1], Or.inr ⟨q, rfl⟩⟩
  by_cases z1 : c 23 a = 0
  · rw [if_pos z1]
    exact no (fun q => (hok.mp q).1.1 z1)
  rw [if_neg z1]
  by_cases z2 : c 23 b = 0
  · rw [if_pos z2]
    exact no (fun q => (hok.mp q).2.1.1 z2)
  rw [if_neg z2]
  by_cases z3 : lk.toInt ≤ 0
  · rw [if_pos (by simp [z3])]
    by_cases z4 : p < d1
    · rw [if_pos z4]
      exact no (fun q => by have := (hok.mp q).1.2; rw [kp_lt] at z4; omega)
    rw [if_neg z4]
    by_cases z5 : d2 ≤ p
    · rw [if_pos z5]
      rw [kp_lt] at z4
      rw [kp_le] at z5
      have yes : w_ok c m p a b := hok.mpr ⟨⟨z1, by omega⟩, ⟨z2, z5⟩, z3⟩
      simp only [kp_b1]
      have fin : ∀ y : Int32, y.toInt = w_y c a b → ∃ x2 : Int32, fj_D_when_109 x (nI b) y = some (.inl (x2, nI (b + 1))) ∧ ((w_ok c m p a b ∧ x2.toInt = if x.toInt < 0 then w_y c a b else if w_y c a b < x.toInt then w_y c a b else x.toInt) ∨ (¬ w_ok c m p a b ∧ x2 = x)) := by
        intro y hy
        unfold fj_D_when_109 fj_D_when_121 fj_D_when_127 fj_D_when_128
        simp only [kp_lt, kp_le, ki_0, hy]
        by_cases v1 : x.toInt < 0
        · rw [if_pos v1, if_pos v1]
          exact ⟨y, by rw [nI_1], Or.inl ⟨yes, hy⟩⟩
        · rw [if_neg v1, if_neg v1]
          by_cases v2 : x.toInt ≤ w_y c a b
          · rw [if_pos v2, if_neg (by omega)]
            exact ⟨x, by rw [nI_1], Or.inl ⟨yes, rfl⟩⟩
          · rw [if_neg v2, if_pos (by omega)]
            exact ⟨y, by rw [nI_1], Or.inl ⟨yes, hy⟩⟩
      by_cases z6 : c 24 a ≤ c 24 b
      · rw [if_pos z6]
        exact fin _ (by unfold w_y; rw [kp_le] at z6; rw [if_pos z6])
      · rw [if_neg z6]
        exact fin _ (by unfold w_y; rw [kp_le] at z6; rw [if_neg z6])
    · rw [if_neg z5]
      exact no (fun q => by have := (hok.mp q).2.1.2; rw [kp_le] at z5; omega)
  · rw [if_neg (by simp [z3])]
    exact no (fun q => z3 (hok.mp q).2.2)
theorem h_yb (hC : ∀ h, h < 4 → iC1 (i_v c 1) (m 85) h) {a b : Nat} (ha : a < 4) (hb : b < 4) : 0 ≤ w_y c a b ∧ w_y c a b ≤ 140 := by
  obtain ⟨-, y2, y3⟩ := h_year hC ha
  obtain ⟨-, t2, t3⟩ := h_year hC hb
  unfold w_y
  split <;> omega
theorem wk_inner (hC : ∀ h, h < 4 → iC1 (i_v c 1) (m 85) h) {a : Nat} (ha : a < 4) {x : Int32} (h : w_min c m p (fun i j => i < j ∧ j < 4 ∧ i < a) x.toInt 141) : ∃ x2 : Int32, kv_loop (kv_u2 (fb_K_when_33 (nI a) p c)) (x, nI (a + 1)) = some x2 ∧ w_min c m p (fun i j => i < j ∧ j < 4 ∧ i < a + 1) x2.toInt 141 := by
  refine kp_inv (kv_u2 (fb_K_when_33 (nI a) p c)) (fun n s => ∃ x : Int32, s = (x, nI (a + 1 + n)) ∧ w_min c m p (fun i j => i < j ∧ j < 4 ∧ (i < a ∨ (i = a ∧ j < a + 1 + n))) x.toInt 141) _ (3 - a) ?_ ?_ _ ⟨x, rfl, w_same h (fun i j q => ⟨q.1, q.2.1, Or.inl q.2.2⟩) (fun i j q _ => ⟨q.1, q.2.1, by rcases q.2.2 with q3 | q3 <;> omega⟩)⟩
  · rintro n s hn ⟨x, rfl, hx⟩
    refine Or.inl ?_
    obtain ⟨x2, e1, e2⟩ := wk_step (p := p) hC ha (b := a + 1 + n) (by omega) x
    refine ⟨(x2, nI (a + 1 + n + 1)), e1, x2, rfl, ?_⟩
    rcases e2 with ⟨q1, q2⟩ | ⟨q1, rfl⟩
    · refine w_add hx q1 (fun i j q => ⟨q.1, q.2.1, by omega⟩) ⟨by omega, by omega, Or.inr ⟨rfl, by omega⟩⟩ (fun i j q _ => ?_) (fun i j q => ?_) (fun q => ?_) (fun _ => q2)
      · by_cases z : i = a ∧ j = a + 1 + n
        · exact Or.inr z
        · exact Or.inl ⟨q.1, q.2.1, by omega⟩
      · have := h_yb hC (show i < 4 by omega) q.2.1
        omega
      · have := h_yb hC ha (show a + 1 + n < 4 by omega)
        rw [q2, if_pos (by omega)]
    · refine w_same hx (fun i j q => ⟨q.1, q.2.1, by omega⟩) (fun i j q qo => ⟨q.1, q.2.1, ?_⟩)
      by_cases z : i = a ∧ j = a + 1 + n
      · rw [z.1, z.2] at qo; exact absurd qo q1
      · omega
  · rintro s ⟨x, rfl, hx⟩
    refine ⟨x, ?_, w_same hx (fun i j q => ⟨q.1, q.2.1, by omega⟩) (fun i j q _ => ⟨q.1, q.2.1, by omega⟩)⟩
    show fb_K_when_33 (nI a) p c x (nI (a + 1 + (3 - a))) = _
    unfold fb_K_when_33
    have e : (4 : Int32) ≤ nI (a + 1 + (3 - a)) := nI_le (a := 4) (by omega) (by omega)
    rw [if_pos e]
theorem wk_all (hC : ∀ h, h < 4 → iC1 (i_v c 1) (m 85) h) : ∃ x : Int32, kv_loop (kv_u2 (fb_K_when_21 p c)) ((141 : Int32), (0 : Int32)) = some x ∧ w_min c m p (fun i j => i < j ∧ j < 4) x.toInt 141 := by
  refine kp_inv (kv_u2 (fb_K_when_21 p c)) (fun n s => ∃ x : Int32, s = (x, nI n) ∧ w_min c m p (fun i j => i < j ∧ j < 4 ∧ i < n) x.toInt 141) _ 4 ?_ ?_ _ ⟨141, rfl, Or.inl ⟨by decide, fun a b q => by omega⟩⟩
  · rintro n s hn ⟨x, rfl, hx⟩
    refine Or.inl ?_
    obtain ⟨x2, e1, e2⟩ := wk_inner hC hn hx
    refine ⟨(x2, nI (n + 1)), ?_, x2, rfl, e2⟩
    show fb_K_when_21 p c x (nI n) = _
    unfold fb_K_when_21
    have e : ¬ (4 : Int32) ≤ nI n := nI_ge (b := 4) hn (by omega)
    rw [if_neg e, kp_let, nI_1, e1]
    rfl
  · rintro s ⟨x, rfl, hx⟩
    exact ⟨x, rfl, w_same hx (fun i j q => ⟨q.1, q.2.1⟩) (fun i j q _ => ⟨q.1, q.2, by omega⟩)⟩
theorem wd_inner (hC : ∀ h, h < 4 → iC1 (i_v c 1) (m 85) h) {a : Nat} (ha : a < 4) {x : Int32} (h : w_min c m p (fun i j => j < i ∧ i < a) x.toInt (-4)) : ∃ x2 : Int32, kv_loop (kv_u2 (fb_D_when_19 (nI a) m p)) (x, (0 : Int32)) = some x2 ∧ w_min c m p (fun i j => j < i ∧ i < a + 1) x2.toInt (-4) := by
  refine kp_inv (kv_u2 (fb_D_when_19 (nI a) m p)) (fun n s => ∃ x : Int32, s = (x, nI n) ∧ w_min c m p (fun i j => j < i ∧ (i < a ∨ (i = a ∧ j < n))) x.toInt (-4)) _ a ?_ ?_ _ ⟨x, rfl, w_same h (fun i j q => ⟨q.1, Or.inl q.2⟩) (fun i j q _ => ⟨q.1, by omega⟩)⟩
  · rintro n s hn ⟨x, rfl, hx⟩
    refine Or.inl ?_
    obtain ⟨x2, e1, e2⟩ := wd_step (p := p) hC ha hn x
    refine ⟨(x2, nI (n + 1)), e1, x2, rfl, ?_⟩
    rcases e2 with ⟨q1, q2⟩ | ⟨q1, rfl⟩
    · have hpos : x.toInt ≠ -4 → 0 ≤ x.toInt := fun z => by
        rcases hx with ⟨h3, -⟩ | ⟨⟨i, j, h3, -, h5⟩, -⟩
        · exact absurd h3 z
        · have := h_yb hC (show i < 4 by omega) (show j < 4 by omega)
          omega
      refine w_add hx q1 (fun i j q => ⟨q.1, by omega⟩) ⟨hn, Or.inr ⟨rfl, by omega⟩⟩ (fun i j q _ => ?_) (fun i j q => ?_) (fun q => ?_) (fun q => ?_)
      · by_cases z : i = a ∧ j = n
        · exact Or.inr z
        · exact Or.inl ⟨q.1, by omega⟩
      · have := h_yb hC (show i < 4 by omega) (show j < 4 by omega)
        omega
      · rw [q2, if_pos (by omega)]
      · rw [q2, if_neg (by have := hpos q; omega)]
    · refine w_same hx (fun i j q => ⟨q.1, by omega⟩) (fun i j q qo => ⟨q.1, ?_⟩)
      by_cases z : i = a ∧ j = n
      · rw [z.1, z.2] at qo; exact absurd qo q1
      · omega
  · rintro s ⟨x, rfl, hx⟩
    refine ⟨x, ?_, w_same hx (fun i j q => ⟨q.1, by omega⟩) (fun i j q _ => ⟨q.1, by omega⟩)⟩
    show fb_D_when_19 (nI a) m p x (nI a) = _
    unfold fb_D_when_19
    rw [if_pos (nI_le (Nat.le_refl a) (by omega))]
theorem wd_all (hC : ∀ h, h < 4 → iC1 (i_v c 1) (m 85) h) : ∃ x : Int32, kv_loop (kv_u2 (fb_D_when_11 m p)) ((-4 : Int32), (0 : Int32)) = some x ∧ w_min c m p (fun i j => j < i ∧ i < 4) x.toInt (-4) := by
  refine kp_inv (kv_u2 (fb_D_when_11 m p)) (fun n s => ∃ x : Int32, s = (x, nI n) ∧ w_min c m p (fun i j => j < i ∧ i < n) x.toInt (-4)) _ 4 ?_ ?_ _ ⟨-4, rfl, Or.inl ⟨by decide, fun a b q => by omega⟩⟩
  · rintro n s hn ⟨x, rfl, hx⟩
    refine Or.inl ?_
    obtain ⟨x2, e1, e2⟩ := wd_inner hC hn hx
    refine ⟨(x2, nI (n + 1)), ?_, x2, rfl, e2⟩
    show fb_D_when_11 m p x (nI n) = _
    unfold fb_D_when_11
    have e : ¬ (4 : Int32) ≤ nI n := nI_ge (b := 4) hn (by omega)
    rw [if_neg e, e1]
    show some _ = some _
    rw [nI_1]
  · rintro s ⟨x, rfl, hx⟩
    exact ⟨x, rfl, hx⟩
theorem op_when (h : Inv k c m) (p : Int32) : ∃ r, fx_K_when p c = some r ∧ fx_D_when p m = some r := by
  obtain ⟨⟨L, T, U, -, -, -, -, -, -, -, -, hC⟩, -⟩ := h
  obtain ⟨x, x1, x2⟩ := wk_all (p := p) hC
  obtain ⟨y, y1, y2⟩ := wd_all (p := p) hC
  unfold fx_K_when fx_D_when
  by_cases z : 0 ≤ p
  · rw [if_pos z, if_pos z, x1, y1]
    show ∃ r, (if x ≤ 140 then some x else some (-4)) = some r ∧ some y = some r
    refine ⟨y, ?_, rfl⟩
    simp only [kp_le, ki_140]
    rcases x2 with ⟨h3, h4⟩ | ⟨⟨i, j, h3, h4, h5⟩, h6⟩
    · rw [if_neg (by omega)]
      congr 1
      rcases y2 with ⟨g3, g4⟩ | ⟨⟨i, j, g3, g4, g5⟩, g6⟩
      · rw [kp_eq, g3, ki_m4]
      · exact absurd (w_sym (by omega) (by omega) hC g4) (h4 j i ⟨g3.1, g3.2⟩)
    · have := h_yb hC (show i < 4 by omega) (show j < 4 by omega)
      rw [if_pos (by omega)]
      congr 1
      rw [kp_eq]
      rcases y2 with ⟨g3, g4⟩ | ⟨⟨i2, j2, g3, g4, g5⟩, g6⟩
      · exact absurd (w_sym (by omega) (by omega) hC h4) (g4 j i ⟨h3.1, h3.2⟩)
      · have q1 := h6 j2 i2 ⟨g3.1, g3.2⟩ (w_sym (by omega) (by omega) hC g4)
        have q2 := g6 j i ⟨h3.1, h3.2⟩ (w_sym (by omega) (by omega) hC h4)
        rw [w_ysym] at q1 q2
        omega
  · rw [if_neg z, if_neg z]
    exact ⟨-1, rfl, rfl⟩
end OW
