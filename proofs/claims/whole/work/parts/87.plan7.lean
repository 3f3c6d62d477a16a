/-! ===== plans: how wide a table leaves the pairs ===== -/
section PE
variable {c : Nat → Nat → Int32} {r L : Nat} {Sat : (Nat → Int) → Prop}
def pn_sm (f : Nat → Int) : Nat → Int
  | 0 => 0
  | k + 1 => pn_sm f k + f k
theorem pn_sm_b {f : Nat → Int} {B : Int} : ∀ k, (∀ t, t < k → 0 ≤ f t ∧ f t ≤ B) → 0 ≤ pn_sm f k ∧ pn_sm f k ≤ B * (k : Int) := by
  intro k
  induction k with
  | zero => intro _; exact ⟨Int.le_refl _, by show (0 : Int) ≤ B * 0; omega⟩
  | succ k ih =>
    intro h
    have h1 := ih (fun t ht => h t (by omega))
    have h2 := h k (by omega)
    have e : B * ((k + 1 : Nat) : Int) = B * (k : Int) + B := by
      rw [Int.natCast_add, Int.mul_add]
      show B * (k : Int) + B * 1 = _
      rw [Int.mul_one]
    rw [e]
    show 0 ≤ pn_sm f k + f k ∧ pn_sm f k + f k ≤ _
    omega
theorem pn_sm_eq {f g : Nat → Int} : ∀ k, (∀ t, t < k → f t = g t) → pn_sm f k = pn_sm g k := by
  intro k
  induction k with
  | zero => intro _; rfl
  | succ k ih =>
    intro h
    show pn_sm f k + f k = pn_sm g k + g k
    rw [ih (fun t ht => h t (by omega)), h k (by omega)]
def pn_wd (T : Nat → Nat → Int) (i j : Nat) : Int := if T i j = 1000000000000 ∨ T j i = 1000000000000 then 9999 else if 9999 < T i j + T j i then 9999 else T i j + T j i
def pn_row (T : Nat → Nat → Int) (L i : Nat) : Int := pn_sm (fun t => pn_wd T i (i + 1 + t)) (L - (i + 1))
def pn_w (T : Nat → Nat → Int) (L : Nat) : Int := pn_sm (pn_row T L) L
theorem pn_wd_b (h : pn_N c r L Sat) {i j : Nat} (hi : i < L) (hj : j < L) : 0 ≤ pn_wd (pn_t c r) i j ∧ pn_wd (pn_t c r) i j ≤ 9999 := by
  obtain ⟨⟨x, hx⟩, s1, s2⟩ := pn_says h
  unfold pn_wd
  by_cases q : pn_t c r i j = 1000000000000 ∨ pn_t c r j i = 1000000000000
  · rw [if_pos q]; omega
  · rw [if_neg q]
    have h1 := ((s2 i j hi hj).2.1 (fun z => q (Or.inl z))).1.2 x hx
    have h2 := ((s2 j i hj hi).2.1 (fun z => q (Or.inr z))).1.2 x hx
    split <;> omega
theorem pn_row_b (h : pn_N c r L Sat) {i : Nat} (hi : i < L) : 0 ≤ pn_row (pn_t c r) L i ∧ pn_row (pn_t c r) L i ≤ 99990 := by
  have := h.1
  have := pn_sm_b (f := fun t => pn_wd (pn_t c r) i (i + 1 + t)) (B := 9999) (L - (i + 1)) (fun t ht => pn_wd_b h hi (by omega))
  unfold pn_row
  omega
theorem pn_inner (h : pn_N c 79 L Sat) {i : Nat} (hi : i < L) (x : Int32) (hx1 : 0 ≤ x.toInt) (hx2 : x.toInt ≤ 1000000) : ∃ v, kv_loop (kv_u2 (fb_Planner_widths_16 c (nI i))) (x, nI (i + 1)) = some v ∧ v.toInt = x.toInt + pn_row (pn_t c 79) L i := by
  have hn := h.1
  have h6 := h.2.1
  have key := kp_inv (kv_u2 (fb_Planner_widths_16 c (nI i))) (fun k st => ∃ x2, st = (x2, nI (i + 1 + k)) ∧ x2.toInt = x.toInt + pn_sm (fun t => pn_wd (pn_t c 79) i (i + 1 + t)) k) (fun v => v.toInt = x.toInt + pn_row (pn_t c 79) L i) (L - (i + 1)) ?_ ?_ (x, nI (i + 1)) ⟨x, rfl, by show _ = _ + (0 : Int); omega⟩
  · exact key
  · rintro k st hk ⟨x2, rfl, e2⟩
    refine Or.inl ?_
    have hb := pn_sm_b (f := fun t => pn_wd (pn_t c 79) i (i + 1 + t)) (B := 9999) k (fun t ht => pn_wd_b h hi (by omega))
    have wb := pn_wd_b h hi (show i + 1 + k < L by omega)
    generalize hj : i + 1 + k = j at *
    have hjL : j < L := by omega
    have fin : ∀ y : Int32, y.toInt = pn_wd (pn_t c 79) i j → ∃ s2, fj_Planner_widths_94 x2 (nI j) y = some (.inl s2) ∧ ∃ x3, s2 = (x3, nI (i + 1 + (k + 1))) ∧ x3.toInt = x.toInt + pn_sm (fun t => pn_wd (pn_t c 79) i (i + 1 + t)) (k + 1) := by
      intro y hy
      have e3 : (x2 + y).toInt = x2.toInt + y.toInt := kp_add (by omega) (by omega)
      refine ⟨(x2 + y, nI (i + 1 + (k + 1))), ?_, _, rfl, ?_⟩
      · unfold fj_Planner_widths_94
        rw [kp_let, nI_1, show j + 1 = i + 1 + (k + 1) by omega]
      · rw [e3, e2, hy]
        show _ = x.toInt + (pn_sm (fun t => pn_wd (pn_t c 79) i (i + 1 + t)) k + pn_wd (pn_t c 79) i (i + 1 + k))
        rw [hj]; omega
    have T1 : kv_u2 (fb_Planner_widths_16 c (nI i)) (x2, nI j) = fb_Planner_widths_16 c (nI i) x2 (nI j) := rfl
    rw [T1]
    unfold fb_Planner_widths_16
    rw [h6, if_neg (nI_ge hjL (by omega)), pn_ix, pn_ix, kp_gd _ (kp_in_nI (show 10 * i + j < 100 by omega) (by omega)), nI_clamp (show 10 * i + j < 2 ^ 31 by omega), kp_let, kp_gd _ (kp_in_nI (show 10 * j + i < 100 by omega) (by omega)), nI_clamp (show 10 * j + i < 2 ^ 31 by omega), kp_let]
    have open_ : (pn_t c 79 i j = 1000000000000 ∨ pn_t c 79 j i = 1000000000000) → (9999 : Int32).toInt = pn_wd (pn_t c 79) i j := fun q => by
      unfold pn_wd
      rw [if_pos q]; decide
    rcases pn_t_or c 79 i j with ⟨a1, a2⟩ | ⟨a1, a2, a3, -, -⟩
    · rw [if_pos a1]
      unfold fj_Planner_widths_68 fj_Planner_widths_69
      rw [if_pos rfl]
      exact fin _ (open_ (Or.inl a2))
    rw [if_neg a1]
    rcases pn_t_or c 79 j i with ⟨b1, b2⟩ | ⟨b1, b2, b3, -, -⟩
    · rw [if_pos b1]
      unfold fj_Planner_widths_68 fj_Planner_widths_69
      rw [if_pos rfl]
      exact fin _ (open_ (Or.inr b2))
    rw [if_neg b1]
    unfold fj_Planner_widths_69
    rw [if_neg (show ¬ (1 : Int32) = 0 by decide)]
    refine fin _ ?_
    obtain ⟨-, -, s2⟩ := pn_says h
    have u1 := s2 i j hi hjL
    have u2 := s2 j i hjL hi
    have v1 := (u1.2.1 a3).2
    have v2 := (u2.2.1 b3).2
    have e : (c 79 (10 * i + j) + c 79 (10 * j + i)).toInt = pn_t c 79 i j + pn_t c 79 j i := by
      rw [kp_add (by omega) (by omega), a2, b2]
    have e9 : (9999 : Int32).toInt = 9999 := by decide
    have ew : pn_wd (pn_t c 79) i j = if 9999 < pn_t c 79 i j + pn_t c 79 j i then 9999 else pn_t c 79 i j + pn_t c 79 j i := by
      unfold pn_wd
      exact if_neg (fun q => q.elim a3 b3)
    rw [ew]
    by_cases q : 9999 < pn_t c 79 i j + pn_t c 79 j i
    · have q2 : (9999 : Int32) < c 79 (10 * i + j) + c 79 (10 * j + i) := by rw [kp_lt, e, e9]; exact q
      rw [if_pos q, if_pos q2, e9]
    · have q2 : ¬ (9999 : Int32) < c 79 (10 * i + j) + c 79 (10 * j + i) := by rw [kp_lt, e, e9]; exact q
      rw [if_neg q, if_neg q2, e]
  · rintro st ⟨x2, rfl, e2⟩
    refine ⟨x2, ?_, e2⟩
    have T1 : kv_u2 (fb_Planner_widths_16 c (nI i)) (x2, nI (i + 1 + (L - (i + 1)))) = fb_Planner_widths_16 c (nI i) x2 (nI (i + 1 + (L - (i + 1)))) := rfl
    rw [T1]
    unfold fb_Planner_widths_16
    rw [h6, if_pos (nI_le (by omega) (by omega))]
theorem pn_widths (h : pn_N c 79 L Sat) : ∃ v, fx_Planner_widths c = some v ∧ v.toInt = pn_w (pn_t c 79) L ∧ 0 ≤ v.toInt ∧ v.toInt ≤ 999900 := by
  have hn := h.1
  have h6 := h.2.1
  have key := kp_inv (kv_u2 (fb_Planner_widths_4 c)) (fun k st => ∃ x2, st = (x2, nI k) ∧ x2.toInt = pn_sm (pn_row (pn_t c 79) L) k) (fun v => v.toInt = pn_w (pn_t c 79) L) L ?_ ?_ ((0 : Int32), (0 : Int32)) ⟨0, rfl, rfl⟩
  · obtain ⟨v, h1, h2⟩ := key
    have hb := pn_sm_b (f := pn_row (pn_t c 79) L) (B := 99990) L (fun t ht => pn_row_b h ht)
    have e : pn_w (pn_t c 79) L = pn_sm (pn_row (pn_t c 79) L) L := rfl
    exact ⟨v, by unfold fx_Planner_widths; rw [h1]; rfl, h2, by omega, by omega⟩
  · rintro k st hk ⟨x2, rfl, e2⟩
    refine Or.inl ?_
    have hb := pn_sm_b (f := pn_row (pn_t c 79) L) (B := 99990) k (fun t ht => pn_row_b h (by omega))
    obtain ⟨v, g1, g2⟩ := pn_inner h hk x2 (by omega) (by omega)
    have T1 : kv_u2 (fb_Planner_widths_4 c) (x2, nI k) = fb_Planner_widths_4 c x2 (nI k) := rfl
    rw [T1]
    unfold fb_Planner_widths_4
    rw [h6, if_neg (nI_ge hk (by omega)), kp_let, nI_1, g1]
    exact ⟨(v, nI (k + 1)), rfl, v, rfl, by rw [g2, e2]; rfl⟩
  · rintro st ⟨x2, rfl, e2⟩
    refine ⟨x2, ?_, e2⟩
    show fb_Planner_widths_4 c x2 (nI L) = _
    unfold fb_Planner_widths_4
    rw [h6, if_pos (nI_le (Nat.le_refl _) (by omega))]
end PE
