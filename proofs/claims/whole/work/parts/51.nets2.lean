/-! ===== nets: tables that are closed, stage by stage ===== -/
section FW
variable {n k : Nat} {T0 T : Nat → Nat → Int} {b : Int}
def nt_sm (n : Nat) (T0 : Nat → Nat → Int) (x : Nat → Int) : Prop := ∀ i j, i < n → j < n → T0 i j ≠ 1000000000000 → x i - x j ≤ T0 i j
def nt_T0 (n : Nat) (T0 : Nat → Nat → Int) : Prop := (∀ i, i < n → T0 i i = 0) ∧ ∀ i j, i < n → j < n → T0 i j = 1000000000000 ∨ (-250000 ≤ T0 i j ∧ T0 i j ≤ 250000)
/-- what can be reached from i over knots below k, in so many steps -/
def nt_lv (T0 : Nat → Nat → Int) (n k i : Nat) : Nat → Nat → Prop
  | 0 => fun j => T0 i j ≠ 1000000000000
  | t + 1 => fun j => nt_lv T0 n k i t j ∨ ∃ q, q < k ∧ q < n ∧ nt_lv T0 n k i t q ∧ T0 q j ≠ 1000000000000
theorem nt_lv_close {i t j : Nat} (hj : j < n) (h : nt_lv T0 n k i t j) : ∃ s, s ≤ n + 1 ∧ nt_lv T0 n k i s j := by
  have A : ∀ t, (∃ s, s ≤ t ∧ ∀ j, j < n → nt_lv T0 n k i (s + 1) j → nt_lv T0 n k i s j) ∨ t ≤ nt_cnt (nt_lv T0 n k i t) n := by
    intro t
    induction t with
    | zero => exact Or.inr (Nat.zero_le _)
    | succ t ih =>
      rcases ih with ⟨s, h1, h2⟩ | ih
      · exact Or.inl ⟨s, by omega, h2⟩
      · by_cases q : ∀ j, j < n → nt_lv T0 n k i (t + 1) j → nt_lv T0 n k i t j
        · exact Or.inl ⟨t, by omega, q⟩
        · refine Or.inr ?_
          have q2 : ∃ j, j < n ∧ nt_lv T0 n k i (t + 1) j ∧ ¬ nt_lv T0 n k i t j := by
            by_cases w : ∃ j, j < n ∧ nt_lv T0 n k i (t + 1) j ∧ ¬ nt_lv T0 n k i t j
            · exact w
            · refine absurd (fun j hj h1 => ?_) q
              by_cases w2 : nt_lv T0 n k i t j
              · exact w2
              · exact absurd ⟨j, hj, h1, w2⟩ w
          have := nt_cnt_lt n (P := nt_lv T0 n k i t) (Q := nt_lv T0 n k i (t + 1)) (fun j _ h => Or.inl h) q2
          omega
  rcases A (n + 1) with ⟨s, h1, h2⟩ | h1
  · have C : ∀ d j, j < n → nt_lv T0 n k i (s + d) j → nt_lv T0 n k i s j := by
      intro d
      induction d with
      | zero => intro j _ h; exact h
      | succ d ih =>
        intro j hj h
        rcases h with h | ⟨q, q1, q2, q3, q4⟩
        · exact ih j hj h
        · exact h2 j hj (Or.inr ⟨q, q1, q2, ih q q2 q3, q4⟩)
    by_cases e : t ≤ n + 1
    · exact ⟨t, e, h⟩
    · exact ⟨s, h1, C (t - s) j hj (by rw [show s + (t - s) = t by omega]; exact h)⟩
  · have := nt_cnt_le (nt_lv T0 n k i (n + 1)) n
    omega
theorem nt_lv_up {i : Nat} : ∀ t j, nt_lv T0 n k i t j → nt_lv T0 n (k + 1) i t j := by
  intro t
  induction t with
  | zero => intro j h; exact h
  | succ t ih =>
    intro j h
    rcases h with h | ⟨q, q1, q2, q3, q4⟩
    · exact Or.inl (ih j h)
    · exact Or.inr ⟨q, by omega, q2, ih q q3, q4⟩
theorem nt_lv_join {i t1 : Nat} (hk : k < n) (h1 : nt_lv T0 n k i t1 k) : ∀ t2 j, nt_lv T0 n k k t2 j → ∃ t, nt_lv T0 n (k + 1) i t j := by
  intro t2
  induction t2 with
  | zero => intro j h; exact ⟨t1 + 1, Or.inr ⟨k, by omega, hk, nt_lv_up _ _ h1, h⟩⟩
  | succ t2 ih =>
    intro j h
    rcases h with h | ⟨q, q1, q2, q3, q4⟩
    · exact ih j h
    · obtain ⟨t, ht⟩ := ih q q3
      exact ⟨t + 1, Or.inr ⟨q, by omega, q2, ht, q4⟩⟩
def nt_G (n k : Nat) (T0 T : Nat → Nat → Int) (b : Int) : Prop := (∀ i j, i < n → j < n → T i j ≤ T0 i j) ∧ (∀ q i j, q < k → q < n → i < n → j < n → T i q ≠ 1000000000000 → T q j ≠ 1000000000000 → T i j ≤ T i q + T q j) ∧ (∀ i, i < n → T i i = 0) ∧ (∀ i j, i < n → j < n → T i j ≠ 1000000000000 → ∀ x, nt_sm n T0 x → x i - x j ≤ T i j) ∧ (∀ i j, i < n → j < n → T i j ≠ 1000000000000 → ∃ t, nt_lv T0 n k i t j) ∧ (∀ i j, i < n → j < n → -b ≤ T i j)
theorem nt_G_ub (hn : n ≤ 44) (h0 : nt_T0 n T0) (h : nt_G n k T0 T b) {i j : Nat} (hi : i < n) (hj : j < n) (hne : T i j ≠ 1000000000000) : T i j ≤ 12000000 := by
  obtain ⟨g1, g2, g3, g4, g5, g6⟩ := h
  have key : ∀ t, t ≤ n + 1 → ∀ j, j < n → nt_lv T0 n k i t j → T i j ≤ 250000 * ((t : Int) + 1) := by
    intro t
    induction t with
    | zero =>
      intro _ j hj h
      have := g1 i j hi hj
      rcases h0.2 i j hi hj with q | q
      · exact absurd q h
      · omega
    | succ t ih =>
      intro ht j hj h
      rcases h with h | ⟨q, q1, q2, q3, q4⟩
      · have := ih (by omega) j hj h
        omega
      · have h1 := ih (by omega) q q2 q3
        have h2 := g1 q j q2 hj
        rcases h0.2 q j q2 hj with w | w
        · exact absurd w q4
        · have := g2 q i j q1 q2 hi hj (by omega) (by omega)
          omega
  obtain ⟨t, ht⟩ := g5 i j hi hj hne
  obtain ⟨s, hs, hs2⟩ := nt_lv_close hj ht
  have := key s hs j hj hs2
  omega
def nt_st (k : Nat) (T : Nat → Nat → Int) (i j : Nat) : Int := if T i k ≠ 1000000000000 ∧ T k j ≠ 1000000000000 ∧ T i k + T k j < T i j then T i k + T k j else T i j
theorem nt_st_le (k : Nat) (T : Nat → Nat → Int) (i j : Nat) : nt_st k T i j ≤ T i j := by
  unfold nt_st
  split <;> omega
theorem nt_st_le2 {i j : Nat} (h1 : T i k ≠ 1000000000000) (h2 : T k j ≠ 1000000000000) : nt_st k T i j ≤ T i k + T k j := by
  unfold nt_st
  by_cases q : T i k + T k j < T i j
  · rw [if_pos ⟨h1, h2, q⟩]; omega
  · rw [if_neg (fun w => q w.2.2)]; omega
theorem nt_st_or (k : Nat) (T : Nat → Nat → Int) (i j : Nat) : nt_st k T i j = T i j ∨ (T i k ≠ 1000000000000 ∧ T k j ≠ 1000000000000 ∧ nt_st k T i j = T i k + T k j) := by
  unfold nt_st
  split
  · rename_i h; exact Or.inr ⟨h.1, h.2.1, rfl⟩
  · exact Or.inl rfl
theorem nt_st_sound (hk : k < n) (h : nt_G n k T0 T b) : ∀ i j, i < n → j < n → nt_st k T i j ≠ 1000000000000 → ∀ x, nt_sm n T0 x → x i - x j ≤ nt_st k T i j := by
  obtain ⟨g1, g2, g3, g4, g5, g6⟩ := h
  intro i j hi hj hne x hx
  rcases nt_st_or k T i j with e | ⟨e1, e2, e3⟩
  · rw [e] at hne ⊢
    exact g4 i j hi hj hne x hx
  · have h1 := g4 i k hi hk e1 x hx
    have h2 := g4 k j hk hj e2 x hx
    omega
theorem nt_G_step (hn : n ≤ 44) (hk : k < n) (h0 : nt_T0 n T0) (h : nt_G n k T0 T b) (hb : 0 ≤ b) (hd : ∀ i, i < n → 0 ≤ nt_st k T i i) : nt_G n (k + 1) T0 (nt_st k T) (2 * b) := by
  have so := nt_st_sound hk h
  have ub : ∀ i j, i < n → j < n → T i j ≠ 1000000000000 → T i j ≤ 12000000 := fun i j hi hj => nt_G_ub hn h0 h hi hj
  obtain ⟨g1, g2, g3, g4, g5, g6⟩ := h
  refine ⟨fun i j hi hj => ?_, fun q i j hq hqn hi hj n1 n2 => ?_, fun i hi => ?_, so, fun i j hi hj hne => ?_, fun i j hi hj => ?_⟩
  · have := nt_st_le k T i j
    have := g1 i j hi hj
    omega
  · have l1 := nt_st_le k T i j
    have kk := g3 k hk
    by_cases e : q = k
    · subst e
      have e1 : nt_st q T i q = T i q := by
        unfold nt_st
        rw [if_neg (by omega)]
      have e2 : nt_st q T q j = T q j := by
        unfold nt_st
        rw [if_neg (by omega)]
      rw [e1] at n1 ⊢
      rw [e2] at n2 ⊢
      exact nt_st_le2 n1 n2
    · have hq2 : q < k := by omega
      rcases nt_st_or k T i q with e1 | ⟨a1, a2, a3⟩
      · rw [e1] at n1 ⊢
        rcases nt_st_or k T q j with e2 | ⟨b1, b2, b3⟩
        · rw [e2] at n2 ⊢
          have := g2 q i j hq2 hqn hi hj n1 n2
          omega
        · rw [b3]
          have h1 := g2 q i k hq2 hqn hi hk n1 b1
          have u1 := ub i q hi hqn n1
          have u2 := ub q k hqn hk b1
          have := nt_st_le2 (i := i) (j := j) (T := T) (k := k) (by omega) b2
          omega
      · rw [a3]
        rcases nt_st_or k T q j with e2 | ⟨b1, b2, b3⟩
        · rw [e2] at n2 ⊢
          have h1 := g2 q k j hq2 hqn hk hj a2 n2
          have u1 := ub k q hk hqn a2
          have u2 := ub q j hqn hj n2
          have := nt_st_le2 (i := i) (j := j) (T := T) (k := k) a1 (by omega)
          omega
        · rw [b3]
          have h1 := g2 q k k hq2 hqn hk hk a2 b1
          have := nt_st_le2 (i := i) (j := j) (T := T) (k := k) a1 b2
          omega
  · have h1 := hd i hi
    have h2 := nt_st_le k T i i
    have h3 := g3 i hi
    omega
  · rcases nt_st_or k T i j with e1 | ⟨a1, a2, a3⟩
    · rw [e1] at hne
      obtain ⟨t, ht⟩ := g5 i j hi hj hne
      exact ⟨t, nt_lv_up t j ht⟩
    · obtain ⟨t, ht⟩ := g5 i k hi hk a1
      obtain ⟨t2, ht2⟩ := g5 k j hk hj a2
      exact nt_lv_join hk ht t2 j ht2
  · have h1 := g6 i j hi hj
    have h2 := g6 i k hi hk
    have h3 := g6 k j hk hj
    rcases nt_st_or k T i j with e1 | ⟨a1, a2, a3⟩
    · rw [e1]; omega
    · rw [a3]; omega
theorem nt_G_start (h0 : nt_T0 n T0) : nt_G n 0 T0 T0 250000 := by
  refine ⟨fun i j _ _ => Int.le_refl _, fun q i j hq => absurd hq (Nat.not_lt_zero _), h0.1, fun i j hi hj hne x hx => hx i j hi hj hne, fun i j _ _ hne => ⟨0, hne⟩, fun i j hi hj => ?_⟩
  rcases h0.2 i j hi hj with q | q <;> omega
/-- the least of the first n, or 0 -/
def nt_mn (f : Nat → Int) : Nat → Int
  | 0 => 0
  | n + 1 => if f n < nt_mn f n then f n else nt_mn f n
theorem nt_mn_le (f : Nat → Int) : ∀ n, nt_mn f n ≤ 0 ∧ ∀ j, j < n → nt_mn f n ≤ f j
  | 0 => ⟨Int.le_refl _, fun j h => absurd h (Nat.not_lt_zero _)⟩
  | n + 1 => by
    obtain ⟨h1, h2⟩ := nt_mn_le f n
    have e : nt_mn f (n + 1) = if f n < nt_mn f n then f n else nt_mn f n := rfl
    rw [e]
    refine ⟨by split <;> omega, fun j hj => ?_⟩
    by_cases q : j = n
    · rw [q]; split <;> omega
    · have := h2 j (by omega)
      split <;> omega
theorem nt_mn_or (f : Nat → Int) : ∀ n, nt_mn f n = 0 ∨ ∃ j, j < n ∧ nt_mn f n = f j
  | 0 => Or.inl rfl
  | n + 1 => by
    have e : nt_mn f (n + 1) = if f n < nt_mn f n then f n else nt_mn f n := rfl
    rw [e]
    split
    · exact Or.inr ⟨n, by omega, rfl⟩
    · rcases nt_mn_or f n with q | ⟨j, q1, q2⟩
      · exact Or.inl q
      · exact Or.inr ⟨j, by omega, q2⟩
/-- a closed table without a way below 0: it fits, and its numbers are the greatest -/
theorem nt_G_final (hn : n ≤ 44) (h0 : nt_T0 n T0) (h : nt_G n n T0 T b) (hb : 0 ≤ b) : (∃ x, nt_sm n T0 x) ∧ ∀ u v, u < n → v < n → (T u v ≠ 1000000000000 → nt_g (nt_sm n T0) u v (T u v)) ∧ (T u v = 1000000000000 → nt_u (nt_sm n T0) u v) := by
  have ub : ∀ i j, i < n → j < n → T i j ≠ 1000000000000 → T i j ≤ 12000000 := fun i j hi hj => nt_G_ub hn h0 h hi hj
  obtain ⟨g1, g2, g3, g4, g5, g6⟩ := h
  have fin : ∀ i j, i < n → j < n → T0 i j ≠ 1000000000000 → T i j ≠ 1000000000000 ∧ T i j ≤ T0 i j := by
    intro i j hi hj hne
    have := g1 i j hi hj
    rcases h0.2 i j hi hj with q | q
    · exact absurd q hne
    · omega
  have P : ∀ i j, i < n → j < n → T i j ≠ 1000000000000 → nt_mn (T i) n - nt_mn (T j) n ≤ T i j := by
    intro i j hi hj hne
    obtain ⟨h1, h2⟩ := nt_mn_le (T i) n
    rcases nt_mn_or (T j) n with q | ⟨w, q1, q2⟩
    · have := h2 j hj
      omega
    · obtain ⟨h3, h4⟩ := nt_mn_le (T j) n
      have := g2 j i w hj hj hi q1 hne (by omega)
      have := h2 w q1
      omega
  have Pb : ∀ i, i < n → -b ≤ nt_mn (T i) n ∧ nt_mn (T i) n ≤ 0 := by
    intro i hi
    refine ⟨?_, (nt_mn_le (T i) n).1⟩
    rcases nt_mn_or (T i) n with q | ⟨w, q1, q2⟩
    · omega
    · have := g6 i w hi q1
      omega
  refine ⟨⟨fun i => nt_mn (T i) n, fun i j hi hj hne => ?_⟩, fun u v hu hv => ?_⟩
  · have h1 := fin i j hi hj hne
    have h2 := P i j hi hj h1.1
    show nt_mn (T i) n - nt_mn (T j) n ≤ T0 i j
    omega
  have con : ∀ M : Int, 12000000 + b + b ≤ M → ∃ x, nt_sm n T0 x ∧ x v = 0 ∧ (T u v ≠ 1000000000000 → x u = T u v) ∧ (T u v = 1000000000000 → x u = M + nt_mn (T u) n) := by
    intro M hM
    refine ⟨fun i => if T i v = 1000000000000 then M + nt_mn (T i) n else T i v, fun i j hi hj hne => ?_, ?_, fun h => if_neg h, fun h => if_pos h⟩
    · have h1 := fin i j hi hj hne
      show (if T i v = 1000000000000 then M + nt_mn (T i) n else T i v) - (if T j v = 1000000000000 then M + nt_mn (T j) n else T j v) ≤ T0 i j
      by_cases qj : T j v = 1000000000000
      · rw [if_pos qj]
        have p1 := Pb j hj
        have p2 := g6 i j hi hj
        by_cases qi : T i v = 1000000000000
        · rw [if_pos qi]
          have := P i j hi hj h1.1
          omega
        · rw [if_neg qi]
          have := ub i v hi hv qi
          omega
      · rw [if_neg qj]
        have h2 := g2 j i v hj hj hi hv h1.1 qj
        have u1 := ub i j hi hj h1.1
        have u2 := ub j v hj hv qj
        rw [if_neg (by omega)]
        omega
    · show (if T v v = 1000000000000 then M + nt_mn (T v) n else T v v) = 0
      rw [if_neg (by rw [g3 v hv]; omega), g3 v hv]
  refine ⟨fun h => ⟨?_, fun x hx => g4 u v hu hv h x hx⟩, fun h M0 => ?_⟩
  · obtain ⟨x, q1, q2, q3, q4⟩ := con _ (Int.le_refl _)
    exact ⟨x, q1, by rw [q2, q3 h]; omega⟩
  · obtain ⟨x, q1, q2, q3, q4⟩ := con (if 12000000 + b + b ≤ M0 + b then M0 + b else 12000000 + b + b) (by split <;> omega)
    refine ⟨x, q1, ?_⟩
    have := Pb u hu
    rw [q2, q4 h]
    split <;> omega
end FW
