/-! ===== plans: one bound more in a closed table ===== -/
section PA
variable {n : Nat} {T0 T : Nat → Nat → Int} {b w : Int} {u v : Nat}
theorem nt_lv_trans {i t1 : Nat} (hv : v < n) (h1 : nt_lv T0 n n i t1 v) : ∀ t2 j, nt_lv T0 n n v t2 j → ∃ t, nt_lv T0 n n i t j := by
  intro t2
  induction t2 with
  | zero => intro j h; exact ⟨t1 + 1, Or.inr ⟨v, hv, hv, h1, h⟩⟩
  | succ t2 ih =>
    intro j h
    rcases h with h | ⟨q, q1, q2, q3, q4⟩
    · exact ih j h
    · obtain ⟨t, ht⟩ := ih q q3
      exact ⟨t + 1, Or.inr ⟨q, q1, q2, ht, q4⟩⟩
theorem nt_lv_mono {T1 : Nat → Nat → Int} (h : ∀ i j, T0 i j ≠ 1000000000000 → T1 i j ≠ 1000000000000) {k i : Nat} : ∀ t j, nt_lv T0 n k i t j → nt_lv T1 n k i t j := by
  intro t
  induction t with
  | zero => intro j hj; exact h i j hj
  | succ t ih =>
    intro j hj
    rcases hj with hj | ⟨q, q1, q2, q3, q4⟩
    · exact Or.inl (ih j hj)
    · exact Or.inr ⟨q, q1, q2, ih q q3, h q j q4⟩
/-- u less v is w at most: in the table of bounds told -/
def pn_0 (u v : Nat) (w : Int) (T0 : Nat → Nat → Int) (i j : Nat) : Int := if i = u ∧ j = v ∧ w < T0 i j then w else T0 i j
/-- and in the closed one -/
def pn_1 (u v : Nat) (w : Int) (T : Nat → Nat → Int) (i j : Nat) : Int := if T i u ≠ 1000000000000 ∧ T v j ≠ 1000000000000 ∧ T i u + w + T v j < T i j then T i u + w + T v j else T i j
theorem pn_1_le (i j : Nat) : pn_1 u v w T i j ≤ T i j := by
  unfold pn_1
  split <;> omega
theorem pn_1_le2 {i j : Nat} (h1 : T i u ≠ 1000000000000) (h2 : T v j ≠ 1000000000000) : pn_1 u v w T i j ≤ T i u + w + T v j := by
  unfold pn_1
  by_cases q : T i u + w + T v j < T i j
  · rw [if_pos ⟨h1, h2, q⟩]; omega
  · rw [if_neg (fun x => q x.2.2)]; omega
theorem pn_1_or (i j : Nat) : pn_1 u v w T i j = T i j ∨ (T i u ≠ 1000000000000 ∧ T v j ≠ 1000000000000 ∧ pn_1 u v w T i j = T i u + w + T v j) := by
  unfold pn_1
  split
  · rename_i h; exact Or.inr ⟨h.1, h.2.1, rfl⟩
  · exact Or.inl rfl
theorem pn_0_T0 (h0 : nt_T0 n T0) (hu : u < n) (hv : v < n) (huv : u ≠ v) (hw1 : -250000 ≤ w) (hw2 : w ≤ 250000) : nt_T0 n (pn_0 u v w T0) := by
  refine ⟨fun i hi => ?_, fun i j hi hj => ?_⟩
  · unfold pn_0
    rw [if_neg (by omega)]
    exact h0.1 i hi
  · unfold pn_0
    split
    · exact Or.inr ⟨hw1, hw2⟩
    · exact h0.2 i j hi hj
theorem pn_0_sm (h0 : nt_T0 n T0) (hu : u < n) (hv : v < n) (hw2 : w ≤ 250000) (x : Nat → Int) : nt_sm n (pn_0 u v w T0) x ↔ nt_sm n T0 x ∧ x u - x v ≤ w := by
  have le0 : ∀ i j, pn_0 u v w T0 i j ≤ T0 i j := fun i j => by unfold pn_0; split <;> omega
  constructor
  · intro h
    refine ⟨fun i j hi hj hne => ?_, ?_⟩
    · have h1 := le0 i j
      have h2 : pn_0 u v w T0 i j ≠ 1000000000000 := by
        rcases h0.2 i j hi hj with q | q
        · exact absurd q hne
        · omega
      have := h i j hi hj h2
      omega
    · have e : pn_0 u v w T0 u v ≤ w := by
        unfold pn_0
        by_cases q : w < T0 u v
        · rw [if_pos ⟨rfl, rfl, q⟩]; omega
        · rw [if_neg (fun z => q z.2.2)]; omega
      have := h u v hu hv (by omega)
      omega
  · rintro ⟨h1, h2⟩ i j hi hj hne
    unfold pn_0 at hne ⊢
    split
    · rename_i z
      rw [z.1, z.2.1]; exact h2
    · rename_i z
      rw [if_neg z] at hne
      exact h1 i j hi hj hne
/-- against what is made sure: it can't be -/
theorem pn_odds (h0 : nt_T0 n T0) (h : nt_G n n T0 T b) (hu : u < n) (hv : v < n) (hw2 : w ≤ 250000) (hne : T v u ≠ 1000000000000) (hlt : T v u + w < 0) : ¬ ∃ x, nt_sm n (pn_0 u v w T0) x := by
  rintro ⟨x, hx⟩
  obtain ⟨h1, h2⟩ := (pn_0_sm h0 hu hv hw2 x).mp hx
  have := h.2.2.2.1 v u hv hu hne x h1
  omega
theorem pn_step (hb : 0 ≤ b) (hn : n ≤ 44) (h0 : nt_T0 n T0) (h : nt_G n n T0 T b) (hu : u < n) (hv : v < n) (huv : u ≠ v) (hw1 : -250000 ≤ w) (hw2 : w ≤ 250000) (hok : T v u = 1000000000000 ∨ 0 ≤ T v u + w) : nt_G n n (pn_0 u v w T0) (pn_1 u v w T) (2 * b + 250000) := by
  have ub : ∀ i j, i < n → j < n → T i j ≠ 1000000000000 → T i j ≤ 12000000 := fun i j hi hj => nt_G_ub hn h0 h hi hj
  obtain ⟨g1, g2, g3, g4, g5, g6⟩ := h
  have le : ∀ i j, i < n → j < n → T i j ≤ 1000000000000 := fun i j hi hj => by
    have := g1 i j hi hj
    rcases h0.2 i j hi hj with q | q <;> omega
  -- what a way over v, u is worth
  have cyc : ∀ q, q < n → T v q ≠ 1000000000000 → T q u ≠ 1000000000000 → 0 ≤ T v q + T q u + w := by
    intro q hq h1 h2
    have a1 := g2 q v u hq hq hv hu h1 h2
    have a2 := ub v q hv hq h1
    have a3 := ub q u hq hu h2
    rcases hok with z | z
    · omega
    · omega
  refine ⟨fun i j hi hj => ?_, fun q i j hq _ hi hj n1 n2 => ?_, fun i hi => ?_, fun i j hi hj hne x hx => ?_, fun i j hi hj hne => ?_, fun i j hi hj => ?_⟩
  · have l1 := pn_1_le (u := u) (v := v) (w := w) (T := T) i j
    have l2 := g1 i j hi hj
    unfold pn_0
    split
    · rename_i z
      rw [z.1, z.2.1]
      have := pn_1_le2 (w := w) (i := u) (j := v) (u := u) (v := v) (T := T) (by rw [g3 u hu]; omega) (by rw [g3 v hv]; omega)
      rw [g3 u hu, g3 v hv] at this
      omega
    · omega
  · have l1 := pn_1_le (u := u) (v := v) (w := w) (T := T) i j
    rcases pn_1_or (u := u) (v := v) (w := w) (T := T) i q with e1 | ⟨a1, a2, a3⟩
    · rw [e1] at n1 ⊢
      rcases pn_1_or (u := u) (v := v) (w := w) (T := T) q j with e2 | ⟨b1, b2, b3⟩
      · rw [e2] at n2 ⊢
        have := g2 q i j hq hq hi hj n1 n2
        omega
      · rw [b3]
        have h1 := g2 q i u hq hq hi hu n1 b1
        have u1 := ub i q hi hq n1
        have u2 := ub q u hq hu b1
        have := pn_1_le2 (w := w) (u := u) (v := v) (T := T) (i := i) (j := j) (by omega) b2
        omega
    · rw [a3]
      rcases pn_1_or (u := u) (v := v) (w := w) (T := T) q j with e2 | ⟨b1, b2, b3⟩
      · rw [e2] at n2 ⊢
        have h1 := g2 q v j hq hq hv hj a2 n2
        have u1 := ub v q hv hq a2
        have u2 := ub q j hq hj n2
        have := pn_1_le2 (w := w) (u := u) (v := v) (T := T) (i := i) (j := j) a1 (by omega)
        omega
      · rw [b3]
        have h1 := cyc q hq a2 b1
        have := pn_1_le2 (w := w) (u := u) (v := v) (T := T) (i := i) (j := j) a1 b2
        omega
  · rcases pn_1_or (u := u) (v := v) (w := w) (T := T) i i with e | ⟨a1, a2, a3⟩
    · rw [e]; exact g3 i hi
    · have h1 := cyc i hi a2 a1
      have l1 := pn_1_le (u := u) (v := v) (w := w) (T := T) i i
      have := g3 i hi
      omega
  · obtain ⟨x1, x2⟩ := (pn_0_sm h0 hu hv hw2 x).mp hx
    rcases pn_1_or (u := u) (v := v) (w := w) (T := T) i j with e | ⟨a1, a2, a3⟩
    · rw [e] at hne ⊢
      exact g4 i j hi hj hne x x1
    · have h1 := g4 i u hi hu a1 x x1
      have h2 := g4 v j hv hj a2 x x1
      omega
  · have mono : ∀ i j, T0 i j ≠ 1000000000000 → pn_0 u v w T0 i j ≠ 1000000000000 := fun i j q => by
      unfold pn_0
      split
      · omega
      · exact q
    rcases pn_1_or (u := u) (v := v) (w := w) (T := T) i j with e | ⟨a1, a2, a3⟩
    · rw [e] at hne
      obtain ⟨t, ht⟩ := g5 i j hi hj hne
      exact ⟨t, nt_lv_mono mono t j ht⟩
    · obtain ⟨t1, ht1⟩ := g5 i u hi hu a1
      obtain ⟨t2, ht2⟩ := g5 v j hv hj a2
      have e0 : pn_0 u v w T0 u v ≠ 1000000000000 := by
        unfold pn_0
        by_cases q : w < T0 u v
        · rw [if_pos ⟨rfl, rfl, q⟩]; omega
        · rw [if_neg (fun z => q z.2.2)]; omega
      have s1 : nt_lv (pn_0 u v w T0) n n i (t1 + 1) v := Or.inr ⟨u, hu, hu, nt_lv_mono mono t1 u ht1, e0⟩
      exact nt_lv_trans hv s1 t2 j (nt_lv_mono mono t2 j ht2)
  · have h1 := g6 i j hi hj
    have h2 := g6 i u hi hu
    have h3 := g6 v j hv hj
    rcases pn_1_or (u := u) (v := v) (w := w) (T := T) i j with e | ⟨a1, a2, a3⟩
    · rw [e]; omega
    · rw [a3]; omega
/-- where nothing is new -/
theorem pn_same (hn : n ≤ 44) (h0 : nt_T0 n T0) (h : nt_G n n T0 T b) (hu : u < n) (hv : v < n) (hle : T u v ≤ w) (hw2 : w ≤ 250000) : ∀ i j, i < n → j < n → pn_1 u v w T i j = T i j := by
  have ub : ∀ i j, i < n → j < n → T i j ≠ 1000000000000 → T i j ≤ 12000000 := fun i j hi hj => nt_G_ub hn h0 h hi hj
  intro i j hi hj
  rcases pn_1_or (u := u) (v := v) (w := w) (T := T) i j with e | ⟨a1, a2, a3⟩
  · exact e
  · have l1 := pn_1_le (u := u) (v := v) (w := w) (T := T) i j
    have g2 := h.2.1
    have h1 := g2 u i v hu hu hi hv a1 (by omega)
    have u1 := ub i u hi hu a1
    have h2 := g2 v i j hv hv hi hj (by omega) a2
    omega
/-- in a table with both ways of each, numbers are as far below 0 as above -/
theorem pn_low (hn : n ≤ 44) (h0 : nt_T0 n T0) (h : nt_G n n T0 T b) (hs : nt_sy n T) : nt_G n n T0 T 12000000 := by
  have ub : ∀ i j, i < n → j < n → T i j ≠ 1000000000000 → T i j ≤ 12000000 := fun i j hi hj => nt_G_ub hn h0 h hi hj
  obtain ⟨g1, g2, g3, g4, g5, g6⟩ := h
  refine ⟨g1, g2, g3, g4, g5, fun i j hi hj => ?_⟩
  by_cases q : T i j = 1000000000000
  · rw [q]; omega
  · have q2 := hs i j hi hj q
    have h1 := g2 j i i hj hj hi hi q q2
    have h2 := ub j i hj hi q2
    have := g3 i hi
    omega
/-- both ways of a pair: the finite ones stay alike -/
theorem pn_sy (hb : 0 ≤ b) (hn : n ≤ 44) (h0 : nt_T0 n T0) (h : nt_G n n T0 T b) (hu : u < n) (hv : v < n) (huv : u ≠ v) (hw1 : -250000 ≤ w) (hw2 : w ≤ 250000) {w2 : Int} (hw3 : w2 ≤ 250000) (hok : T v u = 1000000000000 ∨ 0 ≤ T v u + w) (hs : nt_sy n T) : nt_sy n (pn_1 v u w2 (pn_1 u v w T)) := by
  have G1 := pn_step hb hn h0 h hu hv huv hw1 hw2 hok
  have T1 := pn_0_T0 (w := w) h0 hu hv huv hw1 hw2
  have ub : ∀ i j, i < n → j < n → T i j ≠ 1000000000000 → T i j ≤ 12000000 := fun i j hi hj => nt_G_ub hn h0 h hi hj
  have ub1 : ∀ i j, i < n → j < n → pn_1 u v w T i j ≠ 1000000000000 → pn_1 u v w T i j ≤ 12000000 := fun i j hi hj => nt_G_ub hn T1 G1 hi hj
  have z0 := h.2.2.1
  have fin1 : ∀ i j, i < n → j < n → T i j ≠ 1000000000000 → pn_1 u v w T i j ≠ 1000000000000 := fun i j hi hj q => by
    have := pn_1_le (u := u) (v := v) (w := w) (T := T) i j
    have := ub i j hi hj q
    omega
  have fin1' : ∀ i j, i < n → j < n → T i u ≠ 1000000000000 → T v j ≠ 1000000000000 → pn_1 u v w T i j ≠ 1000000000000 := fun i j hi hj q1 q2 => by
    have := pn_1_le2 (w := w) (u := u) (v := v) (T := T) (i := i) (j := j) q1 q2
    have := ub i u hi hu q1
    have := ub v j hv hj q2
    omega
  have fin2 : ∀ i j, i < n → j < n → pn_1 u v w T i j ≠ 1000000000000 → pn_1 v u w2 (pn_1 u v w T) i j ≠ 1000000000000 := fun i j hi hj q => by
    have := pn_1_le (u := v) (v := u) (w := w2) (T := pn_1 u v w T) i j
    have := ub1 i j hi hj q
    omega
  have fin2' : ∀ i j, i < n → j < n → pn_1 u v w T i v ≠ 1000000000000 → pn_1 u v w T u j ≠ 1000000000000 → pn_1 v u w2 (pn_1 u v w T) i j ≠ 1000000000000 := fun i j hi hj q1 q2 => by
    have := pn_1_le2 (w := w2) (u := v) (v := u) (T := pn_1 u v w T) (i := i) (j := j) q1 q2
    have := ub1 i v hi hv q1
    have := ub1 u j hu hj q2
    omega
  -- joined in the new table: joined before, or over the pair
  have J1 : ∀ i j, i < n → j < n → pn_1 u v w T i j ≠ 1000000000000 → T i j ≠ 1000000000000 ∨ (T i u ≠ 1000000000000 ∧ T v j ≠ 1000000000000) := fun i j hi hj q => by
    rcases pn_1_or (u := u) (v := v) (w := w) (T := T) i j with e | ⟨a1, a2, -⟩
    · rw [e] at q; exact Or.inl q
    · exact Or.inr ⟨a1, a2⟩
  have back : ∀ i j, i < n → j < n → (T i j ≠ 1000000000000 ∨ (T i u ≠ 1000000000000 ∧ T v j ≠ 1000000000000) ∨ (T i v ≠ 1000000000000 ∧ T u j ≠ 1000000000000)) → pn_1 v u w2 (pn_1 u v w T) j i ≠ 1000000000000 := by
    intro i j hi hj q
    rcases q with q | ⟨q1, q2⟩ | ⟨q1, q2⟩
    · exact fin2 j i hj hi (fin1 j i hj hi (hs i j hi hj q))
    · exact fin2' j i hj hi (fin1 j v hj hv (hs v j hv hj q2)) (fin1 u i hu hi (hs i u hi hu q1))
    · exact fin2 j i hj hi (fin1' j i hj hi (hs u j hu hj q2) (hs i v hi hv q1))
  intro i j hi hj hne
  refine back i j hi hj ?_
  rcases pn_1_or (u := v) (v := u) (w := w2) (T := pn_1 u v w T) i j with e | ⟨a1, a2, -⟩
  · rw [e] at hne
    rcases J1 i j hi hj hne with q | q
    · exact Or.inl q
    · exact Or.inr (Or.inl q)
  · rcases J1 i v hi hv a1 with q | ⟨q1, -⟩
    · rcases J1 u j hu hj a2 with r | ⟨-, r2⟩
      · exact Or.inr (Or.inr ⟨q, r⟩)
      · -- i to v, v to j
        have := h.2.1 v i j hv hv hi hj q r2
        have := ub i v hi hv q
        have := ub v j hv hj r2
        exact Or.inl (by omega)
    · rcases J1 u j hu hj a2 with r | ⟨-, r2⟩
      · have := h.2.1 u i j hu hu hi hj q1 r
        have := ub i u hi hu q1
        have := ub u j hu hj r
        exact Or.inl (by omega)
      · exact Or.inr (Or.inl ⟨q1, r2⟩)
end PA
