/-! ===== plans: a table that holds what is told ===== -/
section PU
variable {c : Nat → Nat → Int32} {r n : Nat} {Sat : (Nat → Int) → Prop}
theorem nt_G_eq {T0 T T2 : Nat → Nat → Int} {b : Int} (h : nt_G n n T0 T b) (e : ∀ x y, x < n → y < n → T2 x y = T x y) : nt_G n n T0 T2 b := by
  obtain ⟨g1, g2, g3, g4, g5, g6⟩ := h
  refine ⟨fun i j hi hj => ?_, fun q i j hq hq2 hi hj => ?_, fun i hi => ?_, fun i j hi hj => ?_, fun i j hi hj => ?_, fun i j hi hj => ?_⟩
  · rw [e i j hi hj]; exact g1 i j hi hj
  · rw [e i q hi hq2, e q j hq2 hj, e i j hi hj]; exact g2 q i j hq hq2 hi hj
  · rw [e i i hi hi]; exact g3 i hi
  · rw [e i j hi hj]; exact g4 i j hi hj
  · rw [e i j hi hj]; exact g5 i j hi hj
  · rw [e i j hi hj]; exact g6 i j hi hj
theorem nt_sy_eq {T T2 : Nat → Nat → Int} (h : nt_sy n T) (e : ∀ x y, x < n → y < n → T2 x y = T x y) : nt_sy n T2 := fun i j hi hj => by
  rw [e i j hi hj, e j i hj hi]; exact h i j hi hj
theorem pn_1_eq {T T2 : Nat → Nat → Int} {u v : Nat} {w : Int} (hu : u < n) (hv : v < n) (e : ∀ x y, x < n → y < n → T2 x y = T x y) : ∀ x y, x < n → y < n → pn_1 u v w T2 x y = pn_1 u v w T x y := fun x y hx hy => by
  unfold pn_1
  rw [e x u hx hu, e v y hv hy, e x y hx hy]
def pn_N (c : Nat → Nat → Int32) (r n : Nat) (Sat : (Nat → Int) → Prop) : Prop := n ≤ 10 ∧ c 77 7 = nI n ∧ ∃ T0, nt_T0 n T0 ∧ nt_G n n T0 (pn_t c r) 12000000 ∧ nt_sy n (pn_t c r) ∧ ∀ x, nt_sm n T0 x ↔ Sat x
theorem pn_N_fr {c2 : Nat → Nat → Int32} (h : pn_N c r n Sat) (h1 : ∀ j, c2 r j = c r j) (h2 : c2 77 7 = c 77 7) : pn_N c2 r n Sat := by
  obtain ⟨a1, a2, T0, a3, a4, a5, a6⟩ := h
  have e : ∀ x y, pn_t c2 r x y = pn_t c r x y := fun x y => by unfold pn_t; rw [h1]
  exact ⟨a1, by rw [h2]; exact a2, T0, a3, nt_G_eq a4 (fun x y _ _ => e x y), nt_sy_eq a5 (fun x y _ _ => e x y), a6⟩
theorem pn_N_congr {S2 : (Nat → Int) → Prop} (h : pn_N c r n Sat) (e : ∀ x, Sat x ↔ S2 x) : pn_N c r n S2 := by
  obtain ⟨a1, a2, T0, a3, a4, a5, a6⟩ := h
  exact ⟨a1, a2, T0, a3, a4, a5, fun x => (a6 x).trans (e x)⟩
theorem pn_N_row {r2 : Nat} {c2 : Nat → Nat → Int32} (h : pn_N c r n Sat) (h1 : ∀ j, j < 100 → c2 r2 j = c r j) (h2 : c2 77 7 = c 77 7) : pn_N c2 r2 n Sat := by
  obtain ⟨a1, a2, T0, a3, a4, a5, a6⟩ := h
  have e : ∀ x y, x < n → y < n → pn_t c2 r2 x y = pn_t c r x y := fun x y hx hy => by unfold pn_t; rw [h1 _ (by omega)]
  exact ⟨a1, by rw [h2]; exact a2, T0, a3, nt_G_eq a4 e, nt_sy_eq a5 e, a6⟩
/-- what it says -/
theorem pn_says (h : pn_N c r n Sat) : (∃ x, Sat x) ∧ nt_sy n (pn_t c r) ∧ ∀ u v, u < n → v < n → -12000000 ≤ pn_t c r u v ∧ (pn_t c r u v ≠ 1000000000000 → nt_g Sat u v (pn_t c r u v) ∧ pn_t c r u v ≤ 12000000) ∧ (pn_t c r u v = 1000000000000 → nt_u Sat u v) := by
  obtain ⟨a1, a2, T0, a3, a4, a5, a6⟩ := h
  obtain ⟨⟨x, hx⟩, f2⟩ := nt_G_final (by omega) a3 a4 (by omega)
  refine ⟨⟨x, (a6 x).mp hx⟩, a5, fun u v hu hv => ⟨a4.2.2.2.2.2 u v hu hv, fun hne => ⟨?_, nt_G_ub (by omega) a3 a4 hu hv hne⟩, fun he => ?_⟩⟩
  · exact (nt_g_congr a6).1 _ ((f2 u v hu hv).1 hne)
  · exact (nt_g_congr a6).2 ((f2 u v hu hv).2 he)
/-- both ways of a pair -/
theorem pn_two (hr7 : r ≠ 77) (h : pn_N c r n Sat) {u v : Nat} (hu : u < n) (hv : v < n) (huv : u ≠ v) {w w2 : Int32} (hw1 : -250000 ≤ w.toInt) (hw2 : w.toInt ≤ 250000) (hw3 : -250000 ≤ w2.toInt) (hw4 : w2.toInt ≤ 250000) : (pz_narrow r (nI u) (nI v) w c = some (false, c) ∧ ¬ ∃ x, Sat x ∧ x u - x v ≤ w.toInt ∧ x v - x u ≤ w2.toInt) ∨ ∃ c4, pz_narrow r (nI u) (nI v) w c = some (true, c4) ∧ (∀ q, q ≠ r → c4 q = c q) ∧ ((pz_narrow r (nI v) (nI u) w2 c4 = some (false, c4) ∧ ¬ ∃ x, Sat x ∧ x u - x v ≤ w.toInt ∧ x v - x u ≤ w2.toInt) ∨ ∃ c7, pz_narrow r (nI v) (nI u) w2 c4 = some (true, c7) ∧ (∀ q, q ≠ r → c7 q = c q) ∧ pn_N c7 r n (fun x => Sat x ∧ x u - x v ≤ w.toInt ∧ x v - x u ≤ w2.toInt)) := by
  obtain ⟨a1, a2, T0, a3, a4, a5, a6⟩ := h
  have B1 : ∀ i j, i < n → j < n → pn_t c r i j = 1000000000000 ∨ (-25000000 ≤ pn_t c r i j ∧ pn_t c r i j ≤ 12000000) := fun i j hi hj => by
    by_cases q : pn_t c r i j = 1000000000000
    · exact Or.inl q
    · have := nt_G_ub (show n ≤ 44 by omega) a3 a4 hi hj q
      have := a4.2.2.2.2.2 i j hi hj
      exact Or.inr ⟨by omega, by omega⟩
  rcases pn_narrow hr7 a1 a2 hu hv hw1 hw2 B1 (fun q => pn_same (by omega) a3 a4 hu hv q hw2) with ⟨q1, q2, q3⟩ | ⟨ok, c4, g1, g2, g3⟩
  · refine Or.inl ⟨q3, ?_⟩
    rintro ⟨x, x1, x2, x3⟩
    exact pn_odds a3 a4 hu hv hw2 q1 q2 ⟨x, (pn_0_sm a3 hu hv hw2 x).mpr ⟨(a6 x).mpr x1, x2⟩⟩
  · refine Or.inr ⟨c4, g1, g2, ?_⟩
    have T1 := pn_0_T0 (w := w.toInt) a3 hu hv huv hw1 hw2
    have G1 := nt_G_eq (pn_step (by omega) (by omega) a3 a4 hu hv huv hw1 hw2 ok) g3
    have e6 : c4 77 7 = nI n := by rw [g2 77 (fun z => hr7 z.symm)]; exact a2
    have B2 : ∀ i j, i < n → j < n → pn_t c4 r i j = 1000000000000 ∨ (-25000000 ≤ pn_t c4 r i j ∧ pn_t c4 r i j ≤ 12000000) := fun i j hi hj => by
      by_cases q : pn_t c4 r i j = 1000000000000
      · exact Or.inl q
      · have := nt_G_ub (show n ≤ 44 by omega) T1 G1 hi hj q
        have := G1.2.2.2.2.2 i j hi hj
        exact Or.inr ⟨by omega, by omega⟩
    have sat2 : ∀ x, nt_sm n (pn_0 v u w2.toInt (pn_0 u v w.toInt T0)) x ↔ Sat x ∧ x u - x v ≤ w.toInt ∧ x v - x u ≤ w2.toInt := fun x => by
      rw [pn_0_sm T1 hv hu hw4, pn_0_sm a3 hu hv hw2, a6]
      exact and_assoc
    rcases pn_narrow hr7 a1 e6 hv hu hw3 hw4 B2 (fun q => pn_same (by omega) T1 G1 hv hu q hw4) with ⟨q1, q2, q3⟩ | ⟨ok2, c7, k1, k2, k3⟩
    · refine Or.inl ⟨q3, ?_⟩
      rintro ⟨x, hx⟩
      exact pn_odds T1 G1 hv hu hw4 q1 q2 ⟨x, (sat2 x).mpr hx⟩
    · have G2 := nt_G_eq (pn_step (by omega) (by omega) T1 G1 hv hu (fun z => huv z.symm) hw3 hw4 ok2) k3
      have T2 := pn_0_T0 (w := w2.toInt) T1 hv hu (fun z => huv z.symm) hw3 hw4
      have S2 : nt_sy n (pn_t c7 r) := nt_sy_eq (pn_sy (by omega) (by omega) a3 a4 hu hv huv hw1 hw2 hw4 ok a5) (fun x y hx hy => by rw [k3 x y hx hy]; exact pn_1_eq hv hu g3 x y hx hy)
      exact Or.inr ⟨c7, k1, fun q hq => by rw [k2 q hq, g2 q hq], a1, by rw [k2 77 (fun z => hr7 z.symm)]; exact e6, _, T2, pn_low (by omega) T2 G2 S2, S2, sat2⟩
end PU
