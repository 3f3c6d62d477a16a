/-! ===== nets: what bounds between knots make sure (whole numbers only) ===== -/
noncomputable def nt_cnt (P : Nat → Prop) : Nat → Nat
  | 0 => 0
  | n + 1 => nt_cnt P n + @ite _ (P n) (Classical.propDecidable _) 1 0
theorem nt_cnt_s1 {P : Nat → Prop} {n : Nat} (h : P n) : nt_cnt P (n + 1) = nt_cnt P n + 1 := by
  show nt_cnt P n + @ite _ (P n) (Classical.propDecidable _) 1 0 = _
  rw [if_pos h]
theorem nt_cnt_s0 {P : Nat → Prop} {n : Nat} (h : ¬ P n) : nt_cnt P (n + 1) = nt_cnt P n := by
  show nt_cnt P n + @ite _ (P n) (Classical.propDecidable _) 1 0 = _
  rw [if_neg h]
  rfl
theorem nt_cnt_le (P : Nat → Prop) : ∀ n, nt_cnt P n ≤ n
  | 0 => Nat.le_refl 0
  | n + 1 => by
    have := nt_cnt_le P n
    by_cases h : P n
    · rw [nt_cnt_s1 h]; omega
    · rw [nt_cnt_s0 h]; omega
theorem nt_cnt_mono {P Q : Nat → Prop} : ∀ n, (∀ i, i < n → P i → Q i) → nt_cnt P n ≤ nt_cnt Q n
  | 0, _ => Nat.le_refl _
  | n + 1, h => by
    have ih := nt_cnt_mono n (fun i hi => h i (by omega))
    by_cases hp : P n
    · rw [nt_cnt_s1 hp, nt_cnt_s1 (h n (by omega) hp)]; omega
    · rw [nt_cnt_s0 hp]
      by_cases hq : Q n
      · rw [nt_cnt_s1 hq]; omega
      · rw [nt_cnt_s0 hq]; exact ih
theorem nt_cnt_lt {P Q : Nat → Prop} : ∀ n, (∀ i, i < n → P i → Q i) → (∃ i, i < n ∧ Q i ∧ ¬ P i) → nt_cnt P n + 1 ≤ nt_cnt Q n
  | 0, _, ⟨_, h, _⟩ => absurd h (Nat.not_lt_zero _)
  | n + 1, h, ⟨i, hi, hq, hp⟩ => by
    by_cases e : i = n
    · subst e
      rw [nt_cnt_s1 hq, nt_cnt_s0 hp]
      exact Nat.succ_le_succ (nt_cnt_mono i (fun j hj => h j (by omega)))
    · have ih := nt_cnt_lt n (fun j hj => h j (by omega)) ⟨i, by omega, hq, hp⟩
      by_cases hp2 : P n
      · rw [nt_cnt_s1 hp2, nt_cnt_s1 (h n (by omega) hp2)]; omega
      · rw [nt_cnt_s0 hp2]
        by_cases hq2 : Q n
        · rw [nt_cnt_s1 hq2]; omega
        · rw [nt_cnt_s0 hq2]; exact ih
theorem nt_cnt_all {P : Nat → Prop} : ∀ n, n ≤ nt_cnt P n → ∀ i, i < n → P i
  | 0, _ => fun i hi => absurd hi (Nat.not_lt_zero _)
  | n + 1, h => fun i hi => by
    by_cases hp : P n
    · rw [nt_cnt_s1 hp] at h
      by_cases e : i = n
      · rw [e]; exact hp
      · exact nt_cnt_all n (by omega) i (by omega)
    · rw [nt_cnt_s0 hp] at h
      have := nt_cnt_le P n
      omega
theorem nt_top (f : Nat → Int) : ∀ m : Nat, ∃ M : Int, ∀ e, e < m → f e ≤ M
  | 0 => ⟨0, fun e h => absurd h (Nat.not_lt_zero _)⟩
  | m + 1 => by
    obtain ⟨M, h⟩ := nt_top f m
    refine ⟨if f m ≤ M then M else f m, fun e he => ?_⟩
    by_cases q : e = m
    · subst q; split <;> omega
    · have := h e (by omega)
      split <;> omega
theorem nt_max {S : Int → Prop} {B : Int} (hne : ∃ z, S z) (hB : ∀ z, S z → z ≤ B) : ∃ z, S z ∧ ∀ w, S w → w ≤ z := by
  obtain ⟨z0, h0⟩ := hne
  have key : ∀ k : Nat, ∀ z, S z → B - z ≤ k → ∃ z, S z ∧ ∀ w, S w → w ≤ z := by
    intro k
    induction k with
    | zero => intro z hz hk; exact ⟨z, hz, fun w hw => by have := hB w hw; omega⟩
    | succ k ih =>
      intro z hz hk
      by_cases q : ∃ w, S w ∧ z < w
      · obtain ⟨w, hw, hlt⟩ := q
        exact ih w hw (by omega)
      · exact ⟨z, hz, fun w hw => by
          by_cases q2 : w ≤ z
          · exact q2
          · exact absurd ⟨w, hw, by omega⟩ q⟩
  exact key (B - z0).toNat z0 h0 (by omega)
/-- the greatest that a less b can be; it is without bound -/
def nt_g (Sat : (Nat → Int) → Prop) (a b : Nat) (g : Int) : Prop := (∃ x, Sat x ∧ x a - x b = g) ∧ ∀ x, Sat x → x a - x b ≤ g
def nt_u (Sat : (Nat → Int) → Prop) (a b : Nat) : Prop := ∀ M : Int, ∃ x, Sat x ∧ M ≤ x a - x b
theorem nt_g_inj {Sat : (Nat → Int) → Prop} {a b : Nat} {g h : Int} (h1 : nt_g Sat a b g) (h2 : nt_g Sat a b h) : g = h := by
  obtain ⟨⟨x, q1, q2⟩, q3⟩ := h1
  obtain ⟨⟨y, p1, p2⟩, p3⟩ := h2
  have := q3 y p1
  have := p3 x q1
  omega
theorem nt_g_u {Sat : (Nat → Int) → Prop} {a b : Nat} {g : Int} (h1 : nt_g Sat a b g) (h2 : nt_u Sat a b) : False := by
  obtain ⟨x, p1, p2⟩ := h2 (g + 1)
  have := h1.2 x p1
  omega
section BF
variable {m n : Nat} {fr to : Nat → Nat} {ln : Nat → Int} {Z : Nat → Prop}
def nt_sol (m : Nat) (fr to : Nat → Nat) (ln : Nat → Int) (x : Nat → Int) : Prop := ∀ e, e < m → x (to e) ≤ x (fr e) + ln e
def nt_zol (m n : Nat) (fr to : Nat → Nat) (ln : Nat → Int) (Z : Nat → Prop) (x : Nat → Int) : Prop := nt_sol m fr to ln x ∧ ∀ v, v < n → Z v → x v ≤ 0
def nt_y (m n : Nat) (fr to : Nat → Nat) (ln : Nat → Int) (Z : Nat → Prop) (v : Nat) (z : Int) : Prop := (∃ x, nt_zol m n fr to ln Z x ∧ x v = z) ∧ ∀ x, nt_zol m n fr to ln Z x → x v ≤ z
def nt_S (m n : Nat) (fr to : Nat → Nat) (ln : Nat → Int) (Z : Nat → Prop) (r : Nat → Int) (v : Nat) : Prop := (r v ≠ 2147483647 ∧ nt_y m n fr to ln Z v (r v)) ∨ (r v = 2147483647 ∧ ∀ z, ¬ nt_y m n fr to ln Z v z)
theorem nt_y_of (hf : ∃ x, nt_zol m n fr to ln Z x) {v : Nat} {B : Int} (hb : ∀ x, nt_zol m n fr to ln Z x → x v ≤ B) : ∃ z, nt_y m n fr to ln Z v z ∧ z ≤ B := by
  obtain ⟨x0, hx0⟩ := hf
  have hb2 : ∀ w, (∃ x, nt_zol m n fr to ln Z x ∧ x v = w) → w ≤ B := by
    rintro w ⟨x, hx, rfl⟩
    exact hb x hx
  obtain ⟨z2, h1, h2⟩ := nt_max (S := fun w => ∃ x, nt_zol m n fr to ln Z x ∧ x v = w) ⟨_, x0, hx0, rfl⟩ hb2
  exact ⟨z2, ⟨h1, fun x hx => h2 _ ⟨x, hx, rfl⟩⟩, hb2 z2 h1⟩
theorem nt_y_edge (hf : ∃ x, nt_zol m n fr to ln Z x) {e : Nat} (he : e < m) {z : Int} (h : nt_y m n fr to ln Z (fr e) z) : ∃ z2, nt_y m n fr to ln Z (to e) z2 ∧ z2 ≤ z + ln e :=
  nt_y_of hf (fun x hx => by
    have h1 := hx.1 e he
    have h2 := h.2 x hx
    omega)
theorem nt_y_inj {v : Nat} {z w : Int} (h1 : nt_y m n fr to ln Z v z) (h2 : nt_y m n fr to ln Z v w) : z = w := by
  obtain ⟨⟨x, q1, q2⟩, q3⟩ := h1
  obtain ⟨⟨y, p1, p2⟩, p3⟩ := h2
  have := q3 y p1
  have := p3 x q1
  omega
/-- where more could be, it would be -/
theorem nt_up (hf : ∃ x, nt_zol m n fr to ln Z x) (O : Nat → Prop) {v0 : Nat} (h0 : O v0) (hO : ∀ v, O v → ∃ z, nt_y m n fr to ln Z v z) (hZ : ∀ v z, v < n → O v → Z v → nt_y m n fr to ln Z v z → z ≤ -1) (hE : ∀ e z z2, e < m → O (to e) → ¬ O (fr e) → nt_y m n fr to ln Z (fr e) z → nt_y m n fr to ln Z (to e) z2 → z2 + 1 ≤ z + ln e) : False := by
  have c1 : ∀ v, ∃ z, (∃ w, nt_y m n fr to ln Z v w) → nt_y m n fr to ln Z v z := by
    intro v
    by_cases q : ∃ w, nt_y m n fr to ln Z v w
    · obtain ⟨w, hw⟩ := q
      exact ⟨w, fun _ => hw⟩
    · exact ⟨0, fun h => absurd h q⟩
  obtain ⟨Y, hY⟩ := Classical.axiomOfChoice c1
  have hf2 := hf
  obtain ⟨p, hp⟩ := hf2
  obtain ⟨M, hM⟩ := nt_top (fun e => Y (to e) + 1 - p (fr e) - ln e) m
  have c2 : ∀ v, ∃ z : Int, (O v → z = Y v + 1) ∧ (¬ O v → (∃ w, nt_y m n fr to ln Z v w) → z = Y v) ∧ (¬ O v → ¬ (∃ w, nt_y m n fr to ln Z v w) → z = M + p v) := by
    intro v
    by_cases q : O v
    · exact ⟨Y v + 1, fun _ => rfl, fun h => absurd q h, fun h => absurd q h⟩
    · by_cases q2 : ∃ w, nt_y m n fr to ln Z v w
      · exact ⟨Y v, fun h => absurd h q, fun _ _ => rfl, fun _ h => absurd q2 h⟩
      · exact ⟨M + p v, fun h => absurd h q, fun _ h => absurd h q2, fun _ _ => rfl⟩
  obtain ⟨x, hx⟩ := Classical.axiomOfChoice c2
  have hsol : nt_zol m n fr to ln Z x := by
    refine ⟨fun e he => ?_, fun v hv hz => ?_⟩
    · by_cases q : ∃ w, nt_y m n fr to ln Z (fr e) w
      · have hy := hY _ q
        obtain ⟨z2, g1, g2⟩ := nt_y_edge hf he hy
        have e2 : Y (to e) = z2 := nt_y_inj (hY _ ⟨z2, g1⟩) g1
        have ht : x (to e) ≤ Y (to e) + 1 ∧ (¬ O (to e) → x (to e) = Y (to e)) := by
          by_cases q2 : O (to e)
          · rw [(hx _).1 q2]; exact ⟨Int.le_refl _, fun h => absurd q2 h⟩
          · rw [(hx _).2.1 q2 ⟨z2, g1⟩]; exact ⟨by omega, fun _ => rfl⟩
        by_cases q1 : O (fr e)
        · rw [(hx _).1 q1]; omega
        · rw [(hx _).2.1 q1 q]
          by_cases q2 : O (to e)
          · have := hE e _ _ he q2 q1 hy g1
            omega
          · have := ht.2 q2
            omega
      · have q1 : ¬ O (fr e) := fun h => q (hO _ h)
        have hm := hM e he
        rw [(hx (fr e)).2.2 q1 q]
        by_cases q2 : O (to e)
        · rw [(hx _).1 q2]; omega
        · by_cases q3 : ∃ w, nt_y m n fr to ln Z (to e) w
          · rw [(hx _).2.1 q2 q3]; omega
          · rw [(hx _).2.2 q2 q3]
            have := hp.1 e he
            omega
    · obtain ⟨z, g1, g2⟩ := nt_y_of hf (v := v) (B := 0) (fun x hx => hx.2 v hv hz)
      have e2 : Y v = z := nt_y_inj (hY _ ⟨z, g1⟩) g1
      by_cases q : O v
      · rw [(hx _).1 q]
        have := hZ v z hv q hz g1
        omega
      · rw [(hx _).2.1 q ⟨z, g1⟩]; omega
  have h1 := (hY v0 (hO v0 h0)).2 x hsol
  rw [(hx v0).1 h0] at h1
  omega
/-- a round with something left to do does some of it -/
theorem nt_prog {r r2 : Nat → Int} (hn : ∀ e, e < m → fr e < n ∧ to e < n) (hf : ∃ x, nt_zol m n fr to ln Z x) (hs : ∀ x, nt_zol m n fr to ln Z x → ∀ v, v < n → r v ≠ 2147483647 → x v ≤ r v) (hs2 : ∀ x, nt_zol m n fr to ln Z x → ∀ v, v < n → r2 v ≠ 2147483647 → x v ≤ r2 v) (hle : ∀ v, v < n → r2 v ≤ r v) (hF : ∀ v, v < n → r v ≤ 2147483647) (hz : ∀ v, v < n → Z v → r v ≤ 0) (hr : ∀ e, e < m → r (fr e) ≠ 2147483647 → r2 (to e) ≤ r (fr e) + ln e ∧ r2 (to e) ≠ 2147483647) {v0 : Nat} (hv0 : v0 < n) (hv : ¬ nt_S m n fr to ln Z r v0) : nt_cnt (nt_S m n fr to ln Z r) n + 1 ≤ nt_cnt (nt_S m n fr to ln Z r2) n := by
  have mono : ∀ v, v < n → nt_S m n fr to ln Z r v → nt_S m n fr to ln Z r2 v := by
    intro v hv h
    have h1 := hle v hv
    have h2 := hF v hv
    rcases h with ⟨a1, a2⟩ | ⟨a1, a2⟩
    · have n2 : r2 v ≠ 2147483647 := by omega
      obtain ⟨x, q1, q2⟩ := a2.1
      have := hs2 x q1 v hv n2
      have e : r2 v = r v := by omega
      exact Or.inl ⟨n2, by rw [e]; exact a2⟩
    · by_cases n2 : r2 v = 2147483647
      · exact Or.inr ⟨n2, a2⟩
      · obtain ⟨z, q1, -⟩ := nt_y_of hf (fun x hx => hs2 x hx v hv n2)
        exact absurd q1 (a2 z)
  refine nt_cnt_lt n mono ?_
  by_cases q : ∃ i, i < n ∧ nt_S m n fr to ln Z r2 i ∧ ¬ nt_S m n fr to ln Z r i
  · exact q
  exfalso
  refine nt_up hf (fun v => v < n ∧ ¬ nt_S m n fr to ln Z r v) ⟨hv0, hv⟩ ?_ ?_ ?_
  · rintro v ⟨hv, hS⟩
    by_cases e : r v = 2147483647
    · by_cases ex : ∃ z, nt_y m n fr to ln Z v z
      · exact ex
      · exact absurd (Or.inr ⟨e, fun z hz => ex ⟨z, hz⟩⟩) hS
    · obtain ⟨z, q1, -⟩ := nt_y_of hf (fun x hx => hs x hx v hv e)
      exact ⟨z, q1⟩
  · rintro v z hv ⟨-, hS⟩ hZv hy
    have h1 := hz v hv hZv
    have n1 : r v ≠ 2147483647 := by omega
    obtain ⟨x, q1, q2⟩ := hy.1
    have h2 := hs x q1 v hv n1
    by_cases e : z = r v
    · exact absurd (Or.inl ⟨n1, by rw [← e]; exact hy⟩) hS
    · omega
  · rintro e z z2 he ⟨ht, hS⟩ hO hy hy2
    have hfr := (hn e he).1
    have hSf : nt_S m n fr to ln Z r (fr e) := by
      by_cases w : nt_S m n fr to ln Z r (fr e)
      · exact w
      · exact absurd ⟨hfr, w⟩ hO
    have n2 : ¬ nt_S m n fr to ln Z r2 (to e) := fun w => q ⟨to e, ht, w, hS⟩
    rcases hSf with ⟨a1, a2⟩ | ⟨a1, a2⟩
    · have ez : z = r (fr e) := nt_y_inj hy a2
      obtain ⟨g1, g2⟩ := hr e he a1
      obtain ⟨x, q1, q2⟩ := hy2.1
      have h2 := hs2 x q1 _ ht g2
      by_cases e3 : z2 = r2 (to e)
      · exact absurd (Or.inl ⟨g2, by rw [← e3]; exact hy2⟩) n2
      · omega
    · exact absurd hy (a2 z)
theorem nt_settled {r : Nat → Int} (hn : ∀ e, e < m → fr e < n ∧ to e < n) (hf : ∃ x, nt_zol m n fr to ln Z x) (h : ∀ v, v < n → nt_S m n fr to ln Z r v) : ∀ e, e < m → r (fr e) ≠ 2147483647 → r (to e) ≤ r (fr e) + ln e ∧ r (to e) ≠ 2147483647 := by
  intro e he hne
  rcases h _ (hn e he).1 with ⟨a1, a2⟩ | ⟨a1, a2⟩
  · obtain ⟨z2, g1, g2⟩ := nt_y_edge hf he a2
    rcases h _ (hn e he).2 with ⟨b1, b2⟩ | ⟨b1, b2⟩
    · have := nt_y_inj b2 g1
      exact ⟨by omega, b1⟩
    · exact absurd g1 (b2 z2)
  · exact absurd a1 hne
theorem nt_final {r : Nat → Int} {a b : Nat} (ha : a < n) (hb : b < n) (hp : ∃ x, nt_sol m fr to ln x) (hset : ∀ e, e < m → r (fr e) ≠ 2147483647 → r (to e) ≤ r (fr e) + ln e ∧ r (to e) ≠ 2147483647) (hs : ∀ x, nt_zol m n fr to ln (fun v => v = b) x → ∀ v, v < n → r v ≠ 2147483647 → x v ≤ r v) (hb0 : r b ≤ 0) : (r a ≠ 2147483647 → nt_g (nt_sol m fr to ln) a b (r a)) ∧ (r a = 2147483647 → nt_u (nt_sol m fr to ln) a b) := by
  have sh : ∀ x, nt_sol m fr to ln x → nt_zol m n fr to ln (fun v => v = b) (fun v => x v - x b) := by
    intro x hx
    refine ⟨fun e he => ?_, fun v hv hz => ?_⟩
    · have := hx e he
      show x (to e) - x b ≤ x (fr e) - x b + ln e
      omega
    · show x v - x b ≤ 0
      rw [hz]; omega
  obtain ⟨p, hp⟩ := hp
  have nb : r b ≠ 2147483647 := by omega
  have rb : r b = 0 := by
    have : p b - p b ≤ r b := hs _ (sh p hp) b hb nb
    omega
  obtain ⟨M, hM⟩ := nt_top (fun e => r (to e) - p (fr e) - ln e) m
  have con : ∀ M2, M ≤ M2 → ∃ x, nt_sol m fr to ln x ∧ x b = 0 ∧ (r a ≠ 2147483647 → x a = r a) ∧ (r a = 2147483647 → x a = M2 + p a) := by
    intro M2 hM2
    refine ⟨fun v => if r v = 2147483647 then M2 + p v else r v, fun e he => ?_, ?_, fun h => if_neg h, fun h => if_pos h⟩
    · have h1 := hM e he
      have h2 := hp e he
      have h3 := hset e he
      show (if r (to e) = 2147483647 then M2 + p (to e) else r (to e)) ≤ (if r (fr e) = 2147483647 then M2 + p (fr e) else r (fr e)) + ln e
      by_cases q : r (fr e) = 2147483647
      · rw [if_pos q]
        split <;> omega
      · rw [if_neg q, if_neg (h3 q).2]
        exact (h3 q).1
    · show (if r b = 2147483647 then M2 + p b else r b) = 0
      rw [if_neg nb, rb]
  refine ⟨fun h => ⟨?_, fun x hx => hs _ (sh x hx) a ha h⟩, fun h M0 => ?_⟩
  · obtain ⟨x, q1, q2, q3, q4⟩ := con M (Int.le_refl _)
    exact ⟨x, q1, by rw [q2, q3 h]; omega⟩
  · obtain ⟨x, q1, q2, q3, q4⟩ := con (if M ≤ M0 - p a then M0 - p a else M) (by split <;> omega)
    refine ⟨x, q1, ?_⟩
    rw [q2, q4 h]
    split <;> omega
end BF
