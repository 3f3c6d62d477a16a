/-! ===== plans: sets of pairs, as bits ===== -/
section PK
variable {f : Nat → Nat} {s u x P : Nat}
/-- what a set holds below n, each x counted f x times -/
def pq_c (f : Nat → Nat) (s : Nat) : Nat → Nat
  | 0 => 0
  | n + 1 => pq_c f s n + if s.testBit n = true then f n else 0
theorem pq_s1 {n : Nat} (hz1 : s.testBit n = true) : pq_c f s (n + 1) = pq_c f s n + f n := by
  show pq_c f s n + (if s.testBit n = true then f n else 0) = _
  rw [if_pos hz1]
theorem pq_s0 {n : Nat} (hz1 : s.testBit n = false) : pq_c f s (n + 1) = pq_c f s n := by
  show pq_c f s n + (if s.testBit n = true then f n else 0) = _
  rw [if_neg (by rw [hz1]; decide)]
  rfl
theorem pq_le : ∀ n, (∀ y, y < n → s.testBit y = true → u.testBit y = true) → pq_c f s n ≤ pq_c f u n
  | 0, _ => Nat.le_refl _
  | n + 1, hz1 => by
    have ihz := pq_le n (fun y hy1 => hz1 y (by omega))
    cases es1 : s.testBit n with
    | true => rw [pq_s1 es1, pq_s1 (hz1 n (by omega) es1)]; omega
    | false =>
      rw [pq_s0 es1]
      cases eu1 : u.testBit n with
      | true => rw [pq_s1 eu1]; omega
      | false => rw [pq_s0 eu1]; exact ihz
theorem pq_eq : ∀ n, (∀ y, y < n → s.testBit y = u.testBit y) → pq_c f s n = pq_c f u n
  | 0, _ => rfl
  | n + 1, hz1 => by
    have ihz := pq_eq n (fun y hy1 => hz1 y (by omega))
    have eb1 := hz1 n (by omega)
    cases es1 : s.testBit n with
    | true => rw [pq_s1 es1, pq_s1 (eb1.symm.trans es1), ihz]
    | false => rw [pq_s0 es1, pq_s0 (eb1.symm.trans es1), ihz]
/-- one more -/
theorem pq_more (hs1 : s.testBit x = false) (hu1 : u.testBit x = true) : ∀ n, x < n → (∀ y, y < n → y ≠ x → s.testBit y = u.testBit y) → pq_c f u n = pq_c f s n + f x
  | 0, hx1, _ => absurd hx1 (Nat.not_lt_zero _)
  | n + 1, hx1, hz1 => by
    by_cases za : n = x
    · subst za
      rw [pq_s1 hu1, pq_s0 hs1, pq_eq n (fun y hy1 => hz1 y (by omega) (by omega))]
    · have ihz := pq_more hs1 hu1 n (by omega) (fun y hy1 hy2 => hz1 y (by omega) hy2)
      have eb1 := hz1 n (by omega) za
      cases es1 : s.testBit n with
      | true => rw [pq_s1 es1, pq_s1 (eb1.symm.trans es1), ihz]; omega
      | false => rw [pq_s0 es1, pq_s0 (eb1.symm.trans es1), ihz]
/-- behind its last place a set holds nothing -/
theorem pq_end (hs1 : s < 2 ^ P) : ∀ n, pq_c f s (P + n) = pq_c f s P
  | 0 => rfl
  | n + 1 => by
    have ihz := pq_end hs1 n
    have eb1 : s.testBit (P + n) = false := Nat.testBit_lt_two_pow (Nat.lt_of_lt_of_le hs1 (Nat.pow_le_pow_right (by omega) (by omega)))
    show pq_c f s ((P + n) + 1) = _
    rw [pq_s0 eb1, ihz]
/-- the place x put to a set below it -/
theorem pq_bit (hs1 : s < 2 ^ x) (y : Nat) : (s + 2 ^ x).testBit y = if y = x then true else s.testBit y := by
  have nb : ∀ y, x ≤ y → s.testBit y = false := fun y hy1 => Nat.testBit_lt_two_pow (Nat.lt_of_lt_of_le hs1 (Nat.pow_le_pow_right (by omega) hy1))
  by_cases za : y = x
  · subst za
    rw [if_pos rfl, Nat.add_comm, Nat.testBit_two_pow_add_eq, nb y (Nat.le_refl _)]
    rfl
  · rw [if_neg za]
    by_cases zb : y < x
    · rw [Nat.add_comm, Nat.testBit_two_pow_add_gt zb]
    · have hp1 : s + 2 ^ x < 2 ^ y := by
        have hp2 : 2 ^ (x + 1) ≤ 2 ^ y := Nat.pow_le_pow_right (by omega) (by omega)
        have hp3 : 2 ^ (x + 1) = 2 ^ x * 2 := Nat.pow_succ 2 x
        omega
      rw [nb y (by omega), Nat.testBit_lt_two_pow hp1]
/-- a set that is s below x, and not s below x + 1 -/
theorem pq_mod (ha1 : u % 2 ^ x = s) (hb1 : u % 2 ^ (x + 1) ≠ s) : u % 2 ^ (x + 1) = s + 2 ^ x := by
  have em1 : u % 2 ^ (x + 1) = u % 2 ^ x + 2 ^ x * (u / 2 ^ x % 2) := Nat.mod_pow_succ
  have hd1 : u / 2 ^ x % 2 = 0 ∨ u / 2 ^ x % 2 = 1 := by omega
  rcases hd1 with hd1 | hd1
  · rw [hd1, Nat.mul_zero, Nat.add_zero, ha1] at em1
    exact absurd em1 hb1
  · rw [hd1, Nat.mul_one, ha1] at em1
    exact em1
theorem pq_sub (ha1 : u % 2 ^ x = s) (y : Nat) (hb1 : s.testBit y = true) : u.testBit y = true := by
  rw [← ha1, Nat.testBit_mod_two_pow] at hb1
  have hc1 := (Bool.and_eq_true _ _).mp hb1
  exact hc1.2
theorem pq_or : ∀ x, x < 8 → ∀ s, s < 2 ^ x → nI s ||| ((1 : Int32) <<< (nI x &&& 31)) = nI (s + 2 ^ x) := by decide +kernel
theorem pq_pop : ∀ s, s < 256 → st_pop 10 s = pq_c (fun _ => 1) s 8 := by decide +kernel
theorem pq_pop2 (hP : P ≤ 8) (hs1 : s < 2 ^ P) : st_pop 10 s = pq_c (fun _ => 1) s P := by
  have hp1 : 2 ^ P ≤ 2 ^ 8 := Nat.pow_le_pow_right (by omega) hP
  have ee1 := pq_end (f := fun _ => 1) hs1 (8 - P)
  rw [show P + (8 - P) = 8 by omega] at ee1
  rw [pq_pop s (by omega), ee1]
theorem pq_b : ∀ n, pq_c (fun _ => 1) s n ≤ n
  | 0 => Nat.le_refl _
  | n + 1 => by
    have ihz := pq_b n
    cases es1 : s.testBit n with
    | true => rw [pq_s1 es1]; omega
    | false => rw [pq_s0 es1]; omega
end PK
/-! ===== plans: what a set of pairs asks, how good it is ===== -/
section PL
variable {L P most : Nat} {Sat S : (Nat → Int) → Prop} {T : Nat → Nat → Int} {c c0 : Nat → Nat → Int32}
/-- how wide a system leaves the pairs -/
noncomputable def pg_wid (L : Nat) (S : (Nat → Int) → Prop) : Int := Classical.epsilon (fun w : Int => ∀ T, pn_tb T L S → pn_w T L = w)
theorem pg_w (ht1 : pn_tb T L S) : pn_w T L = pg_wid L S := by
  have hx1 : ∃ w : Int, ∀ T, pn_tb T L S → pn_w T L = w := ⟨pn_w T L, fun T2 ht2 => pn_w_eq (pn_tb_eq ht2 ht1)⟩
  exact (Classical.epsilon_spec hx1) T ht1
theorem pg_wn (ht1 : pn_tb T L (fun x => S (fun i => -x i))) : pn_w T L = pg_wid L S := by
  rw [← pn_w_flip (T := T)]
  exact pg_w (pn_tb_neg ht1)
/-- what the year and the pairs of a set ask -/
def pg_S (c : Nat → Nat → Int32) (P : Nat) (Sat : (Nat → Int) → Prop) (s : Nat) (z : Nat → Int) : Prop := Sat z ∧ ∀ x, x < P → s.testBit x = true → pn_p c x z
theorem pg_S0 (z : Nat → Int) : pg_S c P Sat 0 z ↔ Sat z := ⟨fun hz1 => hz1.1, fun hz1 => ⟨hz1, fun x _ hx2 => by rw [Nat.zero_testBit] at hx2; exact absurd hx2 (by decide)⟩⟩
theorem pg_S1 {s x : Nat} (hs1 : s < 2 ^ x) (hx1 : x < P) (z : Nat → Int) : pg_S c P Sat (s + 2 ^ x) z ↔ pg_S c P Sat s z ∧ pn_p c x z := by
  have sx : s.testBit x = false := Nat.testBit_lt_two_pow hs1
  constructor
  · rintro ⟨ha1, ha2⟩
    refine ⟨⟨ha1, fun y hy1 hy2 => ha2 y hy1 ?_⟩, ha2 x hx1 ?_⟩
    · rw [pq_bit hs1]
      by_cases za : y = x
      · rw [if_pos za]
      · rw [if_neg za]; exact hy2
    · rw [pq_bit hs1, if_pos rfl]
  · rintro ⟨⟨ha1, ha2⟩, ha3⟩
    refine ⟨ha1, fun y hy1 hy2 => ?_⟩
    by_cases za : y = x
    · rw [za]; exact ha3
    · rw [pq_bit hs1, if_neg za] at hy2
      exact ha2 y hy1 hy2
theorem pg_S_sub {s u : Nat} (hs1 : ∀ y, s.testBit y = true → u.testBit y = true) {z : Nat → Int} (hz1 : pg_S c P Sat u z) : pg_S c P Sat s z := ⟨hz1.1, fun y hy1 hy2 => hz1.2 y hy1 (hs1 y hy2)⟩
/-- touching pairs -/
def pg_t (c : Nat → Nat → Int32) (x : Nat) : Nat := if c 83 x = 0 then 0 else 1
def pg_ok (c : Nat → Nat → Int32) (P most : Nat) (Sat : (Nat → Int) → Prop) (s : Nat) : Prop := s < 2 ^ P ∧ pq_c (fun _ => 1) s P ≤ 4 ∧ pq_c (pg_t c) s P ≤ most ∧ ∃ z, pg_S c P Sat s z
/-- how good a set is: less is better -/
noncomputable def pg_k (c : Nat → Nat → Int32) (L P : Nat) (Sat : (Nat → Int) → Prop) (s : Nat) : Int := pg_wid L (pg_S c P Sat s) * 1048576 + ((pq_c (fun _ => 1) s P : Nat) : Int) * 1024 + (s : Int)
/-- and the best at hand -/
def pg_b (c : Nat → Nat → Int32) : Int := (c 77 10).toInt * 1048576 + (c 77 11).toInt * 1024 + (c 77 12).toInt
/-- n: all sets below it have been tried -/
def pg_at (c0 : Nat → Nat → Int32) (L P most : Nat) (Sat : (Nat → Int) → Prop) (n : Nat) (c : Nat → Nat → Int32) : Prop := (c 77 10 = 2147483647 ∧ c 77 11 = 0 ∧ c 77 12 = 0) ∨ ∃ u, u < n ∧ pg_ok c0 P most Sat u ∧ (c 77 10).toInt = pg_wid L (pg_S c0 P Sat u) ∧ c 77 11 = nI (pq_c (fun _ => 1) u P) ∧ c 77 12 = nI u
theorem pg_at_u (hP : P ≤ 8) {u : Nat} (hu1 : pg_ok c0 P most Sat u) (ea1 : (c 77 10).toInt = pg_wid L (pg_S c0 P Sat u)) (eb1 : c 77 11 = nI (pq_c (fun _ => 1) u P)) (ec1 : c 77 12 = nI u) : pg_b c = pg_k c0 L P Sat u := by
  have hp1 : 2 ^ P ≤ 2 ^ 8 := Nat.pow_le_pow_right (by omega) hP
  have hu2 := hu1.1
  have hu3 := hu1.2.1
  unfold pg_b pg_k
  rw [ea1, eb1, ec1, nI_toInt (by omega), nI_toInt (by omega)]
/-- only one set is as good -/
theorem pg_k_inj (hP : P ≤ 8) {s u : Nat} (hs1 : pg_ok c0 P most Sat s) (hu1 : pg_ok c0 P most Sat u) (he1 : pg_k c0 L P Sat s = pg_k c0 L P Sat u) : s = u := by
  have hp1 : 2 ^ P ≤ 2 ^ 8 := Nat.pow_le_pow_right (by omega) hP
  have hs2 := hs1.1
  have hu2 := hu1.1
  have hs3 := hs1.2.1
  have hu3 := hu1.2.1
  unfold pg_k at he1
  omega
theorem pg_at_more {n : Nat} (ha1 : pg_at c0 L P most Sat n c) : pg_at c0 L P most Sat (n + 1) c := by
  rcases ha1 with ha1 | ⟨u, hu1, hu2⟩
  · exact Or.inl ha1
  · exact Or.inr ⟨u, by omega, hu2⟩
/-- a set is held against the best of those below it -/
theorem pg_judge (hP : P ≤ 8) {s : Nat} (hs1 : pg_ok c0 P most Sat s) (hN : pn_N c 79 L (fun z => pg_S c0 P Sat s (fun i => -z i))) (ha1 : pg_at c0 L P most Sat s c) : ∃ c1, fx_Planner_judge (nI s) c = some c1 ∧ (∀ q, q ≠ 77 → c1 q = c q) ∧ (∀ j, j < 10 → c1 77 j = c 77 j) ∧ pg_at c0 L P most Sat (s + 1) c1 ∧ pg_b c1 ≤ pg_b c ∧ pg_b c1 ≤ pg_k c0 L P Sat s := by
  have hp1 : 2 ^ P ≤ 2 ^ 8 := Nat.pow_le_pow_right (by omega) hP
  have hs3 := hs1.1
  have hs4 := hs1.2.1
  obtain ⟨v, hv1, hv2, hv3, hv4⟩ := pn_widths hN
  have ew1 : v.toInt = pg_wid L (pg_S c0 P Sat s) := by
    rw [hv2]
    exact pg_wn (pn_tb_says hN)
  generalize el1 : pq_c (fun _ => 1) s P = l at hs4
  have hcnt : fx_Int_bitCount (nI s) = some (nI l) := by rw [st_cntK s (by omega), pq_pop2 hP hs3, el1]
  have ek1 : pg_k c0 L P Sat s = v.toInt * 1048576 + (l : Int) * 1024 + (s : Int) := by
    unfold pg_k
    rw [ew1, el1]
  have ell : (nI l).toInt = (l : Int) := nI_toInt (by omega)
  have e77 : ∀ j, kv_st (kv_st (kv_st c 77 10 v) 77 11 (nI l)) 77 12 (nI s) 77 j = if j = 12 then nI s else if j = 11 then nI l else if j = 10 then v else c 77 j := fun j => by
    rw [kp_st, kp_st, kp_st]
    simp only [true_and]
  have take : pg_k c0 L P Sat s ≤ pg_b c → ∃ c1, fj_Planner_judge_34 c v (nI l) (nI s) = some c1 ∧ (∀ q, q ≠ 77 → c1 q = c q) ∧ (∀ j, j < 10 → c1 77 j = c 77 j) ∧ pg_at c0 L P most Sat (s + 1) c1 ∧ pg_b c1 ≤ pg_b c ∧ pg_b c1 ≤ pg_k c0 L P Sat s := by
    intro hle
    have eb2 : pg_b (kv_st (kv_st (kv_st c 77 10 v) 77 11 (nI l)) 77 12 (nI s)) = pg_k c0 L P Sat s := by
      refine pg_at_u hP hs1 ?_ ?_ ?_
      · rw [e77]; exact ew1
      · rw [e77, el1]; rfl
      · rw [e77]; rfl
    refine ⟨kv_st (kv_st (kv_st c 77 10 v) 77 11 (nI l)) 77 12 (nI s), ?_, fun q hq1 => by rw [kp_st_ne hq1, kp_st_ne hq1, kp_st_ne hq1], fun j hj1 => ?_, Or.inr ⟨s, by omega, hs1, ?_, ?_, ?_⟩, by rw [eb2]; exact hle, by rw [eb2]; exact Int.le_refl _⟩
    · unfold fj_Planner_judge_34
      rw [kp_let, kp_let, kp_let]
    · rw [e77, if_neg (by omega), if_neg (by omega), if_neg (by omega)]
    · rw [e77]; exact ew1
    · rw [e77, el1]; rfl
    · rw [e77]; rfl
  have leave : pg_b c ≤ pg_k c0 L P Sat s → ∃ c1, some c = some c1 ∧ (∀ q, q ≠ 77 → c1 q = c q) ∧ (∀ j, j < 10 → c1 77 j = c 77 j) ∧ pg_at c0 L P most Sat (s + 1) c1 ∧ pg_b c1 ≤ pg_b c ∧ pg_b c1 ≤ pg_k c0 L P Sat s := fun hle => ⟨c, rfl, fun _ _ => rfl, fun _ _ => rfl, pg_at_more ha1, Int.le_refl _, hle⟩
  unfold fx_Planner_judge
  rw [hv1, kp_b1, hcnt, kp_b1]
  rcases ha1 with ⟨ea1, eb1, ec1⟩ | ⟨u, hu1, hu2, ea1, eb1, ec1⟩
  · have eb3 : pg_b c = 2147483647 * 1048576 := by
      unfold pg_b
      rw [ea1, eb1, ec1, ki_F, ki_0]
      omega
    have hlt : v < c 77 10 := by rw [kp_lt, ea1, ki_F]; omega
    rw [if_pos hlt]
    exact take (by rw [eb3, ek1]; omega)
  · have hu3 := hu2.1
    have hu4 := hu2.2.1
    have ebk := pg_at_u hP hu2 ea1 eb1 ec1
    have eku : pg_k c0 L P Sat u = (c 77 10).toInt * 1048576 + ((pq_c (fun _ => 1) u P : Nat) : Int) * 1024 + (u : Int) := by unfold pg_k; rw [ea1]
    have e11 : (c 77 11).toInt = ((pq_c (fun _ => 1) u P : Nat) : Int) := by rw [eb1, nI_toInt (by omega)]
    by_cases za : v < c 77 10
    · rw [if_pos za]
      rw [kp_lt] at za
      exact take (by rw [ebk, eku, ek1]; omega)
    · rw [if_neg za]
      rw [kp_lt] at za
      by_cases zb : v = c 77 10
      · have zb2 : v.toInt = (c 77 10).toInt := by rw [zb]
        rw [if_pos zb]
        by_cases zc : c 77 11 ≤ nI l
        · rw [if_pos zc]
          rw [kp_le, e11, ell] at zc
          exact leave (by rw [ebk, eku, ek1]; omega)
        · rw [if_neg zc]
          rw [kp_le, e11, ell] at zc
          exact take (by rw [ebk, eku, ek1]; omega)
      · have zb2 : v.toInt ≠ (c 77 10).toInt := fun hw1 => zb ((kp_eq _ _).mpr hw1)
        rw [if_neg zb]
        exact leave (by rw [ebk, eku, ek1]; omega)
end PL
