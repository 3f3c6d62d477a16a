/-! ===== pure rows: how the functions' texts are read ===== -/
theorem kp_let {α β : Type} (e : α) (K : α → β) : kv_let e K = K e := rfl
theorem kp_b1 {α β : Type} (a : α) (K : α → Option β) : kv_bind1 (some a) K = K a := rfl
theorem kp_b2 {α β γ : Type} (a : α) (b : β) (K : α → β → Option γ) : kv_bind2 (some (a, b)) K = K a b := rfl
theorem kp_b3 {α β γ δ : Type} (a : α) (b : β) (c : γ) (K : α → β → γ → Option δ) : kv_bind3 (some (a, b, c)) K = K a b c := rfl
theorem kp_gd {β : Type} {b : Bool} (A : Option β) (h : b = true) : kv_gd b A = A := if_pos h
theorem kp_lit (n : Nat) : (OfNat.ofNat n : Int32) = nI n := rfl
theorem kp_st_same (c : Nat → Nat → Int32) (r k : Nat) (v : Int32) : kv_st c r k v r = upd (c r) k v := if_pos rfl
theorem kp_st_ne {c : Nat → Nat → Int32} {r k q : Nat} {v : Int32} (h : q ≠ r) : kv_st c r k v q = c q := if_neg h
theorem kp_st (c : Nat → Nat → Int32) (r k : Nat) (v : Int32) (q j : Nat) : kv_st c r k v q j = if q = r ∧ j = k then v else c q j := by
  by_cases h : q = r
  · subst h
    rw [kp_st_same]
    unfold upd
    by_cases h2 : j = k
    · simp [h2]
    · simp [h2]
  · rw [kp_st_ne h]
    simp [h]
theorem kp_le (a b : Int32) : a ≤ b ↔ a.toInt ≤ b.toInt := Int32.le_iff_toInt_le
theorem kp_lt (a b : Int32) : a < b ↔ a.toInt < b.toInt := Int32.lt_iff_toInt_lt
theorem kp_eq (a b : Int32) : a = b ↔ a.toInt = b.toInt := Int32.toInt_inj.symm
theorem kp_rng (x : Int32) : -2147483648 ≤ x.toInt ∧ x.toInt < 2147483648 := by
  have h1 := Int32.minValue_le_toInt x
  have h2 := Int32.toInt_le x
  have e1 : Int32.minValue.toInt = -2147483648 := by decide
  have e2 : Int32.maxValue.toInt = 2147483647 := by decide
  omega
theorem kp_bmod {z : Int} (h1 : -2147483648 ≤ z) (h2 : z < 2147483648) : z.bmod (2 ^ 32) = z := by
  rw [Int.bmod_def]
  split <;> omega
theorem kp_add {x y : Int32} (h1 : -2147483648 ≤ x.toInt + y.toInt) (h2 : x.toInt + y.toInt < 2147483648) : (x + y).toInt = x.toInt + y.toInt := by
  rw [Int32.toInt_add, kp_bmod h1 h2]
theorem kp_sub {x y : Int32} (h1 : -2147483648 ≤ x.toInt - y.toInt) (h2 : x.toInt - y.toInt < 2147483648) : (x - y).toInt = x.toInt - y.toInt := by
  rw [Int32.toInt_sub, kp_bmod h1 h2]
theorem kp_mul {x y : Int32} (h1 : -2147483648 ≤ x.toInt * y.toInt) (h2 : x.toInt * y.toInt < 2147483648) : (x * y).toInt = x.toInt * y.toInt := by
  rw [Int32.toInt_mul, kp_bmod h1 h2]
theorem kp_in_nI {n N : Nat} (h : n < N) (hN : N < 2 ^ 31) : kv_in (nI n) N = true := by
  unfold kv_in
  rw [nI_toInt (by omega)]
  simp
  omega
theorem kp_in {x : Int32} {N : Nat} (h1 : 0 ≤ x.toInt) (h2 : x.toInt < N) : kv_in x N = true := by
  unfold kv_in
  simp
  exact ⟨h1, h2⟩
/-- a number from 0 on is a natural one -/
theorem kp_nat {x : Int32} (h : 0 ≤ x.toInt) : ∃ n : Nat, x = nI n ∧ (n : Int) = x.toInt ∧ n < 2 ^ 31 := by
  have hr := kp_rng x
  refine ⟨x.toInt.toNat, ?_, by omega, by omega⟩
  rw [kp_eq, nI_toInt (by omega)]
  omega
/-! the smallest methods -/
theorem sx_isWithin (n a b : Int32) : fx_K_isWithin n a b = some (decide (a.toInt ≤ n.toInt ∧ n.toInt ≤ b.toInt)) := by
  unfold fx_K_isWithin
  simp only [kp_le, kp_lt]
  split <;> (try split) <;> simp <;> omega
theorem sx_isIn (n : Int32) (a b : Int64) : fx_D_isIn n.toInt64 a b = some (decide (a.toInt ≤ n.toInt ∧ n.toInt ≤ b.toInt)) := by
  unfold fx_D_isIn
  simp only [Int64.le_iff_toInt_le, Int64.lt_iff_toInt_lt, Int32.toInt_toInt64]
  split <;> (try split) <;> simp <;> omega
