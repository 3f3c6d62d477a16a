/-! ===== plans: one weighing more ===== -/
section PD
variable {c m : Nat → Nat → Int32} {L P : Nat} {Sat : (Nat → Int) → Prop}
def pn_d (c : Nat → Nat → Int32) (L P : Nat) : Prop := P ≤ 8 ∧ L ≤ 10 ∧ c 77 5 = nI P ∧ c 77 6 = nI L ∧ (0 ≤ (c 77 7).toInt ∧ (c 77 7).toInt ≤ 99) ∧ ∀ x, x < P → ∃ a b : Nat, a < L ∧ b < L ∧ a ≠ b ∧ c 84 x = nI a ∧ c 85 x = nI b ∧ -240000 ≤ (c 86 x).toInt ∧ (c 86 x).toInt ≤ 240000
def pn_p (c : Nat → Nat → Int32) (x : Nat) (z : Nat → Int) : Prop := (c 86 x).toInt - (c 77 7).toInt ≤ z (c 84 x).toNatClampNeg - z (c 85 x).toNatClampNeg ∧ z (c 84 x).toNatClampNeg - z (c 85 x).toNatClampNeg ≤ (c 86 x).toInt + (c 77 7).toInt
theorem pn_tg {l : Nat} (h : l < 5) : kv_tg 78 l = 79 + l ∧ kv_ln (79 + l) = 100 := by
  have : l = 0 ∨ l = 1 ∨ l = 2 ∨ l = 3 ∨ l = 4 := by omega
  rcases this with rfl | rfl | rfl | rfl | rfl <;> exact ⟨rfl, rfl⟩
theorem pn_add {l x : Nat} (hl : l < 4) (hx : x < P) (hd : pn_d c L P) (h : pn_N c (79 + l) L Sat) : ∃ b c2, fx_Planner_addPair (nI l) (nI x) c = some (b, c2) ∧ (∀ q, q ≠ 80 + l → c2 q = c q) ∧ (b = false → ¬ ∃ z, Sat z ∧ pn_p c x (fun i => -z i)) ∧ (b = true → pn_N c2 (80 + l) L (fun z => Sat z ∧ pn_p c x (fun i => -z i))) := by
  obtain ⟨hP, hL, d5, d6, d7, dp⟩ := hd
  obtain ⟨a, b, ha, hb, hab, ca, cb, l1, l2⟩ := dp x hx
  have t1 := pn_tg (show l < 5 by omega)
  have t2 := pn_tg (show l + 1 < 5 by omega)
  have r2 : 79 + (l + 1) = 80 + l := by omega
  rw [r2] at t2
  unfold fx_Planner_addPair
  rw [nI_1, kp_gd _ (kp_in_nI (show l + 1 < 5 by omega) (by omega)), kp_gd _ (kp_in_nI (show l < 5 by omega) (by omega)), nI_clamp (show l + 1 < 2 ^ 31 by omega), nI_clamp (show l < 2 ^ 31 by omega), t1.1, t2.1, kp_let, kp_gd _ (kp_in_nI (show x < 8 by omega) (by omega)), nI_clamp (show x < 2 ^ 31 by omega)]
  generalize hc4 : va_up c (80 + l) (va_cpy (c (79 + l)) (c (80 + l)) (0 : Int32).toNatClampNeg (0 : Int32).toNatClampNeg (100 : Int32).toNatClampNeg) = c4
  have f4 : ∀ q, q ≠ 80 + l → c4 q = c q := fun q hq => by rw [← hc4]; exact if_neg hq
  have e4 : ∀ j, j < 100 → c4 (80 + l) j = c (79 + l) j := fun j hj => by
    rw [← hc4]
    have e : va_up c (80 + l) (va_cpy (c (79 + l)) (c (80 + l)) (0 : Int32).toNatClampNeg (0 : Int32).toNatClampNeg (100 : Int32).toNatClampNeg) (80 + l) = va_cpy (c (79 + l)) (c (80 + l)) 0 0 100 := if_pos rfl
    rw [e]
    unfold va_cpy
    rw [if_pos (by omega)]
    congr 1
    omega
  have N4 : pn_N c4 (80 + l) L Sat := pn_N_row h e4 (by rw [f4 77 (by omega)])
  have w1 : (c 86 x + c 77 7).toInt = (c 86 x).toInt + (c 77 7).toInt := kp_add (by omega) (by omega)
  have w2 : (c 77 7 - c 86 x).toInt = (c 77 7).toInt - (c 86 x).toInt := kp_sub (by omega) (by omega)
  have e1 : ∀ z : Nat → Int, (z b - z a ≤ (c 86 x + c 77 7).toInt ∧ z a - z b ≤ (c 77 7 - c 86 x).toInt) ↔ pn_p c x (fun i => -z i) := fun z => by
    unfold pn_p
    rw [ca, cb, nI_clamp (show a < 2 ^ 31 by omega), nI_clamp (show b < 2 ^ 31 by omega), w1, w2]
    show _ ↔ _ ≤ -z a - -z b ∧ -z a - -z b ≤ _
    omega
  rw [f4 85 (by omega), f4 84 (by omega), f4 86 (by omega), f4 77 (by omega), ca, cb]
  rcases pn_two t2.2 (by omega) N4 hb ha (fun q => hab q.symm) (w := c 86 x + c 77 7) (w2 := c 77 7 - c 86 x) (by omega) (by omega) (by omega) (by omega) with ⟨q1, q2⟩ | ⟨c6, q1, q2, q3⟩
  · rw [q1, kp_b2, if_neg (by decide)]
    refine ⟨false, c4, rfl, f4, fun _ => ?_, fun z => absurd z (by decide)⟩
    rintro ⟨z, z1, z2⟩
    exact q2 ⟨z, z1, (e1 z).mpr z2⟩
  · have f6 : ∀ q, q ≠ 80 + l → c6 q = c q := fun q hq => by rw [q2 q hq, f4 q hq]
    rw [q1, kp_b2, if_pos rfl, f6 84 (by omega), f6 85 (by omega), f6 86 (by omega), f6 77 (by omega), ca, cb]
    rcases q3 with ⟨r1, r2⟩ | ⟨c7, r1, r2, r3⟩
    · rw [r1, kp_b2, if_neg (by decide)]
      refine ⟨false, c6, rfl, f6, fun _ => ?_, fun z => absurd z (by decide)⟩
      rintro ⟨z, z1, z2⟩
      exact r2 ⟨z, z1, (e1 z).mpr z2⟩
    · rw [r1, kp_b2, if_pos rfl]
      exact ⟨true, c7, rfl, fun q hq => by rw [r2 q hq, f4 q hq], fun z => absurd z (by decide), fun _ => pn_N_congr r3 (fun z => and_congr_right (fun _ => e1 z))⟩
/-- what is told stays where only the tables change -/
theorem pn_d_fr {c2 : Nat → Nat → Int32} (h : pn_d c L P) (h1 : ∀ q, 84 ≤ q → q ≤ 86 → c2 q = c q) (h2 : ∀ j, j < 8 → c2 77 j = c 77 j) : pn_d c2 L P := by
  unfold pn_d at h ⊢
  rw [h1 84 (by omega) (by omega), h1 85 (by omega) (by omega), h1 86 (by omega) (by omega), h2 5 (by omega), h2 6 (by omega), h2 7 (by omega)]
  exact h
theorem pn_p_fr {c2 : Nat → Nat → Int32} (h1 : ∀ q, 84 ≤ q → q ≤ 86 → c2 q = c q) (h2 : ∀ j, j < 8 → c2 77 j = c 77 j) : pn_p c2 = pn_p c := by
  funext x z
  unfold pn_p
  rw [h1 84 (by omega) (by omega), h1 85 (by omega) (by omega), h1 86 (by omega) (by omega), h2 7 (by omega)]
end PD
