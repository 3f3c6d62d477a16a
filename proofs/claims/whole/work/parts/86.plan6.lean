/-! ===== plans: one weighing more ===== -/
section PD
variable {c m : Nat → Nat → Int32} {L P : Nat} {Sat : (Nat → Int) → Prop}
def pn_d (c : Nat → Nat → Int32) (L P : Nat) : Prop := P ≤ 8 ∧ L ≤ 10 ∧ c 77 6 = nI P ∧ c 77 7 = nI L ∧ (0 ≤ (c 77 8).toInt ∧ (c 77 8).toInt ≤ 99) ∧ ∀ x, x < P → ∃ a b : Nat, a < L ∧ b < L ∧ a ≠ b ∧ c 80 x = nI a ∧ c 81 x = nI b ∧ -240000 ≤ (c 82 x).toInt ∧ (c 82 x).toInt ≤ 240000
def pn_p (c : Nat → Nat → Int32) (x : Nat) (z : Nat → Int) : Prop := (c 82 x).toInt - (c 77 8).toInt ≤ z (c 80 x).toNatClampNeg - z (c 81 x).toNatClampNeg ∧ z (c 80 x).toNatClampNeg - z (c 81 x).toNatClampNeg ≤ (c 82 x).toInt + (c 77 8).toInt
theorem pn_one {x : Nat} (hx : x < P) (hd : pn_d c L P) (h : pn_N c 79 L Sat) : ∃ b c2, fx_Planner_tryOne (nI x) c = some (b, c2) ∧ (∀ q, q ≠ 79 → c2 q = c q) ∧ (b = false → ¬ ∃ z, Sat z ∧ pn_p c x (fun i => -z i)) ∧ (b = true → pn_N c2 79 L (fun z => Sat z ∧ pn_p c x (fun i => -z i))) := by
  obtain ⟨hP, hL, d5, d6, d7, dp⟩ := hd
  obtain ⟨a, b, ha, hb, hab, ca, cb, l1, l2⟩ := dp x hx
  unfold fx_Planner_tryOne
  rw [kp_gd _ (kp_in_nI (show x < 8 by omega) (by omega)), nI_clamp (show x < 2 ^ 31 by omega)]
  have w1 : (c 82 x + c 77 8).toInt = (c 82 x).toInt + (c 77 8).toInt := kp_add (by omega) (by omega)
  have w2 : (c 77 8 - c 82 x).toInt = (c 77 8).toInt - (c 82 x).toInt := kp_sub (by omega) (by omega)
  have e1 : ∀ z : Nat → Int, (z b - z a ≤ (c 82 x + c 77 8).toInt ∧ z a - z b ≤ (c 77 8 - c 82 x).toInt) ↔ pn_p c x (fun i => -z i) := fun z => by
    unfold pn_p
    rw [ca, cb, nI_clamp (show a < 2 ^ 31 by omega), nI_clamp (show b < 2 ^ 31 by omega), w1, w2]
    show _ ↔ _ ≤ -z a - -z b ∧ -z a - -z b ≤ _
    omega
  rw [ca, cb, pn_narrow79]
  rcases pn_two (r := 79) (by omega) h hb ha (fun q => hab q.symm) (w := c 82 x + c 77 8) (w2 := c 77 8 - c 82 x) (by omega) (by omega) (by omega) (by omega) with ⟨q1, q2⟩ | ⟨c6, q1, q2, q3⟩
  · rw [q1, kp_b2, if_neg (by decide)]
    refine ⟨false, c, rfl, fun _ _ => rfl, fun _ => ?_, fun z => absurd z (by decide)⟩
    rintro ⟨z, z1, z2⟩
    exact q2 ⟨z, z1, (e1 z).mpr z2⟩
  · rw [q1, kp_b2, if_pos rfl, q2 80 (by omega), q2 81 (by omega), q2 82 (by omega), q2 77 (by omega), ca, cb, pn_narrow79]
    rcases q3 with ⟨r1, r2⟩ | ⟨c7, r1, r2, r3⟩
    · rw [r1, kp_b2, if_neg (by decide)]
      refine ⟨false, c6, rfl, q2, fun _ => ?_, fun z => absurd z (by decide)⟩
      rintro ⟨z, z1, z2⟩
      exact r2 ⟨z, z1, (e1 z).mpr z2⟩
    · rw [r1, kp_b2, if_pos rfl]
      exact ⟨true, c7, rfl, r2, fun z => absurd z (by decide), fun _ => pn_N_congr r3 (fun z => and_congr_right (fun _ => e1 z))⟩
/-- what is told stays where only the tables change -/
theorem pn_d_fr {c2 : Nat → Nat → Int32} (h : pn_d c L P) (h1 : ∀ q, 80 ≤ q → q ≤ 82 → c2 q = c q) (h2 : ∀ j, j < 9 → c2 77 j = c 77 j) : pn_d c2 L P := by
  unfold pn_d at h ⊢
  rw [h1 80 (by omega) (by omega), h1 81 (by omega) (by omega), h1 82 (by omega) (by omega), h2 6 (by omega), h2 7 (by omega), h2 8 (by omega)]
  exact h
theorem pn_p_fr {c2 : Nat → Nat → Int32} (h1 : ∀ q, 80 ≤ q → q ≤ 82 → c2 q = c q) (h2 : ∀ j, j < 9 → c2 77 j = c 77 j) : pn_p c2 = pn_p c := by
  funext x z
  unfold pn_p
  rw [h1 80 (by omega) (by omega), h1 81 (by omega) (by omega), h1 82 (by omega) (by omega), h2 8 (by omega)]
end PD
