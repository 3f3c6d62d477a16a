/-! ===== plans: the first table ===== -/
section PB
variable {c m : Nat → Nat → Int32} {n L T : Nat} {y : Int32}
theorem pn_fill (p : Int32) (c : Nat → Nat → Int32) : ∃ c3, fx_Arr_fill_78 p c = some c3 ∧ (∀ q, q ≠ 78 → c3 q = c q) ∧ ∀ j, j < 100 → c3 78 j = p := by
  have key := kp_inv (kv_u2 (fb_Arr_fill_78_5 p)) (fun i st => ∃ c3, st = (nI i, c3) ∧ (∀ q, q ≠ 78 → c3 q = c q) ∧ ∀ j, j < i → c3 78 j = p) (fun c3 => (∀ q, q ≠ 78 → c3 q = c q) ∧ ∀ j, j < 100 → c3 78 j = p) 100 ?_ ?_ ((0 : Int32), c) ⟨c, rfl, fun _ _ => rfl, fun j h => absurd h (Nat.not_lt_zero _)⟩
  · obtain ⟨c3, h1, h2, h3⟩ := key
    exact ⟨c3, by unfold fx_Arr_fill_78; rw [h1]; rfl, h2, h3⟩
  · rintro i st hi ⟨c3, rfl, h3, h4⟩
    refine Or.inl ⟨(nI (i + 1), kv_st c3 78 i p), ?_, _, rfl, fun q hq => by rw [kp_st_ne hq]; exact h3 q hq, fun j hj => ?_⟩
    · show fb_Arr_fill_78_5 p (nI i) c3 = _
      unfold fb_Arr_fill_78_5
      have b2 : ¬ (100 : Int32) ≤ nI i := nI_ge (b := 100) hi (by omega)
      rw [if_neg b2, kp_gd _ (kp_in_nI (by omega) (by omega)), nI_clamp (by omega), kp_let, nI_1]
    · rw [kp_st]
      by_cases z : j = i
      · rw [if_pos ⟨rfl, z⟩]
      · rw [if_neg (fun w => z w.2)]; exact h4 j (by omega)
  · rintro st ⟨c3, rfl, h3, h4⟩
    exact ⟨c3, rfl, h3, h4⟩
theorem pn_diag (c : Nat → Nat → Int32) : ∃ c3, kv_loop (kv_u2 fb_Planner_learn_11) ((0 : Int32), c) = some c3 ∧ (∀ q, q ≠ 78 → c3 q = c q) ∧ ∀ j, c3 78 j = if j < 100 ∧ j % 11 = 0 then 0 else c 78 j := by
  have key := kp_inv (kv_u2 fb_Planner_learn_11) (fun i st => ∃ c3, st = (nI i, c3) ∧ (∀ q, q ≠ 78 → c3 q = c q) ∧ ∀ j, c3 78 j = if j < 11 * i ∧ j % 11 = 0 then 0 else c 78 j) (fun c3 => (∀ q, q ≠ 78 → c3 q = c q) ∧ ∀ j, c3 78 j = if j < 100 ∧ j % 11 = 0 then 0 else c 78 j) 10 ?_ ?_ ((0 : Int32), c) ⟨c, rfl, fun _ _ => rfl, fun j => by rw [if_neg (by omega)]⟩
  · exact key
  · rintro i st hi ⟨c3, rfl, h3, h4⟩
    refine Or.inl ⟨(nI (i + 1), kv_st c3 78 (11 * i) 0), ?_, _, rfl, fun q hq => by rw [kp_st_ne hq]; exact h3 q hq, fun j => ?_⟩
    · show fb_Planner_learn_11 (nI i) c3 = _
      unfold fb_Planner_learn_11
      have b2 : ¬ (10 : Int32) ≤ nI i := nI_ge (b := 10) hi (by omega)
      rw [pn_ix, show 10 * i + i = 11 * i by omega, if_neg b2, kp_gd _ (kp_in_nI (show 11 * i < 100 by omega) (by omega)), nI_clamp (by omega), kp_let, nI_1]
    · rw [kp_st, h4 j]
      by_cases z : j = 11 * i
      · rw [if_pos ⟨rfl, z⟩, if_pos (by omega)]
      · rw [if_neg (fun w => z w.2)]
        by_cases z2 : j < 11 * i ∧ j % 11 = 0
        · rw [if_pos z2, if_pos (by omega)]
        · rw [if_neg z2, if_neg (by omega)]
  · rintro st ⟨c3, rfl, h3, h4⟩
    refine ⟨c3, ?_, h3, fun j => ?_⟩
    · rfl
    · rw [h4 j]
      by_cases z : j < 100 ∧ j % 11 = 0
      · rw [if_pos z, if_pos (by omega)]
      · rw [if_neg z, if_neg (by omega)]
/-- nothing told -/
theorem pn_first (hn : n ≤ 10) (h6 : c 77 7 = nI n) (h : ∀ j, j < 100 → c 78 j = if j % 11 = 0 then 0 else (2147483647 : Int32)) : pn_N c 78 n (fun _ => True) := by
  have e : ∀ i j, i < n → j < n → pn_t c 78 i j = if i = j then 0 else 1000000000000 := fun i j hi hj => by
    unfold pn_t
    rw [h _ (show 10 * i + j < 100 by omega)]
    by_cases z : i = j
    · rw [if_pos z, if_pos (show (10 * i + j) % 11 = 0 by omega), if_neg (by decide)]; decide
    · rw [if_neg z, if_neg (show ¬ (10 * i + j) % 11 = 0 by omega), if_pos rfl]
  have fin : ∀ i j, i < n → j < n → pn_t c 78 i j ≠ 1000000000000 → i = j := fun i j hi hj hne => by
    rw [e i j hi hj] at hne
    by_cases z : i = j
    · exact z
    · rw [if_neg z] at hne; exact absurd rfl hne
  have dg : ∀ i, i < n → pn_t c 78 i i = 0 := fun i hi => by rw [e i i hi hi, if_pos rfl]
  refine ⟨hn, h6, pn_t c 78, ⟨dg, fun i j hi hj => ?_⟩, ⟨fun _ _ _ _ => Int.le_refl _, fun q i j hq _ hi hj n1 n2 => ?_, dg, fun i j hi hj hne x _ => ?_, fun i j hi hj hne => ⟨0, hne⟩, fun i j hi hj => ?_⟩, fun i j hi hj hne => ?_, fun x => ⟨fun _ => trivial, fun _ i j hi hj hne => ?_⟩⟩
  · rw [e i j hi hj]
    by_cases z : i = j
    · rw [if_pos z]; omega
    · rw [if_neg z]; omega
  · have e1 := fin i q hi hq n1
    have e2 := fin q j hq hj n2
    subst e1 e2
    rw [dg _ hi]; omega
  · have e1 := fin i j hi hj hne
    subst e1
    rw [dg _ hi]; omega
  · rw [e i j hi hj]
    by_cases z : i = j
    · rw [if_pos z]; omega
    · rw [if_neg z]; omega
  · have e1 := fin i j hi hj hne
    subst e1
    exact hne
  · have e1 := fin i j hi hj hne
    subst e1
    rw [dg _ hi]; omega
/-- a weighing of the year: the table keeps what each lump is less -/
theorem pn_weighing {Sat : (Nat → Int) → Prop} {w : Nat} (hw20 : w < 20) (hw : yw c m L w) (hL : L ≤ n) (h : pn_N c 78 n Sat) : ∃ b c2, fx_Planner_learnOne (nI w) c = some (b, c2) ∧ (∀ q, q ≠ 78 → c2 q = c q) ∧ (b = false → ¬ ∃ x, Sat x ∧ yr_1 c 0 w (fun i => -x i)) ∧ (b = true → pn_N c2 78 n (fun x => Sat x ∧ yr_1 c 0 w (fun i => -x i))) := by
  obtain ⟨lo, hi, g1, g2, g3, g4⟩ := yk_lo hw20 hw
  have hw' := hw
  have hn10 := h.1
  obtain ⟨a, b, ha, hb, hab, ca, cb, -, -, -, -, -, -, h14, h15, -⟩ := hw'
  have eneg : (-lo).toInt = -lo.toInt := by
    rw [Int32.toInt_neg]
    exact kp_bmod (by omega) (by omega)
  have e1 : ∀ x : Nat → Int, (x b - x a ≤ hi.toInt ∧ x a - x b ≤ (-lo).toInt) ↔ yr_1 c 0 w (fun i => -x i) := fun x => by
    unfold yr_1
    rw [ca, cb, nI_clamp (show a < 2 ^ 31 by omega), nI_clamp (show b < 2 ^ 31 by omega), eneg, Nat.zero_add, Nat.zero_add]
    show _ ↔ _ ≤ -x a - -x b ∧ -x a - -x b ≤ _
    omega
  unfold fx_Planner_learnOne
  rw [kp_gd _ (kp_in_nI hw20 (by omega)), kp_let, kp_let, g2, kp_b1, nI_clamp (show w < 2 ^ 31 by omega), ca, cb, pn_narrow78]
  rcases pn_two (r := 78) (by omega) h (show b < n by omega) (show a < n by omega) (fun z => hab z.symm) (w := hi) (w2 := -lo) (by omega) (by omega) (by omega) (by omega) with ⟨q1, q2⟩ | ⟨c4, q1, q2, q3⟩
  · rw [q1, kp_b2, if_neg (by decide)]
    refine ⟨false, c, rfl, fun _ _ => rfl, fun _ => ?_, fun z => absurd z (by decide)⟩
    rintro ⟨x, x1, x2⟩
    exact q2 ⟨x, x1, (e1 x).mpr x2⟩
  · have g1' : fx_Weighings_least (nI w) c4 = some lo := by
      rw [← g1]
      unfold fx_Weighings_least
      rw [q2 14 (by omega), q2 15 (by omega)]
    rw [q1, kp_b2, if_pos rfl, g1', kp_b1, pn_narrow78]
    rcases q3 with ⟨r1, r2⟩ | ⟨c7, r1, r2, r3⟩
    · rw [r1, kp_b2, if_neg (by decide)]
      refine ⟨false, c4, rfl, q2, fun _ => ?_, fun z => absurd z (by decide)⟩
      rintro ⟨x, x1, x2⟩
      exact r2 ⟨x, x1, (e1 x).mpr x2⟩
    · rw [r1, kp_b2, if_pos rfl]
      exact ⟨true, c7, rfl, r2, fun z => absurd z (by decide), fun _ => pn_N_congr r3 (fun x => and_congr_right (fun _ => e1 x))⟩
end PB
