/-! ===== plans: what is told ===== -/
section PG
variable {c m : Nat → Nat → Int32} {L : Nat}
def pn_told (c c2 : Nat → Nat → Int32) (d L x : Nat) : Prop := ∃ p : Nat, c (53 + 2 * d) x = nI p ∧ p < 100 ∧ p / 10 < L ∧ p % 10 < L ∧ p / 10 ≠ p % 10 ∧ c2 80 x = nI (p / 10) ∧ c2 81 x = nI (p % 10) ∧ c2 82 x = c 6 (p / 10) - c 6 (p % 10) ∧ c2 83 x = if c 3 (p / 10) = (1 : Int32) ∨ c 3 (p % 10) = (1 : Int32) then (1 : Int32) else 0
theorem pn_tell (h7 : c 2 7 = nI L) (hL : L ≤ 10) {d sz : Nat} (hd : d < 8) (hr : hr_row c m d sz) (h8 : sz ≤ 8) (hok : ∀ i, i < sz → pn_ok L (c (53 + 2 * d) i)) (p3 p4 : Int32) : ∃ c2, fx_Planner_tell (52 + 2 * d) p3 p4 c = some c2 ∧ (∀ q, q ≠ 77 → (q < 80 ∨ 83 < q) → c2 q = c q) ∧ c2 77 6 = nI sz ∧ c2 77 7 = nI L ∧ c2 77 8 = p3 ∧ c2 77 9 = p4 ∧ ∀ x, x < sz → pn_told c c2 d L x := by
  obtain ⟨-, -, -, -, r3, -, -⟩ := hr
  have b8 : ¬ (8 : Int32) < nI sz := nI_nlt (a := 8) (by omega) (by omega)
  unfold fx_Planner_tell
  rw [r3, if_neg b8, kp_let, kp_let, kp_let, kp_let, kp_st_ne (show (2 : Nat) ≠ 77 by omega), h7]
  generalize hc0 : kv_st (kv_st (kv_st (kv_st c 77 6 (nI sz)) 77 7 (nI L)) 77 8 p3) 77 9 p4 = c0
  have f0 : ∀ q, q ≠ 77 → c0 q = c q := fun q hq => by rw [← hc0, kp_st_ne hq, kp_st_ne hq, kp_st_ne hq, kp_st_ne hq]
  have e0 : ∀ j, c0 77 j = if j = 9 then p4 else if j = 8 then p3 else if j = 7 then nI L else if j = 6 then nI sz else c 77 j := fun j => by
    rw [← hc0, kp_st, kp_st, kp_st, kp_st]
    simp only [true_and]
  have key := kp_inv (kv_u2 (fb_Planner_tell_35 (52 + 2 * d))) (fun i st => ∃ c3, st = (nI i, c3) ∧ (∀ q, (q < 80 ∨ 83 < q) → c3 q = c0 q) ∧ ∀ x, x < i → pn_told c c3 d L x) (fun c3 => (∀ q, (q < 80 ∨ 83 < q) → c3 q = c0 q) ∧ ∀ x, x < sz → pn_told c c3 d L x) sz ?_ ?_ ((0 : Int32), c0) ⟨c0, rfl, fun _ _ => rfl, fun x h => absurd h (Nat.not_lt_zero _)⟩
  · obtain ⟨c2, h1, h2, h3⟩ := key
    refine ⟨c2, by rw [h1]; rfl, fun q hq hq2 => by rw [h2 q hq2, f0 q hq], ?_, ?_, ?_, ?_, h3⟩
    · rw [h2 77 (by omega), e0]; rfl
    · rw [h2 77 (by omega), e0]; rfl
    · rw [h2 77 (by omega), e0]; rfl
    · rw [h2 77 (by omega), e0]; rfl
  · rintro i st hi ⟨c3, rfl, i1, i2⟩
    refine Or.inl ?_
    have fr : ∀ q, q ≠ 77 → (q < 80 ∨ 83 < q) → c3 q = c q := fun q hq hq2 => by rw [i1 q hq2, f0 q hq]
    obtain ⟨p, ep, p100, pa, pb, pab⟩ := hok i hi
    obtain ⟨d1, d2⟩ := nd_d10 (show p < 2 ^ 31 by omega)
    have T1 : kv_u2 (fb_Planner_tell_35 (52 + 2 * d)) (nI i, c3) = fb_Planner_tell_35 (52 + 2 * d) (nI i) c3 := rfl
    rw [T1]
    have e5 : c3 77 6 = nI sz := by rw [i1 77 (by omega), e0]; rfl
    have fin : ∀ v : Int32, (v = 0 ∨ v = 1) → (v = if c 3 (p / 10) = (1 : Int32) ∨ c 3 (p % 10) = (1 : Int32) then (1 : Int32) else 0) → ∃ s2, fj_Planner_tell_141 (kv_st (kv_st (kv_st c3 80 i (nI (p / 10))) 81 i (nI (p % 10))) 82 i (c 6 (p / 10) - c 6 (p % 10))) (nI i) v = some (.inl s2) ∧ ∃ c4, s2 = (nI (i + 1), c4) ∧ (∀ q, (q < 80 ∨ 83 < q) → c4 q = c0 q) ∧ ∀ x, x < i + 1 → pn_told c c4 d L x := by
      intro v hv ev
      have en : vp_nar .boolean v = v := by
        rcases hv with rfl | rfl <;> decide
      unfold fj_Planner_tell_141
      rw [nI_clamp (show i < 2 ^ 31 by omega), en, kp_let, nI_1]
      refine ⟨_, rfl, _, rfl, fun q hq => by rw [kp_st_ne (by omega), kp_st_ne (by omega), kp_st_ne (by omega), kp_st_ne (by omega)]; exact i1 q hq, fun x hx => ?_⟩
      have F : ∀ q j, kv_st (kv_st (kv_st (kv_st c3 80 i (nI (p / 10))) 81 i (nI (p % 10))) 82 i (c 6 (p / 10) - c 6 (p % 10))) 83 i v q j = if q = 83 ∧ j = i then v else if q = 82 ∧ j = i then c 6 (p / 10) - c 6 (p % 10) else if q = 81 ∧ j = i then nI (p % 10) else if q = 80 ∧ j = i then nI (p / 10) else c3 q j := fun q j => by
        rw [kp_st, kp_st, kp_st, kp_st]
      by_cases z : x = i
      · subst z
        refine ⟨p, ep, p100, pa, pb, pab, ?_, ?_, ?_, ?_⟩
        · rw [F]
          rw [if_neg (by omega), if_neg (by omega), if_neg (by omega), if_pos ⟨rfl, rfl⟩]
        · rw [F]
          rw [if_neg (by omega), if_neg (by omega), if_pos ⟨rfl, rfl⟩]
        · rw [F]
          rw [if_neg (by omega), if_pos ⟨rfl, rfl⟩]
        · rw [F]
          rw [if_pos ⟨rfl, rfl⟩]
          exact ev
      · have K : ∀ q, kv_st (kv_st (kv_st (kv_st c3 80 i (nI (p / 10))) 81 i (nI (p % 10))) 82 i (c 6 (p / 10) - c 6 (p % 10))) 83 i v q x = c3 q x := fun q => by
          rw [F, if_neg (fun w => z w.2), if_neg (fun w => z w.2), if_neg (fun w => z w.2), if_neg (fun w => z w.2)]
        unfold pn_told
        rw [K, K, K, K]
        exact i2 x (by omega)
    unfold fb_Planner_tell_35
    rw [e5, if_neg (nI_ge hi (by omega)), kp_gd _ (kp_in_nI (show i < 100 by omega) (by omega)), nI_clamp (show i < 2 ^ 31 by omega), tg_el d hd, fr (53 + 2 * d) (by omega) (by omega), ep, d2, d1, kp_let, kp_let, kp_gd _ (kp_in_nI (show i < 8 by omega) (by omega)), kp_let, kp_let, kp_gd _ (kp_in_nI (show p / 10 < 10 by omega) (by omega)), kp_gd _ (kp_in_nI (show p % 10 < 10 by omega) (by omega)), nI_clamp (show p / 10 < 2 ^ 31 by omega), nI_clamp (show p % 10 < 2 ^ 31 by omega), kp_let]
    have s6 : kv_st (kv_st c3 80 i (nI (p / 10))) 81 i (nI (p % 10)) 6 = c 6 := by rw [kp_st_ne (by omega), kp_st_ne (by omega)]; exact fr 6 (by omega) (by omega)
    have s3 : kv_st (kv_st (kv_st c3 80 i (nI (p / 10))) 81 i (nI (p % 10))) 82 i (c 6 (p / 10) - c 6 (p % 10)) 3 = c 3 := by rw [kp_st_ne (by omega), kp_st_ne (by omega), kp_st_ne (by omega)]; exact fr 3 (by omega) (by omega)
    rw [s6, s3]
    unfold fj_Planner_tell_136
    by_cases q1 : c 3 (p / 10) = (1 : Int32)
    · rw [if_pos q1]
      exact fin 1 (Or.inr rfl) (if_pos (Or.inl q1)).symm
    · rw [if_neg q1]
      by_cases q2 : c 3 (p % 10) = (1 : Int32)
      · rw [if_pos q2]
        exact fin 1 (Or.inr rfl) (if_pos (Or.inr q2)).symm
      · rw [if_neg q2]
        exact fin 0 (Or.inl rfl) (if_neg (fun w => w.elim q1 q2)).symm
  · rintro st ⟨c3, rfl, i1, i2⟩
    have e5 : c3 77 6 = nI sz := by rw [i1 77 (by omega), e0]; rfl
    refine ⟨c3, ?_, i1, i2⟩
    show fb_Planner_tell_35 (52 + 2 * d) (nI sz) c3 = _
    unfold fb_Planner_tell_35
    rw [e5, if_pos (nI_le (Nat.le_refl _) (by omega))]
end PG
