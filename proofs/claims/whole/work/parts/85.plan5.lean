/-! ===== plans: what the year's weighings say ===== -/
section PC
variable {c m : Nat → Nat → Int32} {L T : Nat} {y : Int32}
theorem pn_neg (x : Nat → Int) : (fun i => -(fun i => -x i) i) = x := by
  funext i
  show - -x i = x i
  omega
theorem pn_weighs (hT : T ≤ 20) (hc : c 10 7 = nI T) (hy : c 1 5 = y) (hw : ∀ w, w < T → yw c m L w) (h : pn_N c 78 L (fun _ => True)) : ∃ z, kv_loop (kv_u2 fb_Planner_learn_42) ((0 : Int32), c) = some z ∧ Sum.elim (fun c2 => (∀ q, q ≠ 78 → c2 q = c q) ∧ ¬ ∃ x, yr_S c y 0 T x) (fun c2 => (∀ q, q ≠ 78 → c2 q = c q) ∧ pn_N c2 78 L (fun x => yr_S c y 0 T (fun i => -x i))) z := by
  have key := kp_inv (kv_u2 fb_Planner_learn_42) (fun i st => ∃ c3, st = (nI i, c3) ∧ (∀ q, q ≠ 78 → c3 q = c q) ∧ pn_N c3 78 L (fun x => yr_S c y 0 i (fun i => -x i))) (fun z => Sum.elim (fun c2 => (∀ q, q ≠ 78 → c2 q = c q) ∧ ¬ ∃ x, yr_S c y 0 T x) (fun c2 => (∀ q, q ≠ 78 → c2 q = c q) ∧ pn_N c2 78 L (fun x => yr_S c y 0 T (fun i => -x i))) z) T ?_ ?_ ((0 : Int32), c) ⟨c, rfl, fun _ _ => rfl, pn_N_congr h (fun x => ⟨fun _ w hw => absurd hw (Nat.not_lt_zero _), fun _ => trivial⟩)⟩
  · exact key
  · rintro i st hi ⟨c3, rfl, i1, i2⟩
    have fr3 : ∀ q, 11 ≤ q → q ≤ 16 → c3 q = c q := fun q a b => i1 q (by omega)
    have T1 : kv_u2 fb_Planner_learn_42 (nI i, c3) = fb_Planner_learn_42 (nI i) c3 := rfl
    rw [T1]
    unfold fb_Planner_learn_42
    rw [i1 10 (by omega), hc, if_neg (nI_ge hi (by omega)), i1 1 (by omega), hy, yk_counts (by omega), kp_b1, fr3 16 (by omega) (by omega), fr3 11 (by omega) (by omega)]
    by_cases z : c 16 i = 0 ∧ c 11 i = y
    · rw [decide_eq_true z, if_pos rfl]
      have ey : ∀ x, yr_1 c3 0 i x ↔ yr_1 c 0 i x := fun x => by
        unfold yr_1
        rw [fr3 12 (by omega) (by omega), fr3 13 (by omega) (by omega), fr3 14 (by omega) (by omega), fr3 15 (by omega) (by omega)]
      have es : ∀ x : Nat → Int, (yr_S c y 0 i (fun i => -x i) ∧ yr_1 c3 0 i (fun i => -x i)) ↔ yr_S c y 0 (i + 1) (fun i => -x i) := fun x => by
        rw [yr_S_add, ey]
        exact ⟨fun q => ⟨q.1, fun _ _ => q.2⟩, fun q => ⟨q.1, q.2 z.1 z.2⟩⟩
      obtain ⟨b, c4, g1, g2, g3, g4⟩ := pn_weighing (show i < 20 by omega) (yw_fr (hw i hi) fr3 rfl) (Nat.le_refl L) i2
      rw [g1, kp_b2]
      cases b with
      | true =>
        rw [if_pos rfl]
        refine Or.inl ⟨(nI (i + 1), c4), by unfold fj_Planner_learn_73; rw [nI_1], c4, rfl, fun q hq => by rw [g2 q hq, i1 q hq], pn_N_congr (g4 rfl) es⟩
      | false =>
        rw [if_neg (by decide)]
        refine Or.inr ⟨.inl c4, rfl, fun q hq => by rw [g2 q hq, i1 q hq], ?_⟩
        rintro ⟨x, hx⟩
        refine g3 rfl ⟨fun i => -x i, (es (fun i => -x i)).mpr ?_⟩
        rw [pn_neg]
        exact fun w hw => hx w (by omega)
    · rw [decide_eq_false z, if_neg (by decide)]
      refine Or.inl ⟨(nI (i + 1), c3), by unfold fj_Planner_learn_73; rw [nI_1], c3, rfl, i1, pn_N_congr i2 (fun x => ?_)⟩
      rw [yr_S_add]
      exact ⟨fun q => ⟨q, fun a b => absurd ⟨a, b⟩ z⟩, fun q => q.1⟩
  · rintro st ⟨c3, rfl, i1, i2⟩
    refine ⟨.inr c3, ?_, i1, i2⟩
    show fb_Planner_learn_42 (nI T) c3 = _
    unfold fb_Planner_learn_42
    rw [i1 10 (by omega), hc, if_pos (nI_le (Nat.le_refl _) (by omega))]
theorem pn_learn (hL : L ≤ 10) (hT : T ≤ 20) (h6 : c 77 7 = nI L) (hc : c 10 7 = nI T) (hy : c 1 5 = y) (hw : ∀ w, w < T → yw c m L w) : ∃ b c2, fx_Planner_learn c = some (b, c2) ∧ (∀ q, q ≠ 78 → c2 q = c q) ∧ (b = false → ¬ ∃ x, yr_S c y 0 T x) ∧ (b = true → pn_N c2 78 L (fun x => yr_S c y 0 T (fun i => -x i))) := by
  unfold fx_Planner_learn
  obtain ⟨c4, a1, a2, a3⟩ := pn_fill (2147483647 : Int32) c
  rw [a1, kp_b1]
  obtain ⟨c7, b1, b2, b3⟩ := pn_diag c4
  have rq : ∀ q, q ≠ 78 → c7 q = c q := fun q h2 => by rw [b2 q h2, a2 q h2]
  have N7 : pn_N c7 78 L (fun _ => True) := pn_first hL (by rw [rq 77 (by omega)]; exact h6) (fun j hj => by
    rw [b3, a3 j hj]
    by_cases z : j % 11 = 0
    · rw [if_pos z, if_pos ⟨hj, z⟩]
    · rw [if_neg z, if_neg (fun w => z w.2)])
  have fr7 : ∀ q, 11 ≤ q → q ≤ 16 → c7 q = c q := fun q h1 h2 => rq q (by omega)
  have eS : yr_S c7 y 0 T = yr_S c y 0 T := yr_S_fr fr7
  obtain ⟨z, g1, g2⟩ := pn_weighs (c := c7) (m := m) (y := y) hT (by rw [rq 10 (by omega)]; exact hc) (by rw [rq 1 (by omega)]; exact hy) (fun w hw2 => yw_fr (hw w hw2) fr7 rfl) N7
  rw [b1]
  have e : ∀ A : Option (Bool × (Nat → Nat → Int32)), (some c7).bind (kv_u1 (fun _ => A)) = A := fun _ => rfl
  show ∃ b c2, (kv_loop (kv_u2 fb_Planner_learn_42) ((0 : Int32), c7)).bind (Sum.elim (kv_u1 (fun c12 => some (false, c12))) (kv_u1 (fun c13 => some (true, c13)))) = some (b, c2) ∧ _
  rw [g1]
  cases z with
  | inl c2 => exact ⟨false, c2, rfl, fun q hq => by rw [g2.1 q hq, rq q hq], fun _ => by rw [← eS]; exact g2.2, fun w => absurd w (by decide)⟩
  | inr c2 => exact ⟨true, c2, rfl, fun q hq => by rw [g2.1 q hq, rq q hq], fun w => absurd w (by decide), fun _ => by rw [← eS]; exact g2.2⟩
end PC
