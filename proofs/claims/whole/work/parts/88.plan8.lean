/-! ===== plans: are they pairs ===== -/
section PF
variable {c m : Nat → Nat → Int32} {L : Nat}
def pn_ok (L : Nat) (v : Int32) : Prop := ∃ p : Nat, v = nI p ∧ p < 100 ∧ p / 10 < L ∧ p % 10 < L ∧ p / 10 ≠ p % 10
theorem pn_isPair (h2 : m 85 1 = nI L) (h7 : c 2 7 = nI L) (hL : L ≤ 10) (v : Int32) : (pn_ok L v ∧ ¬ v < 0 ∧ fx_D_isPair v m = some true ∧ fx_Lumps_hasPair (v / (10 : Int32)) (v - v / (10 : Int32) * (10 : Int32)) c = some true) ∨ (fx_D_isPair v m = some false ∧ (v < 0 ∨ fx_Lumps_hasPair (v / (10 : Int32)) (v - v / (10 : Int32) * (10 : Int32)) c = some false)) := by
  by_cases q : v < 0
  · refine Or.inr ⟨?_, Or.inl q⟩
    rw [kp_lt] at q
    have q2 : v.toInt < 0 := q
    unfold fx_D_isPair
    rw [sx_isInL _ 0 99 (by decide) (by decide), kp_b1, decide_eq_false (by omega), if_neg (by decide)]
  · have q2 : 0 ≤ v.toInt := by
      rw [kp_lt] at q
      exact Int.not_lt.mp q
    obtain ⟨p, rfl, e, hp⟩ := kp_nat q2
    obtain ⟨d1, d2⟩ := nd_d10 hp
    have hh : ∀ x : Nat, x < 2 ^ 31 → fx_Lumps_has (nI x) c = some (decide (x < L)) := fun x hx => by
      rw [sx_has _ _ h7 (by omega), nI_toInt hx]
      congr 1
      exact decide_eq_decide.mpr (by omega)
    have hc : fx_Lumps_hasPair (nI p / (10 : Int32)) (nI p - nI p / (10 : Int32) * (10 : Int32)) c = some (decide (p / 10 < L ∧ p % 10 < L ∧ p / 10 ≠ p % 10)) := by
      rw [d2, d1]
      unfold fx_Lumps_hasPair
      rw [hh _ (by omega), hh _ (by omega), kp_b1, kp_b1]
      by_cases z1 : p / 10 < L
      · rw [decide_eq_true z1, if_pos rfl]
        by_cases z2 : p % 10 < L
        · rw [decide_eq_true z2, if_pos rfl]
          by_cases z3 : p / 10 = p % 10
          · rw [if_pos (by rw [z3]), decide_eq_false (fun w => w.2.2 z3)]
          · rw [if_neg (fun w => z3 ((nI_eq (by omega) (by omega)).mp w)), decide_eq_true ⟨z1, z2, z3⟩]
        · rw [decide_eq_false z2, if_neg (by decide), decide_eq_false (fun w => z2 w.2.1)]
      · rw [decide_eq_false z1, if_neg (by decide), decide_eq_false (fun w => z1 w.1)]
    rw [nd_pair h2 hL hp, hc]
    by_cases z : p / 10 < L ∧ p % 10 < L ∧ p / 10 ≠ p % 10
    · have z0 : p < 100 := by omega
      exact Or.inl ⟨⟨p, rfl, z0, z⟩, q, by rw [decide_eq_true ⟨z0, z⟩], by rw [decide_eq_true z]⟩
    · exact Or.inr ⟨by rw [decide_eq_false (fun w => z w.2)], Or.inr (by rw [decide_eq_false z])⟩
theorem pn_pairAt {d sz i : Nat} (hd : d < 8) (hr : hr_row c m d sz) (hi : i < 100) : fx_D_pairAt (nI d) (nI i) m = some (c (53 + 2 * d) i) := by
  unfold fx_D_pairAt
  have e : ((100 : Int32) * nI d) + nI i = nI (100 * d + i) := by
    rw [show (100 : Int32) * nI d = nI (100 * d) from pk_mul 100 d, nI_add]
  rw [e, kp_gd _ (kp_in_nI (by omega) (by omega)), nI_clamp (by omega), hr.2.2.2.2.2.2 i hi]
theorem pn_pairs (h2 : m 85 1 = nI L) (h7 : c 2 7 = nI L) (hL : L ≤ 10) {d sz : Nat} (hd : d < 8) (hr : hr_row c m d sz) : (sz ≤ 8 ∧ fx_K_arePairs (52 + 2 * d) c = some true ∧ kv_loop (kv_u1 (fb_D_plan_77 m (nI d))) (0 : Int32) = some (.inr ()) ∧ ∀ i, i < sz → pn_ok L (c (53 + 2 * d) i)) ∨ (fx_K_arePairs (52 + 2 * d) c = some false ∧ (8 < sz ∨ (sz ≤ 8 ∧ kv_loop (kv_u1 (fb_D_plan_77 m (nI d))) (0 : Int32) = some (.inl ())))) := by
  have hr' := hr
  obtain ⟨-, -, -, r93, r3, r100, -⟩ := hr'
  unfold fx_K_arePairs
  rw [r3]
  by_cases h8 : sz ≤ 8
  rotate_left
  · have b2 : ¬ nI sz ≤ (8 : Int32) := nI_ge (a := 8) (by omega) (by omega)
    rw [if_neg b2]
    exact Or.inr ⟨rfl, Or.inl (by omega)⟩
  have b2 : nI sz ≤ (8 : Int32) := nI_le (b := 8) h8 (by omega)
  rw [if_pos b2]
  have key := kp_sim (kv_u1 (fb_K_arePairs_13 c (52 + 2 * d))) (kv_u1 (fb_D_plan_77 m (nI d))) (fun i s t => s = nI i ∧ t = nI i ∧ ∀ j, j < i → pn_ok L (c (53 + 2 * d) j)) (fun r w => (r = .inr () ∧ w = .inr () ∧ ∀ j, j < sz → pn_ok L (c (53 + 2 * d) j)) ∨ (r = .inl () ∧ w = .inl ())) sz ?_ ?_ (0 : Int32) (0 : Int32) ⟨rfl, rfl, fun j h => absurd h (Nat.not_lt_zero _)⟩
  · obtain ⟨r, w, g1, g2, g3⟩ := key
    rw [g1, g2]
    rcases g3 with ⟨rfl, rfl, g3⟩ | ⟨rfl, rfl⟩
    · exact Or.inl ⟨h8, rfl, rfl, g3⟩
    · exact Or.inr ⟨rfl, Or.inr ⟨h8, rfl⟩⟩
  · rintro i s t hi ⟨rfl, rfl, ho⟩
    have T1 : kv_u1 (fb_K_arePairs_13 c (52 + 2 * d)) (nI i) = fb_K_arePairs_13 c (52 + 2 * d) (nI i) := rfl
    have T2 : kv_u1 (fb_D_plan_77 m (nI d)) (nI i) = fb_D_plan_77 m (nI d) (nI i) := rfl
    rw [T1, T2]
    unfold fb_K_arePairs_13 fb_D_plan_77
    rw [nI_clamp (show d < 2 ^ 31 by omega), r93, r3, if_neg (nI_ge hi (by omega)), if_neg (nI_ge hi (by omega)), kp_gd _ (kp_in_nI (show i < 100 by omega) (by omega)), nI_clamp (show i < 2 ^ 31 by omega), tg_el d hd, kp_let, pn_pairAt hd hr (by omega), kp_b1]
    rcases pn_isPair h2 h7 hL (c (53 + 2 * d) i) with ⟨a1, a2, a3, a4⟩ | ⟨a1, a2⟩
    · rw [if_neg a2, a3, a4, kp_b1, if_pos rfl, nI_1]
      refine Or.inl ⟨_, _, rfl, rfl, rfl, rfl, fun j hj => ?_⟩
      by_cases z : j = i
      · rw [z]; exact a1
      · exact ho j (by omega)
    · rw [a1, kp_b1, if_neg (show ¬ false = true by decide)]
      refine Or.inr ⟨.inl (), .inl (), ?_, rfl, Or.inr ⟨rfl, rfl⟩⟩
      by_cases q : c (53 + 2 * d) i < 0
      · rw [if_pos q]
      · rw [if_neg q, a2.resolve_left q, kp_b1, if_neg (by decide)]
  · rintro s t ⟨rfl, rfl, ho⟩
    refine ⟨.inr (), .inr (), ?_, ?_, Or.inl ⟨rfl, rfl, ho⟩⟩
    · show fb_K_arePairs_13 c (52 + 2 * d) (nI sz) = _
      unfold fb_K_arePairs_13
      rw [r3, if_pos (nI_le (Nat.le_refl _) (by omega))]
    · show fb_D_plan_77 m (nI d) (nI sz) = _
      unfold fb_D_plan_77
      rw [nI_clamp (show d < 2 ^ 31 by omega), r93, if_pos (nI_le (Nat.le_refl _) (by omega))]
end PF
