/-! ===== wrong, when ===== -/
section OC2
variable {k : Nat} {c m : Nat → Nat → Int32}
theorem h_mend {a b x : Nat} (ha : a < 4) (hb : b < 4) (hx : x < 4) (hC : ∀ h, h < 4 → iC1 (i_v c 1) (m 85) h) {lk : Int32} (h1 : -100000 ≤ lk.toInt) (h2 : lk.toInt ≤ 100000) (hag : ∀ p : Int32, -1000 ≤ p.toInt → p.toInt ≤ 1000 → fx_D_agrees (nI a) (nI b) p m = some (decide (lk.toInt ≤ p.toInt))) : ∃ r, fx_Chains_linksThatMend (nI x) lk c = some r ∧ fj_D_wrong_56 m (nI a) (nI b) (nI x) = some r := by
  obtain ⟨K, hK, a1, a2, -, -, a5⟩ := hC x hx
  have a1 : c 23 x = nI K := a1
  have key := kp_sim (kv_u2 (fb_Chains_linksThatMend_5 (nI x) c lk)) (kv_u2 (fb_D_wrong_64 (nI x) m (nI a) (nI b))) (fun i s t => ∃ z : Int32, s = (z, nI i) ∧ t = (z, nI i)) (fun r q => r = q) K ?_ ?_ ((0 : Int32), (0 : Int32)) ((0 : Int32), (0 : Int32)) ⟨0, rfl, rfl⟩
  · obtain ⟨r, q, h1, h2, rfl⟩ := key
    refine ⟨r, ?_, ?_⟩
    · unfold fx_Chains_linksThatMend
      rw [h1]; rfl
    · unfold fj_D_wrong_56
      rw [h2]; rfl
  · rintro i s t hi ⟨z, rfl, rfl⟩
    refine Or.inl ?_
    obtain ⟨g1, g2, -, g5, g6⟩ := a5 i hi
    have g2 : m 85 (343 + 26 * x + 2 * i) = c 22 (12 * x + i) := g2
    have g5 : 0 ≤ (c 22 (12 * x + i)).toInt := g5
    have g6 : (c 22 (12 * x + i)).toInt ≤ 99 := g6
    have e1 : (nI x * (12 : Int32)) + nI i = nI (12 * x + i) := by
      have : nI x * (12 : Int32) = nI (x * 12) := pk_mul x 12
      rw [this, nI_add, Nat.mul_comm]
    have e2 : (((340 : Int32) + ((26 : Int32) * nI x)) + (3 : Int32)) + ((2 : Int32) * nI i) = nI (343 + 26 * x + 2 * i) := by
      have q1 : (340 : Int32) + ((26 : Int32) * nI x) + (3 : Int32) = nI (340 + 26 * x + 3) := kp_ix3 340 26 x 3
      have q2 : (2 : Int32) * nI i = nI (2 * i) := pk_mul 2 i
      rw [q1, q2, nI_add]
      congr 1
      omega
    have e9 : (9 * c 22 (12 * x + i)).toInt = 9 * (c 22 (12 * x + i)).toInt := by rw [kp_mul] <;> rw [ki_9] <;> omega
    show ∃ s2 t2, fb_Chains_linksThatMend_5 (nI x) c lk z (nI i) = some (.inl s2) ∧ fb_D_wrong_64 (nI x) m (nI a) (nI b) z (nI i) = some (.inl t2) ∧ _
    unfold fb_Chains_linksThatMend_5 fb_D_wrong_64
    rw [kp_gd _ (kp_in_nI (by omega) (by omega)), nI_clamp (show x < 2 ^ 31 by omega), a1, if_neg (nI_ge hi (by omega)), e1, kp_gd _ (kp_in_nI (by omega) (by omega)), nI_clamp (by omega), sx_links hx, kp_b1, a2, if_neg (nI_ge hi (by omega)), e2, kp_gd _ (kp_in_nI (by omega) (by omega)), nI_clamp (by omega), g2, hag _ (by omega) (by omega), kp_b1, e9]
    by_cases q : 9 * c 22 (12 * x + i) < lk
    · have q2 : ¬ lk.toInt ≤ 9 * (c 22 (12 * x + i)).toInt := by rw [kp_lt, e9] at q; omega
      rw [if_pos q]
      simp only [q2, decide_false]
      exact ⟨_, _, rfl, rfl, z, by rw [nI_1], by rw [nI_1, Int32.or_zero]⟩
    · have q2 : lk.toInt ≤ 9 * (c 22 (12 * x + i)).toInt := by rw [kp_lt, e9] at q; omega
      rw [if_neg q]
      simp only [q2, decide_true, if_true]
      exact ⟨_, _, rfl, rfl, z ||| (1 <<< (nI i &&& 31)), by rw [nI_1], by rw [nI_1]⟩
  · rintro s t ⟨z, rfl, rfl⟩
    show ∃ r q, fb_Chains_linksThatMend_5 (nI x) c lk z (nI K) = some (.inr r) ∧ fb_D_wrong_64 (nI x) m (nI a) (nI b) z (nI K) = some (.inr q) ∧ _
    unfold fb_Chains_linksThatMend_5 fb_D_wrong_64
    rw [kp_gd _ (kp_in_nI (by omega) (by omega)), nI_clamp (show x < 2 ^ 31 by omega), a1, sx_links hx, kp_b1, a2]
    simp only [if_pos (nI_le (Nat.le_refl K) (show K < 2 ^ 31 by omega))]
    exact ⟨z, z, rfl, rfl, rfl⟩
theorem op_wrong (h : Inv k c m) (p q w : Int32) : ∃ r, fx_K_wrong p q w c = some r ∧ fx_D_wrong p q w m = some r := by
  obtain ⟨⟨L, T, U, -, -, -, -, -, -, -, -, hC⟩, -⟩ := h
  unfold fx_K_wrong fx_D_wrong
  rw [sx_isWithin, sx_isInL w 0 1 (by decide) (by decide), ki_0, ki_1]
  by_cases z : 0 ≤ w.toInt ∧ w.toInt ≤ 1
  · simp only [z, and_self, decide_true, if_true, kp_b1]
    rcases h_refuse hC p q with ⟨a, b, ha, hb, -, rfl, rfl, e1, e2⟩ | ⟨r, hr, e1, e2⟩
    · obtain ⟨lk, l1, l3, l4, l2⟩ := h_lack ha hb hC
      simp only [e1, e2, kp_b1, if_true, l1, l2 0 (by rw [ki_0]; omega) (by rw [ki_0]; omega), ki_0]
      by_cases z1 : 0 < lk
      · have z2 : ¬ lk.toInt ≤ 0 := by rw [kp_lt, ki_0] at z1; omega
        simp only [if_pos z1, z2, decide_false]
        unfold fj_D_wrong_39 fj_K_wrong_65
        by_cases w0 : w = 0
        · obtain ⟨r, r1, r2⟩ := h_mend ha hb ha hC l3 l4 l2
          simp only [if_pos w0, if_true, r1, r2, kp_b1]
          exact ⟨r, rfl, rfl⟩
        · obtain ⟨r, r1, r2⟩ := h_mend ha hb hb hC l3 l4 l2
          simp only [if_neg w0, if_true, r1, r2, kp_b1]
          exact ⟨r, rfl, rfl⟩
      · have z2 : lk.toInt ≤ 0 := by rw [kp_lt, ki_0] at z1; omega
        simp only [if_neg z1, z2, decide_true, if_true]
        exact ⟨-3, rfl, rfl⟩
    · simp only [e1, e2, kp_b1, if_neg hr]
      unfold fj_D_wrong_39
      rw [if_neg hr]
      exact ⟨r, rfl, rfl⟩
  · simp only [z, decide_false, kp_b1]
    exact ⟨-1, rfl, rfl⟩
/-! when: the least of the years in which two will do -/
/-- a pair that will do by p -/
def w_ok (c m : Nat → Nat → Int32) (p : Int32) (a b : Nat) : Prop := c 23 a ≠ 0 ∧ c 23 b ≠ 0 ∧ (∃ x y : Int32, fx_Chains_doubtOf (nI a) c = some x ∧ fx_Chains_doubtOf (nI b) c = some y ∧ x.toInt ≤ p.toInt ∧ y.toInt ≤ p.toInt) ∧ fx_D_agrees (nI a) (nI b) 0 m = some true
def w_y (c : Nat → Nat → Int32) (a b : Nat) : Int := if (c 24 a).toInt ≤ (c 24 b).toInt then (c 24 b).toInt else (c 24 a).toInt
theorem h_agsym {a b : Nat} (ha : a < 4) (hb : b < 4) (hC : ∀ h, h < 4 → iC1 (i_v c 1) (m 85) h) : fx_D_agrees (nI a) (nI b) 0 m = fx_D_agrees (nI b) (nI a) 0 m := by
  obtain ⟨s1, -, x2, x3, x4⟩ := h_chainS ha (hC a ha)
  obtain ⟨s2, -, y2, y3, y4⟩ := h_chainS hb (hC b hb)
  obtain ⟨d1, -, u2, u3, u4⟩ := h_chainD ha (hC a ha)
  obtain ⟨d2, -, w2, w3, w4⟩ := h_chainD hb (hC b hb)
  have e5 : ∀ z : Int32, fj_D_agrees_28 (nI a) m (nI b) 0 z = some (decide (z.toInt ≤ d1.toInt + d2.toInt)) := by
    intro z
    unfold fj_D_agrees_28
    rw [u2, kp_b1, w2, kp_b1, Int32.add_zero]
    have e4 : (d1 + d2).toInt = d1.toInt + d2.toInt := by rw [kp_add] <;> omega
    simp only [kp_lt, e4]
    split <;> simp <;> omega
  have e6 : ∀ z : Int32, fj_D_agrees_28 (nI b) m (nI a) 0 z = some (decide (z.toInt ≤ d1.toInt + d2.toInt)) := by
    intro z
    unfold fj_D_agrees_28
    rw [w2, kp_b1, u2, kp_b1, Int32.add_zero]
    have e4 : (d2 + d1).toInt = d1.toInt + d2.toInt := by rw [kp_add] <;> omega
    simp only [kp_lt, e4]
    split <;> simp <;> omega
  unfold fx_D_agrees
  rw [x2, y2, kp_b1, kp_b1, kp_b1, kp_b1, kp_let, kp_let, e5, e5, e6, e6]
  have es : (s1 - s2).toInt = s1.toInt - s2.toInt := by rw [kp_sub] <;> omega
  have et : (s2 - s1).toInt = s2.toInt - s1.toInt := by rw [kp_sub] <;> omega
  have ens : (-(s1 - s2)).toInt = -(s1.toInt - s2.toInt) := by
    rw [← Int32.zero_sub, kp_sub] <;> rw [ki_0, es] <;> omega
  have ent : (-(s2 - s1)).toInt = -(s2.toInt - s1.toInt) := by
    rw [← Int32.zero_sub, kp_sub] <;> rw [ki_0, et] <;> omega
  rw [es, et, ens, ent]
  simp only [kp_le, ki_0, es, et]
  by_cases z : 0 ≤ s1.toInt - s2.toInt
  · by_cases z2 : 0 ≤ s2.toInt - s1.toInt
    · rw [if_pos z, if_pos z2]; congr 1; exact decide_eq_decide.mpr (by omega)
    · rw [if_pos z, if_neg z2]; congr 1; exact decide_eq_decide.mpr (by omega)
  · rw [if_neg z, if_pos (by omega)]; congr 1; exact decide_eq_decide.mpr (by omega)
theorem w_sym {p : Int32} {a b : Nat} (ha : a < 4) (hb : b < 4) (hC : ∀ h, h < 4 → iC1 (i_v c 1) (m 85) h) (h : w_ok c m p a b) : w_ok c m p b a := by
  obtain ⟨h1, h2, ⟨x, y, h3, h4, h5, h6⟩, h7⟩ := h
  exact ⟨h2, h1, ⟨y, x, h4, h3, h6, h5⟩, by rw [h_agsym hb ha hC]; exact h7⟩
theorem w_ysym (a b : Nat) : w_y c a b = w_y c b a := by
  unfold w_y
  split <;> split <;> omega
end OC2
