/-! ===== chains ===== -/
section OC
variable {k : Nat} {c m : Nat → Nat → Int32}
theorem h_chainI {ch : Nat} (hc : ch < 4) (hC : iC1 (i_v c 1) (m 89) ch) (w : Nat) (hw : w = 0 ∨ w = 1) : ∃ r : Int32, (if w = 0 then fx_Chains_sum (nI ch) c else fx_Chains_doubtOf (nI ch) c) = some r ∧ fx_D_chainOf (nI ch) (nI w) m = some r ∧ -12000 ≤ r.toInt ∧ r.toInt ≤ 12000 := by
  obtain ⟨K, hK, a1, a2, -, -, a5⟩ := hC
  have a1 : c 23 ch = nI K := a1
  have key := kp_sim (kv_u2 (if w = 0 then fb_Chains_sum_4 (nI ch) c else fb_Chains_doubtOf_4 (nI ch) c)) (kv_u2 (fb_D_chainOf_26 (nI ch) m (nI w))) (fun i s t => ∃ x : Int32, s = (x, nI i) ∧ t = (x, nI i) ∧ -(1000 * (i : Int)) ≤ x.toInt ∧ x.toInt ≤ 1000 * i) (fun r q => r = q ∧ -12000 ≤ r.toInt ∧ r.toInt ≤ 12000) K ?_ ?_ ((0 : Int32), (0 : Int32)) ((0 : Int32), (0 : Int32)) ⟨0, rfl, rfl, by rw [ki_0]; omega, by rw [ki_0]; omega⟩
  · obtain ⟨r, q, h1, h2, rfl, h3, h4⟩ := key
    refine ⟨r, ?_, ?_, h3, h4⟩
    · rcases hw with rfl | rfl
      · rw [if_pos rfl] at h1 ⊢
        unfold fx_Chains_sum
        rw [h1]; rfl
      · rw [if_neg (by decide)] at h1 ⊢
        unfold fx_Chains_doubtOf
        rw [h1]; rfl
    · unfold fx_D_chainOf
      rw [if_neg (by rcases hw with rfl | rfl <;> decide), h2]; rfl
  · rintro i s t hi ⟨x, rfl, rfl, b1, b2⟩
    refine Or.inl ?_
    obtain ⟨g1, g2, ⟨g3, g4⟩, g5, g6⟩ := a5 i hi
    have g3 : -999 ≤ (c 21 (12 * ch + i)).toInt := g3
    have g4 : (c 21 (12 * ch + i)).toInt ≤ 999 := g4
    have g5 : 0 ≤ (c 22 (12 * ch + i)).toInt := g5
    have g6 : (c 22 (12 * ch + i)).toInt ≤ 99 := g6
    have e1 : (nI ch * (12 : Int32)) + nI i = nI (12 * ch + i) := by
      have : nI ch * (12 : Int32) = nI (ch * 12) := pk_mul ch 12
      rw [this, nI_add, Nat.mul_comm]
    have e2 : ((((340 : Int32) + ((26 : Int32) * nI ch)) + (2 : Int32)) + ((2 : Int32) * nI i)) + nI w = nI (342 + 26 * ch + 2 * i + w) := by
      have q1 : (340 : Int32) + ((26 : Int32) * nI ch) + (2 : Int32) = nI (340 + 26 * ch + 2) := kp_ix3 340 26 ch 2
      have q2 : (2 : Int32) * nI i = nI (2 * i) := pk_mul 2 i
      rw [q1, q2, nI_add, nI_add]
      congr 1
      omega
    show ∃ s2 t2, (if w = 0 then fb_Chains_sum_4 (nI ch) c else fb_Chains_doubtOf_4 (nI ch) c) x (nI i) = some (.inl s2) ∧ fb_D_chainOf_26 (nI ch) m (nI w) x (nI i) = some (.inl t2) ∧ _
    have f2 : fb_D_chainOf_26 (nI ch) m (nI w) x (nI i) = some (.inl (x + m 89 (342 + 26 * ch + 2 * i + w), nI (i + 1))) := by
      unfold fb_D_chainOf_26
      rw [sx_links hc, kp_b1, a2, if_neg (nI_ge hi (by omega)), e2, kp_gd _ (kp_in_nI (by omega) (by omega)), nI_clamp (by omega), nI_1]
      rfl
    rw [f2]
    rcases hw with rfl | rfl
    · rw [if_pos rfl]
      have f1 : fb_Chains_sum_4 (nI ch) c x (nI i) = some (.inl (x + c 21 (12 * ch + i), nI (i + 1))) := by
        unfold fb_Chains_sum_4
        rw [kp_gd _ (kp_in_nI (by omega) (by omega)), nI_clamp (show ch < 2 ^ 31 by omega), a1, if_neg (nI_ge hi (by omega)), e1, kp_gd _ (kp_in_nI (by omega) (by omega)), nI_clamp (by omega), nI_1]
        rfl
      rw [f1]
      have g1 : m 89 (342 + 26 * ch + 2 * i + 0) = c 21 (12 * ch + i) := g1
      refine ⟨_, _, rfl, rfl, x + c 21 (12 * ch + i), rfl, by rw [g1], ?_, ?_⟩ <;> rw [kp_add] <;> omega
    · rw [if_neg (by decide)]
      have f1 : fb_Chains_doubtOf_4 (nI ch) c x (nI i) = some (.inl (x + c 22 (12 * ch + i), nI (i + 1))) := by
        unfold fb_Chains_doubtOf_4
        rw [kp_gd _ (kp_in_nI (by omega) (by omega)), nI_clamp (show ch < 2 ^ 31 by omega), a1, if_neg (nI_ge hi (by omega)), e1, kp_gd _ (kp_in_nI (by omega) (by omega)), nI_clamp (by omega), nI_1]
        rfl
      rw [f1]
      have g2 : m 89 (342 + 26 * ch + 2 * i + 1) = c 22 (12 * ch + i) := by
        rw [show 342 + 26 * ch + 2 * i + 1 = 343 + 26 * ch + 2 * i by omega]; exact g2
      refine ⟨_, _, rfl, rfl, x + c 22 (12 * ch + i), rfl, by rw [g2], ?_, ?_⟩ <;> rw [kp_add] <;> omega
  · rintro s t ⟨x, rfl, rfl, b1, b2⟩
    show ∃ r q, (if w = 0 then fb_Chains_sum_4 (nI ch) c else fb_Chains_doubtOf_4 (nI ch) c) x (nI K) = some (.inr r) ∧ fb_D_chainOf_26 (nI ch) m (nI w) x (nI K) = some (.inr q) ∧ _
    have f2 : fb_D_chainOf_26 (nI ch) m (nI w) x (nI K) = some (.inr x) := by
      unfold fb_D_chainOf_26
      rw [sx_links hc, kp_b1, a2, if_pos (nI_le (Nat.le_refl K) (by omega))]
    rw [f2]
    refine ⟨x, x, ?_, rfl, rfl, by omega, by omega⟩
    rcases hw with rfl | rfl
    · rw [if_pos rfl]
      unfold fb_Chains_sum_4
      rw [kp_gd _ (kp_in_nI (by omega) (by omega)), nI_clamp (show ch < 2 ^ 31 by omega), a1, if_pos (nI_le (Nat.le_refl K) (by omega))]
    · rw [if_neg (by decide)]
      unfold fb_Chains_doubtOf_4
      rw [kp_gd _ (kp_in_nI (by omega) (by omega)), nI_clamp (show ch < 2 ^ 31 by omega), a1, if_pos (nI_le (Nat.le_refl K) (by omega))]
end OC
