/-! ===== chains ===== -/
section OC
variable {k : Nat} {c m : Nat → Nat → Int32}
theorem h_chainI {ch : Nat} (hc : ch < 4) (hC : iC1 (i_v c 1) (m 85) ch) (w : Nat) (hw : w = 0 ∨ w = 1) : ∃ r : Int32, (if w = 0 then fx_Chains_sum (nI ch) c else fx_Chains_doubtOf (nI ch) c) = some r ∧ fx_D_chainOf (nI ch) (nI w) m = some r ∧ -12000 ≤ r.toInt ∧ r.toInt ≤ 12000 := by
  obtain ⟨K, hK, a1, a2, -, -, a5⟩ := hC
  have a1 : c 23 ch = nI K := a1
  have key := kp_sim (kv_u2 (if w = 0 then fb_Chains_sum_4 (nI ch) c else fb_Chains_doubtOf_4 (nI ch) c)) (kv_u2 (fb_D_chainOf_26 (nI ch) m (nI w))) (fun i s t => ∃ x : Int32, s = (x, nI i) ∧ t = (x, nI i) ∧ -(1000 * (i : Int)) ≤ x.toInt ∧ x.toInt ≤ 1000 * i) (fun r q => r = q ∧ -12000 ≤ r.toInt ∧ r.toInt ≤ 12000) K ?_ ?_ ((0 : Int32), (0 : Int32)) ((0 : Int32), (0 : Int32)) ⟨0, rfl, rfl, by rw [ki_0]; omega, by rw [ki_0]; omega⟩
  · obtain ⟨r, q, h1, h2, rfl, h3, h4⟩ := key
    refine ⟨r, ?_, ?_, h3, h4⟩
    · rcases hw with rfl | rfl
      · rw [if_pos rfl] at h1 ⊢
        unfold fx_Chains_sum
        rw [h1]; rfl
      · rw [if_neg (by decide)] at h1 ⊢
        unfold fx_Chains_doubtOf
        rw [h1]; rfl
    · unfold fx_D_chainOf
      rw [if_neg (by rcases hw with rfl | rfl <;> decide), h2]; rfl
  · rintro i s t hi ⟨x, rfl, rfl, b1, b2⟩
    refine Or.inl ?_
    obtain ⟨g1, g2, ⟨g3, g4⟩, g5, g6⟩ := a5 i hi
    have g3 : -999 ≤ (c 21 (12 * ch + i)).toInt := g3
    have g4 : (c 21 (12 * ch + i)).toInt ≤ 999 := g4
    have g5 : 0 ≤ (c 22 (12 * ch + i)).toInt := g5
    have g6 : (c 22 (12 * ch + i)).toInt ≤ 99 := g6
    have e1 : (nI ch * (12 : Int32)) + nI i = nI (12 * ch + i) := by
      have : nI ch * (12 : Int32) = nI (ch * 12) := pk_mul ch 12
      rw [this, nI_add, Nat.mul_comm]
    have e2 : ((((340 : Int32) + ((26 : Int32) * nI ch)) + (2 : Int32)) + ((2 : Int32) * nI i)) + nI w = nI (342 + 26 * ch + 2 * i + w) := by
      have q1 : (340 : Int32) + ((26 : Int32) * nI ch) + (2 : Int32) = nI (340 + 26 * ch + 2) := kp_ix3 340 26 ch 2
      have q2 : (2 : Int32) * nI i = nI (2 * i) := pk_mul 2 i
      rw [q1, q2, nI_add, nI_add]
      congr 1
      omega
    show ∃ s2 t2, (if w = 0 then fb_Chains_sum_4 (nI ch) c else fb_Chains_doubtOf_4 (nI ch) c) x (nI i) = some (.inl s2) ∧ fb_D_chainOf_26 (nI ch) m (nI w) x (nI i) = some (.inl t2) ∧ _
    have f2 : fb_D_chainOf_26 (nI ch) m (nI w) x (nI i) = some (.inl (x + m 85 (342 + 26 * ch + 2 * i + w), nI (i + 1))) := by
      unfold fb_D_chainOf_26
      rw [sx_links hc, kp_b1, a2, if_neg (nI_ge hi (by omega)), e2, kp_gd _ (kp_in_nI (by omega) (by omega)), nI_clamp (by omega), nI_1]
      rfl
    rw [f2]
    rcases hw with rfl | rfl
    · rw [if_pos rfl]
      have f1 : fb_Chains_sum_4 (nI ch) c x (nI i) = some (.inl (x + c 21 (12 * ch + i), nI (i + 1))) := by
        unfold fb_Chains_sum_4
        rw [kp_gd _ (kp_in_nI (by omega) (by omega)), nI_clamp (show ch < 2 ^ 31 by omega), a1, if_neg (nI_ge hi (by omega)), e1, kp_gd _ (kp_in_nI (by omega) (by omega)), nI_clamp (by omega), nI_1]
        rfl
      rw [f1]
      have g1 : m 85 (342 + 26 * ch + 2 * i + 0) = c 21 (12 * ch + i) := g1
      refine ⟨_, _, rfl, rfl, x + c 21 (12 * ch + i), rfl, by rw [g1], ?_, ?_⟩ <;> rw [kp_add] <;> omega
    · rw [if_neg (by decide)]
      have f1 : fb_Chains_doubtOf_4 (nI ch) c x (nI i) = some (.inl (x + c 22 (12 * ch + i), nI (i + 1))) := by
        unfold fb_Chains_doubtOf_4
        rw [kp_gd _ (kp_in_nI (by omega) (by omega)), nI_clamp (show ch < 2 ^ 31 by omega), a1, if_neg (nI_ge hi (by omega)), e1, kp_gd _ (kp_in_nI (by omega) (by omega)), nI_clamp (by omega), nI_1]
        rfl
      rw [f1]
      have g2 : m 85 (342 + 26 * ch + 2 * i + 1) = c 22 (12 * ch + i) := by
        rw [show 342 + 26 * ch + 2 * i + 1 = 343 + 26 * ch + 2 * i by omega]; exact g2
      refine ⟨_, _, rfl, rfl, x + c 22 (12 * ch + i), rfl, by rw [g2], ?_, ?_⟩ <;> rw [kp_add] <;> omega
  · rintro s t ⟨x, rfl, rfl, b1, b2⟩
    show ∃ r q, (if w = 0 then fb_Chains_sum_4 (nI ch) c else fb_Chains_doubtOf_4 (nI ch) c) x (nI K) = some (.inr r) ∧ fb_D_chainOf_26 (nI ch) m (nI w) x (nI K) = some (.inr q) ∧ _
    have f2 : fb_D_chainOf_26 (nI ch) m (nI w) x (nI K) = some (.inr x) := by
      unfold fb_D_chainOf_26
      rw [sx_links hc, kp_b1, a2, if_pos (nI_le (Nat.le_refl K) (by omega))]
    rw [f2]
    refine ⟨x, x, ?_, rfl, rfl, by omega, by omega⟩
    rcases hw with rfl | rfl
    · rw [if_pos rfl]
      unfold fb_Chains_sum_4
      rw [kp_gd _ (kp_in_nI (by omega) (by omega)), nI_clamp (show ch < 2 ^ 31 by omega), a1, if_pos (nI_le (Nat.le_refl K) (by omega))]
    · rw [if_neg (by decide)]
      unfold fb_Chains_doubtOf_4
      rw [kp_gd _ (kp_in_nI (by omega) (by omega)), nI_clamp (show ch < 2 ^ 31 by omega), a1, if_pos (nI_le (Nat.le_refl K) (by omega))]
theorem h_chainS {ch : Nat} (hc : ch < 4) (hC : iC1 (i_v c 1) (m 85) ch) : ∃ r : Int32, fx_Chains_sum (nI ch) c = some r ∧ fx_D_chainOf (nI ch) 0 m = some r ∧ -12000 ≤ r.toInt ∧ r.toInt ≤ 12000 := by
  obtain ⟨r, h1, h2, h3⟩ := h_chainI hc hC 0 (Or.inl rfl)
  exact ⟨r, h1, h2, h3⟩
theorem h_chainD {ch : Nat} (hc : ch < 4) (hC : iC1 (i_v c 1) (m 85) ch) : ∃ r : Int32, fx_Chains_doubtOf (nI ch) c = some r ∧ fx_D_chainOf (nI ch) 1 m = some r ∧ -12000 ≤ r.toInt ∧ r.toInt ≤ 12000 := by
  obtain ⟨r, h1, h2, h3⟩ := h_chainI hc hC 1 (Or.inr rfl)
  exact ⟨r, h1, h2, h3⟩
theorem h_abs {x : Int32} (h1 : -100000 ≤ x.toInt) (h2 : x.toInt ≤ 100000) : (if 0 ≤ x then x else 0 - x).toInt = (if 0 ≤ x.toInt then x.toInt else -x.toInt) ∧ (if 0 ≤ x then x else -x) = (if 0 ≤ x then x else 0 - x) := by
  have e : (0 ≤ x) = (0 ≤ x.toInt) := by rw [kp_le, ki_0]
  by_cases h : 0 ≤ x
  · have h3 : 0 ≤ x.toInt := by rw [← e]; exact h
    rw [if_pos h, if_pos h3]
    exact ⟨rfl, by rw [if_pos h]⟩
  · have h3 : ¬ 0 ≤ x.toInt := by rw [← e]; exact h
    rw [if_neg h, if_neg h3, if_neg h]
    refine ⟨?_, ?_⟩
    · rw [kp_sub] <;> rw [ki_0] <;> omega
    · rw [Int32.zero_sub]
/-- the lack of two chains: the class's number says how the reference's agreeing comes out -/
theorem h_lack {a b : Nat} (ha : a < 4) (hb : b < 4) (hC : ∀ h, h < 4 → iC1 (i_v c 1) (m 85) h) : ∃ lk : Int32, fx_Chains_lack (nI a) (nI b) c = some lk ∧ -100000 ≤ lk.toInt ∧ lk.toInt ≤ 100000 ∧ ∀ p : Int32, -1000 ≤ p.toInt → p.toInt ≤ 1000 → fx_D_agrees (nI a) (nI b) p m = some (decide (lk.toInt ≤ p.toInt)) := by
  obtain ⟨s1, x1, x2, x3, x4⟩ := h_chainS ha (hC a ha)
  obtain ⟨s2, y1, y2, y3, y4⟩ := h_chainS hb (hC b hb)
  obtain ⟨d1, u1, u2, u3, u4⟩ := h_chainD ha (hC a ha)
  obtain ⟨d2, w1, w2, w3, w4⟩ := h_chainD hb (hC b hb)
  have es : (s1 - s2).toInt = s1.toInt - s2.toInt := by rw [kp_sub] <;> omega
  obtain ⟨q1, q2⟩ := h_abs (x := s1 - s2) (by omega) (by omega)
  have e1 : ((if 0 ≤ (s1 - s2) then (s1 - s2) else 0 - (s1 - s2)) - d1).toInt = (if 0 ≤ (s1 - s2).toInt then (s1 - s2).toInt else -(s1 - s2).toInt) - d1.toInt := by
    rw [kp_sub] <;> rw [q1] <;> (try rw [es]) <;> split <;> omega
  have e2 : ((if 0 ≤ (s1 - s2) then (s1 - s2) else 0 - (s1 - s2)) - d1 - d2).toInt = (if 0 ≤ (s1 - s2).toInt then (s1 - s2).toInt else -(s1 - s2).toInt) - d1.toInt - d2.toInt := by
    rw [kp_sub] <;> rw [e1] <;> (try rw [es]) <;> split <;> omega
  refine ⟨(if 0 ≤ (s1 - s2) then (s1 - s2) else 0 - (s1 - s2)) - d1 - d2, ?_, ?_, ?_, ?_⟩
  · unfold fx_Chains_lack
    rw [x1, y1, u1, w1]; rfl
  · rw [e2, es]; split <;> omega
  · rw [e2, es]; split <;> omega
  · intro p hp1 hp2
    have e3 : (d1 + d2 + p).toInt = d1.toInt + d2.toInt + p.toInt := by
      have e4 : (d1 + d2).toInt = d1.toInt + d2.toInt := by rw [kp_add] <;> omega
      rw [kp_add] <;> rw [e4] <;> omega
    unfold fx_D_agrees
    rw [x2, kp_b1, y2, kp_b1, kp_let]
    have e5 : ∀ z : Int32, fj_D_agrees_28 (nI a) m (nI b) p z = some (decide (z.toInt ≤ d1.toInt + d2.toInt + p.toInt)) := by
      intro z
      unfold fj_D_agrees_28
      rw [u2, kp_b1, w2, kp_b1]
      simp only [kp_lt, e3]
      split <;> simp <;> omega
    rw [e5, e5]
    rw [e2]
    have e6 : (if 0 ≤ s1 - s2 then some (decide ((s1 - s2).toInt ≤ d1.toInt + d2.toInt + p.toInt)) else some (decide ((-(s1 - s2)).toInt ≤ d1.toInt + d2.toInt + p.toInt))) = some (decide ((if 0 ≤ s1 - s2 then s1 - s2 else -(s1 - s2)).toInt ≤ d1.toInt + d2.toInt + p.toInt)) := by split <;> rfl
    rw [e6, q2, q1]
    congr 1
    exact decide_eq_decide.mpr (by omega)
theorem h_isChain (p : Int32) : (∃ a, a < 4 ∧ p = nI a ∧ fx_K_isChain p = some true ∧ fx_D_isChain p = some true) ∨ (fx_K_isChain p = some false ∧ fx_D_isChain p = some false) := by
  have e1 : fx_K_isChain p = some (decide (0 ≤ p.toInt ∧ p.toInt ≤ 3)) := by
    unfold fx_K_isChain
    rw [sx_isWithin, kp_b1, ki_0, ki_3]
  have e2 : fx_D_isChain p = some (decide (0 ≤ p.toInt ∧ p.toInt ≤ 3)) := by
    unfold fx_D_isChain
    rw [sx_isInL p 0 3 (by decide) (by decide), kp_b1]
  by_cases q : 0 ≤ p.toInt ∧ p.toInt ≤ 3
  · obtain ⟨l, q1, q2, q3⟩ := kp_nat q.1
    exact Or.inl ⟨l, by omega, q1, by rw [e1]; simp [q], by rw [e2]; simp [q]⟩
  · exact Or.inr ⟨by rw [e1]; simp only [q]; rfl, by rw [e2]; simp only [q]; rfl⟩
theorem h_many {a : Nat} (ha : a < 4) (hC : ∀ h, h < 4 → iC1 (i_v c 1) (m 85) h) : fx_D_links (nI a) m = some (c 23 a) := by
  obtain ⟨K, -, a1, a2, -⟩ := hC a ha
  rw [sx_links ha, a2]
  exact congrArg some a1.symm
theorem h_refuse (hC : ∀ h, h < 4 → iC1 (i_v c 1) (m 85) h) (p q : Int32) : (∃ a b, a < 4 ∧ b < 4 ∧ a ≠ b ∧ p = nI a ∧ q = nI b ∧ fx_K_chainsRefusal p q c = some 0 ∧ fx_D_wrongChains p q m = some 0) ∨ ∃ r, r ≠ 0 ∧ fx_K_chainsRefusal p q c = some r ∧ fx_D_wrongChains p q m = some r := by
  unfold fx_K_chainsRefusal fx_D_wrongChains
  rcases h_isChain p with ⟨a, ha, rfl, e1, e2⟩ | ⟨e1, e2⟩
  · rcases h_isChain q with ⟨b, hb, rfl, e3, e4⟩ | ⟨e3, e4⟩
    · simp only [e1, e2, e3, e4, kp_b1, if_true]
      by_cases z : nI a = nI b
      · simp only [if_pos z]
        exact Or.inr ⟨-1, by decide, rfl, rfl⟩
      · simp only [if_neg z, kp_gd _ (kp_in_nI ha (by omega)), kp_gd _ (kp_in_nI hb (by omega)), nI_clamp (show a < 2 ^ 31 by omega), nI_clamp (show b < 2 ^ 31 by omega), h_many ha hC, h_many hb hC, kp_b1]
        by_cases z1 : c 23 a = 0
        · simp only [if_pos z1]
          exact Or.inr ⟨-4, by decide, rfl, rfl⟩
        · simp only [if_neg z1]
          by_cases z2 : c 23 b = 0
          · simp only [if_pos z2]
            exact Or.inr ⟨-4, by decide, rfl, rfl⟩
          · simp only [if_neg z2]
            exact Or.inl ⟨a, b, ha, hb, fun q => z (by rw [q]), rfl, rfl, trivial, trivial⟩
    · rw [e1, e2, e3, e4]
      exact Or.inr ⟨-1, by decide, rfl, rfl⟩
  · rw [e1, e2]
    exact Or.inr ⟨-1, by decide, rfl, rfl⟩
theorem op_agree (h : Inv k c m) (p q : Int32) : ∃ r, fx_K_agree p q c = some r ∧ fx_D_agree p q m = some r := by
  obtain ⟨⟨L, T, U, -, -, -, -, -, -, -, -, hC⟩, -⟩ := h
  unfold fx_K_agree fx_D_agree
  rcases h_refuse hC p q with ⟨a, b, ha, hb, -, rfl, rfl, e1, e2⟩ | ⟨r, hr, e1, e2⟩
  · obtain ⟨lk, l1, -, -, l2⟩ := h_lack ha hb hC
    rw [e1, e2, kp_b1, kp_b1, if_pos rfl, if_pos rfl, l1, l2 0 (by rw [ki_0]; omega) (by rw [ki_0]; omega), kp_b1, kp_b1, ki_0]
    by_cases z : 0 < lk
    · have z2 : ¬ lk.toInt ≤ 0 := by rw [kp_lt, ki_0] at z; omega
      exact ⟨0, by rw [if_pos z], by simp [z2]⟩
    · have z2 : lk.toInt ≤ 0 := by rw [kp_lt, ki_0] at z; omega
      exact ⟨1, by rw [if_neg z], by simp [z2]⟩
  · rw [e1, e2, kp_b1, kp_b1, if_neg hr, if_neg hr]
    exact ⟨r, rfl, rfl⟩
theorem op_chain (h : Inv k c m) (p q : Int32) : ∃ r, fx_K_chain p q c = some r ∧ fx_D_chain p q m = some r := by
  obtain ⟨⟨L, T, U, -, -, -, -, -, -, -, -, hC⟩, -⟩ := h
  unfold fx_K_chain fx_D_chain
  rcases h_isChain p with ⟨a, ha, rfl, e1, e2⟩ | ⟨e1, e2⟩
  · rw [e1, e2, sx_isWithin, sx_isInL q 0 2 (by decide) (by decide), ki_0, ki_2]
    simp only [kp_b1, if_true]
    by_cases z : 0 ≤ q.toInt ∧ q.toInt ≤ 2
    · simp only [z, and_self, decide_true, if_true, kp_gd _ (kp_in_nI ha (by omega)), nI_clamp (show a < 2 ^ 31 by omega), h_many ha hC, kp_b1]
      by_cases z0 : c 23 a = 0
      · simp only [if_pos z0]
        exact ⟨_, rfl, rfl⟩
      · simp only [if_neg z0]
        by_cases q2 : q = 2
        · subst q2
          obtain ⟨K, -, -, -, a4, -⟩ := hC a ha
          have a4 : m 85 (341 + 26 * a) = c 24 a := a4
          refine ⟨c 24 a, rfl, ?_⟩
          unfold fx_D_chainOf
          have e : ((340 : Int32) + ((26 : Int32) * nI a)) + (1 : Int32) = nI (340 + 26 * a + 1) := kp_ix3 340 26 a 1
          rw [if_pos rfl, e, kp_gd _ (kp_in_nI (by omega) (by omega)), nI_clamp (by omega), show 340 + 26 * a + 1 = 341 + 26 * a by omega, a4]
          rfl
        · simp only [if_neg q2]
          by_cases q0 : q = 0
          · subst q0
            obtain ⟨r, r1, r2, -⟩ := h_chainS ha (hC a ha)
            simp only [r1, r2, kp_b1]
            exact ⟨r, rfl, rfl⟩
          · have q1 : q = 1 := by
              rw [kp_eq, ki_2] at q2
              rw [kp_eq, ki_0] at q0
              rw [kp_eq, ki_1]
              omega
            subst q1
            obtain ⟨r, r1, r2, -⟩ := h_chainD ha (hC a ha)
            simp only [if_neg q0, r1, r2, kp_b1]
            exact ⟨r, rfl, rfl⟩
    · simp only [z, decide_false]
      exact ⟨_, rfl, rfl⟩
  · rw [e1, e2]
    exact ⟨_, rfl, rfl⟩
end OC
