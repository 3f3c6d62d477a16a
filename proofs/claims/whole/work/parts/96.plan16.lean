/-! ===== plans: the call ===== -/
section PQ
variable {k L P T d most : Nat} {c c0 m : Nat → Nat → Int32} {p2 y : Int32} {f : Nat → Int64}
theorem pl_e0 {β : Type} (A B : Option β) : (some (Sum.inl () : Unit ⊕ Unit)).bind (Sum.elim (kv_u0 A) (kv_u0 B)) = A := rfl
theorem pl_e1 {β : Type} (A B : Option β) : (some (Sum.inr () : Unit ⊕ Unit)).bind (Sum.elim (kv_u0 A) (kv_u0 B)) = B := rfl
theorem pq_zero (g : Nat → Nat) (n : Nat) : pq_c g 0 n = 0 := by
  have hz1 := pq_end (f := g) (s := 0) (P := 0) (by omega) n
  rw [Nat.zero_add] at hz1
  exact hz1
/-- both searches come to the same set -/
theorem pl_both (hd1 : pn_d c0 L P) (hm1 : c0 77 9 = nI most) (hm2 : most ≤ 4) (hH1 : pr_H c c0 m d L P T y p2) (hN : pn_N c0 78 L (fun x => yr_S c y 0 T (fun i => -x i))) (v0 : Int32) (p4 : Int32) : ∃ r c2 x13 x15 v f4, fx_Planner_choose c0 = some c2 ∧ kv_loop (kv_u5 (fb_D_plan_137 (nI d) (nI most) p2)) ((-4 : Int32), (0 : Int64), (0 : Int32), kv_st m 84 13 v0, f) = some (x13, x15, kv_st m 84 13 v, f4) ∧ (∀ q, q ≠ 77 → q ≠ 79 → c2 q = c0 q) ∧ (if p4 = 0 then c2 77 12 = r else c2 77 10 = r) ∧ (if p4 = 0 then x13 = r else x15.toInt32 = r) := by
  have hP : P ≤ 8 := hd1.1
  have hok0 : pg_ok c0 P most (yr_S c y 0 T) 0 := by
    refine ⟨Nat.pow_pos (by omega), by rw [pq_zero]; omega, by rw [pq_zero]; omega, ?_⟩
    obtain ⟨⟨z, hz1⟩, -⟩ := pn_says hN
    exact ⟨_, (pg_S0 _).mpr hz1⟩
  obtain ⟨c2, s1a, s2a, s4a, hall⟩ := pg_choose hd1 hm1 hm2 hN
  obtain ⟨x13, x15, v, f4, t1a, t2a⟩ := pr_all (f := f) hH1 hm2 (0 : Int64) v0
  obtain ⟨vs, fs, -, n2a, -⟩ := pr_spread (f := f) hH1 (s := 0) (Nat.pow_pos (by omega))
  obtain ⟨k1a, k2a, k3a⟩ := n2a hok0.2.2.2
  have hk0 : pg_k c0 L P (yr_S c y 0 T) 0 = vs.toInt * 1048576 := by
    unfold pg_k
    rw [← k1a, pq_zero]
    omega
  rcases t2a with ⟨-, t2a⟩ | ⟨u1, g1a, g2a, g3a, g4a⟩
  · exact absurd hok0 (t2a 0)
  have s4b := s4a
  rcases s4a with ⟨w1a, w2a, w3a⟩ | ⟨u0, -, w1a, w2a, w3a, w4a⟩
  · exfalso
    have hb2 := hall 0 hok0
    unfold pg_b at hb2
    rw [w1a, w2a, w3a, ki_F, ki_0, hk0] at hb2
    omega
  have ebk := pg_at_u hP w1a w2a w3a w4a
  have hle1 := hall u1 g2a
  have hle2 := g4a u0 w1a
  have eu : u0 = u1 := pg_k_inj (L := L) hP w1a g2a (by omega)
  have e32 : x15.toInt32 = c2 77 10 := by
    have hr1 := kp_rng (c2 77 10)
    rw [kp_eq, Int64.toInt_toInt32, g3a, ← eu, ← w2a]
    exact kp_bmod hr1.1 hr1.2
  by_cases z4 : p4 = 0
  · exact ⟨nI u0, c2, x13, x15, v, f4, s1a, t1a, s2a.1, by rw [if_pos z4]; exact w4a, by rw [if_pos z4, g1a, eu]⟩
  · exact ⟨c2 77 10, c2, x13, x15, v, f4, s1a, t1a, s2a.1, by rw [if_neg z4], by rw [if_neg z4]; exact e32⟩
theorem op_plan (h : Inv k c m) (hk : k < 600) (f : Nat → Int64) (p1 p2 p3 p4 : Int32) : ∃ r c2 m2 f2, fx_K_plan p1 p2 p3 p4 c = some (r, c2) ∧ fx_D_plan p1 p2 p3 p4 m f = some (r, m2, f2) ∧ Inv (k + 1) c2 m2 := by
  have no : ∀ r : Int32, ∃ r2 c2 m2 f2, some (r, c) = some (r2, c2) ∧ some (r, m, f) = some (r2, m2, f2) ∧ Inv (k + 1) c2 m2 := fun r => ⟨_, _, _, _, rfl, rfl, fr_same h⟩
  unfold fx_K_plan fx_D_plan
  rw [h_isDoubt, kp_b1, sx_isWithin, kp_b1, sx_isWithin, kp_b1, ki_0, ki_1, ki_4]
  rcases h_isShelf p1 with ⟨d0, hd0, -, e1, e2⟩ | ⟨e1, e2⟩
  rotate_left
  · have eb : fx_K_bytesRefusal p1 c = some (-1) := by
      unfold fx_K_bytesRefusal fx_K_rowRefusal
      rw [e1]; rfl
    rw [e2, kp_b1, if_neg (show ¬ false = true by decide), eb]
    by_cases z2 : 0 ≤ p2.toInt ∧ p2.toInt ≤ 99
    · rw [decide_eq_true z2, if_pos rfl]
      by_cases z3 : 0 ≤ p3.toInt ∧ p3.toInt ≤ 4
      · rw [decide_eq_true z3, if_pos rfl]
        by_cases z4 : 0 ≤ p4.toInt ∧ p4.toInt ≤ 1
        · rw [decide_eq_true z4, if_pos rfl, kp_b1, if_neg (by decide)]
          exact no (-1)
        · rw [decide_eq_false z4]; exact no (-1)
      · rw [decide_eq_false z3]; exact no (-1)
    · rw [decide_eq_false z2]; exact no (-1)
  rw [e2, kp_b1, if_pos (show true = true by rfl), sx_isInL p2 0 99 (by decide) (by decide), kp_b1, sx_isInL p3 0 4 (by decide) (by decide), kp_b1, sx_isInL p4 0 1 (by decide) (by decide), kp_b1]
  by_cases z2 : 0 ≤ p2.toInt ∧ p2.toInt ≤ 99
  rotate_left
  · rw [decide_eq_false z2]; exact no (-1)
  rw [decide_eq_true z2, if_pos rfl, if_pos rfl]
  by_cases z3 : 0 ≤ p3.toInt ∧ p3.toInt ≤ 4
  rotate_left
  · rw [decide_eq_false z3]; exact no (-1)
  rw [decide_eq_true z3, if_pos rfl, if_pos rfl]
  by_cases z4 : 0 ≤ p4.toInt ∧ p4.toInt ≤ 1
  rotate_left
  · rw [decide_eq_false z4]; exact no (-1)
  rw [decide_eq_true z4, if_pos rfl, if_pos rfl]
  obtain ⟨most, rfl, emost, -⟩ := kp_nat z3.1
  have hmost : most ≤ 4 := by omega
  rcases h_bytes h p1 with ⟨d, P, hd, rfl, hr, z0, e3, e4⟩ | ⟨r, hr, e3, e4⟩
  rotate_left
  · rw [e3, e4, kp_b1, kp_b1, if_neg hr, if_neg hr]
    exact no r
  obtain ⟨L, T, U, hN, hG, hL1, -⟩ := h.1
  have hN' := hN
  have hLw : ∀ l, l < L → m 85 (10 + 6 * l) = c 3 l ∧ m 85 (13 + 6 * l) = c 6 l ∧ -100000 ≤ (c 6 l).toInt ∧ (c 6 l).toInt ≤ 100000 := fun l hl1 => by
    obtain ⟨q1a, -, -, q4a, -, -, -, -, -, q10a, -⟩ := hL1 l hl1
    have y1a : 0 ≤ (i_v c 1 0 5).toInt := hG.1
    have y2a : (i_v c 1 0 5).toInt ≤ 140 := hG.2.1
    have w1a : -(9999 + 100 * (k : Int) + 60 * (i_v c 1 0 5).toInt) ≤ (c 6 l).toInt := q10a.1
    have w2a : (c 6 l).toInt ≤ 9999 + 100 * (k : Int) + 60 * (i_v c 1 0 5).toInt := q10a.2
    exact ⟨q1a, q4a, by omega, by omega⟩
  have ey : m 85 0 = c 1 5 := hG.2.2.1
  obtain ⟨L2, T2, hLb, hTb, c7, m1, c10, m2, hw⟩ := h_yw h hk
  have eL : L2 = L := by
    have hx1 : nI L2 = nI L := c7.symm.trans hN.2.2.2.1
    have := hN.1
    exact (nI_eq (by omega) (by omega)).mp hx1
  have eT : T2 = T := by
    have hx1 : nI T2 = nI T := c10.symm.trans hN.2.2.2.2.2.1
    have := hN.2.1
    exact (nI_eq (by omega) (by omega)).mp hx1
  subst eL eT
  rw [e3, e4, kp_b1, kp_b1, if_pos rfl, if_pos rfl, kp_gd _ (kp_in_nI hd (by omega)), kp_gd _ (kp_in_nI hd (by omega)), nI_clamp (show d < 2 ^ 31 by omega), tg_sh d hd, hr.2.2.2.1]
  rcases pn_pairs m1 c7 hLb hd hr with ⟨h8, a1, a2, hok⟩ | ⟨a1, hor⟩
  rotate_left
  · rw [a1, kp_b1, if_neg (by decide)]
    rcases hor with h8 | ⟨h8, a2⟩
    · have n8 : ¬ nI P ≤ (8 : Int32) := nI_ge (a := 8) h8 (by have := hr.2.2.2.2.2.1; omega)
      rw [if_neg n8]
      exact no (-13)
    · have n8 : nI P ≤ (8 : Int32) := nI_le (b := 8) h8 (by omega)
      rw [if_pos n8, a2, pl_e0]
      exact no (-13)
  have n8 : nI P ≤ (8 : Int32) := nI_le (b := 8) h8 (by omega)
  rw [a1, kp_b1, if_pos rfl, if_pos n8, a2, pl_e1]
  obtain ⟨c2, t1, t2, t5, t6, t7, t8, t9⟩ := pn_tell c7 hLb hd hr h8 hok p2 (nI most)
  have fr2 : ∀ q, 11 ≤ q → q ≤ 16 → c2 q = c q := fun q hq1 hq2 => t2 q (by omega) (by omega)
  obtain ⟨b, c4, b1, b2, bF, bT⟩ := pn_learn (c := c2) (m := m) (y := c 1 5) hLb hTb t6 (by rw [t2 10 (by omega) (by omega)]; exact c10) (by rw [t2 1 (by omega) (by omega)]) (fun w hw1 => yw_fr (hw w hw1) fr2 rfl)
  rw [yr_S_fr fr2] at bF bT
  obtain ⟨f3, g1, f4, g3, g4⟩ := yd_begin hLb hTb m1 m2 hw (c 1 5) f
  obtain ⟨b0, f5, k4, k5, -⟩ := md_closes g4
  have hfy : fx_D_fitsYear (c 1 5) m f = some (b0, kv_st m 84 13 (nI L2), f5) := by
    unfold fx_D_fitsYear
    rw [m1, g1, kp_b2, g3, kp_b1, k4, kp_b2]
  have fr4 : ∀ q, q < 68 → c4 q = c q := fun q hq1 => by rw [b2 q (by omega), t2 q (by omega) (by omega)]
  rw [t1, kp_b1, b1, kp_b2, ey, hfy, kp_b3]
  cases b with
  | false =>
    have eb0 : b0 = false := by
      cases b0 with
      | false => rfl
      | true => exact absurd (k5.mp rfl) (bF rfl)
    rw [eb0, if_neg (by decide), if_neg (by decide)]
    exact ⟨_, c4, _, f5, rfl, rfl, fr_net h fr4 _ rfl⟩
  | true =>
    have hN4 := bT rfl
    have eb0 : b0 = true := k5.mpr (by
      obtain ⟨⟨z, hz1⟩, -⟩ := pn_says hN4
      exact ⟨_, hz1⟩)
    rw [eb0, if_pos rfl, if_pos rfl]
    have r84 : ∀ q, 80 ≤ q → c4 q = c2 q := fun q hq1 => b2 q (by omega)
    have told : ∀ x, x < P → pn_told c c4 d L2 x := fun x hx1 => by
      have hx2 := t9 x hx1
      unfold pn_told at hx2 ⊢
      rw [r84 80 (by omega), r84 81 (by omega), r84 82 (by omega), r84 83 (by omega)]
      exact hx2
    have e7 : c4 77 8 = p2 := by rw [b2 77 (by omega)]; exact t7
    have hd4 : pn_d c4 L2 P := by
      refine ⟨h8, hLb, by rw [b2 77 (by omega)]; exact t5, by rw [b2 77 (by omega)]; exact t6, by rw [e7]; exact z2, fun x hx1 => ?_⟩
      obtain ⟨p, ep1, p100, pa1, pb1, pab, e84, e85, e86, -⟩ := told x hx1
      obtain ⟨-, -, l1a, l2a⟩ := hLw (p / 10) pa1
      obtain ⟨-, -, l3a, l4a⟩ := hLw (p % 10) pb1
      have w4a : (c4 82 x).toInt = (c 6 (p / 10)).toInt - (c 6 (p % 10)).toInt := by rw [e86, kp_sub (by omega) (by omega)]
      exact ⟨p / 10, p % 10, pa1, pb1, pab, e84, e85, by omega, by omega⟩
    have hH4 : pr_H c c4 m d L2 P T2 (c 1 5) p2 := ⟨hd, hLb, h8, hTb, hr, ey, m1, m2, hw, hLw, told, e7, z2.1, z2.2⟩
    obtain ⟨r, c6, x13, x15, v, f6, u1a, u2a, u3a, u4a, u5a⟩ := pl_both (f := f5) hd4 (by rw [b2 77 (by omega)]; exact t8) hmost hH4 hN4 (nI L2) p4
    have fin : Inv (k + 1) c6 (kv_st m 84 13 v) := fr_net h (fun q hq1 => by rw [u3a q (by omega) (by omega), fr4 q hq1]) _ rfl
    have e4u : ∀ F : Int32 → Int64 → (Nat → Nat → Int32) → (Nat → Int64) → Option (Int32 × (Nat → Nat → Int32) × (Nat → Int64)), (some (x13, x15, kv_st m 84 13 v, f6)).bind (kv_u4 F) = F x13 x15 (kv_st m 84 13 v) f6 := fun _ => rfl
    rw [u1a, kp_b1, u2a, e4u]
    by_cases zp : p4 = 0
    · rw [if_pos zp] at u4a u5a
      rw [if_pos zp, if_pos zp, u4a, u5a]
      exact ⟨r, c6, _, f6, rfl, rfl, fin⟩
    · rw [if_neg zp] at u4a u5a
      rw [if_neg zp, if_neg zp, u4a, u5a]
      exact ⟨r, c6, _, f6, rfl, rfl, fin⟩
end PQ
