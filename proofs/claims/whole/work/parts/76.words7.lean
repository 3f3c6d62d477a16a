/-! ===== words: statements, read by the class ===== -/
section RS
variable {N : Nat} {tx e : Nat → Int32}
theorem rd_self {s : Nat → Nat → Int32} {p : Nat} (h : s 75 2 = nI p) : rd_g s p = s := by
  funext q j
  unfold rd_g
  rw [kp_st]
  by_cases z : q = 75 ∧ j = 2
  · rw [if_pos z, z.1, z.2, h]
  · rw [if_neg z]
theorem rd_dig_b {c : Nat → Nat → Int32} {q : Nat} (hq : q < 2 ^ 31) : fx_Reader_isAtDigit (rd_b c q) = some false := by
  unfold fx_Reader_isAtDigit
  rw [rd_b3, if_pos (nI_pos' hq)]
theorem rd_fault {c : Nat → Nat → Int32} {q : Nat} (hq : q < 2 ^ 31) (n : Nat) (d : Int32) : fg_R (n + 3) 0 d (rd_b c q) = some (0, rd_b c q) := by
  have A : fg_R (n + 1) 2 d (rd_b c q) = some (0, rd_b c q) := by
    rw [rg_2]
    unfold fx_Reader_atom
    rw [rd_at_b hq, kp_b1, if_neg (by decide)]
    unfold fj_Reader_atom_41
    rw [rd_dig_b hq, kp_b1, if_neg (by decide), rd_at_b hq, kp_b1, if_neg (by decide), rd_at_b hq, kp_b1, if_neg (by decide), rd_at_b hq, kp_b1, if_neg (by decide)]
    unfold fj_Reader_atom_105
    rw [rd_at_b hq, kp_b1, if_neg (by decide), rd_at_b hq, kp_b1, if_neg (by decide), rd_at_b hq, kp_b1, if_neg (by decide), rd_at_b hq, kp_b1, if_neg (by decide), rd_stop_b hq, kp_b1]
  rw [rg_0]
  unfold fx_Reader_sum
  rw [rg_1]
  unfold fx_Reader_product
  rw [A, kp_b2, rd_prod_b hq, kp_sb2, kp_b2, rd_sum_b hq, kp_sb2]
theorem rs_stm {s : Nat → Nat → Int32} {p n : Nat} {z : Nat ⊕ (Int32 × Int32 × Nat)} (h : rd_R s N tx e) (h2 : s 75 2 = nI p) (hp : p ≤ N) (hz : tk_stm tx N e n p = some z) : (∀ q, z = .inl q → q ≤ N ∧ fx_Reader_statement s = some (rd_b s q)) ∧ ∀ y w q, z = .inr (y, w, q) → (p < q ∧ q ≤ N) ∧ ∃ s2, fx_Reader_statement s = some s2 ∧ (∀ r, r ≠ 75 → s2 r = s r) ∧ s2 75 2 = nI q ∧ (∀ j, j = 1 ∨ j = 3 ∨ j = 6 ∨ 9 ≤ j → s2 75 j = s 75 j) ∧ s2 75 5 = s 75 5 + 1 ∧ s2 75 4 = (if 140 < y.toInt ∧ (s 75 4).toInt < 0 then nI p else s 75 4) ∧ s2 75 7 = (if y.toInt ≤ (s 75 6).toInt ∧ (s 75 7).toInt ≤ y.toInt then y else s 75 7) ∧ s2 75 8 = (if y.toInt ≤ (s 75 6).toInt ∧ (s 75 7).toInt ≤ y.toInt then w else s 75 8) := by
  have hN := h.1
  obtain ⟨n1, n2⟩ := rd_num h hp
  rw [rd_self h2] at n1 n2
  have e58 : (58 : Int32).toInt = 58 := ki_58
  have e59 : (59 : Int32).toInt = 59 := ki_59
  unfold fx_Reader_statement
  rw [h2, kp_let]
  have bad : ∀ q, q ≤ N → (if (rd_b s q 75 3) < 0 then kv_let (kv_st (rd_b s q) 75 5 ((rd_b s q 75 5) + (1 : Int32))) (fun c8 => (none : Option (Nat → Nat → Int32))) else some (rd_b s q)) = some (rd_b s q) := by
    intro q hq
    rw [rd_b3, if_neg (nI_pos (by omega))]
  rcases tk_stm_or hz with ⟨q, a1, rfl⟩ | ⟨y, q, a1, ⟨a2, rfl⟩ | ⟨a2, ⟨q2, a3, rfl⟩ | ⟨w, q2, a3, ⟨a4, rfl⟩ | ⟨a4, rfl⟩⟩⟩⟩
  · obtain ⟨b1, b2⟩ := n2 q a1
    refine ⟨fun q0 e0 => ?_, fun y w q0 e0 => by (cases e0)⟩
    cases e0
    refine ⟨by omega, ?_⟩
    rw [b2, kp_b2, rd_expect_b (by omega), kp_b1, rd_fault (by omega) 21, kp_b2, rd_expect_b (by omega), kp_b1, rd_b3, if_neg (nI_pos (by omega))]
  · obtain ⟨⟨b0, b1⟩, b2⟩ := n1 y q a1
    refine ⟨fun q0 e0 => ?_, fun y w q0 e0 => by (cases e0)⟩
    cases e0
    refine ⟨b1, ?_⟩
    rw [b2, kp_b2, rd_expect h b1 (by decide), e58, if_neg a2, kp_b1, rd_fault (by omega) 21, kp_b2, rd_expect_b (by omega), kp_b1, rd_b3, if_neg (nI_pos (by omega))]
  · obtain ⟨⟨b0, b1⟩, b2⟩ := n1 y q a1
    have hlt : q < N := by
      by_cases x : q < N
      · exact x
      · rw [tk_at_out (by omega)] at a2
        omega
    obtain ⟨g0, g1, -⟩ := rd_main h n 0 0 0 (q + 1) _ (by omega) (by omega) a3
    obtain ⟨x, hx⟩ := (g1 rfl 24 (by omega)).1 q2 rfl
    have hq2 := g0.1 q2 rfl
    have hx : fg_R 24 0 0 (rd_g s (q + 1)) = some (x, rd_b s q2) := hx
    refine ⟨fun q0 e0 => ?_, fun y w q0 e0 => by (cases e0)⟩
    cases e0
    refine ⟨hq2, ?_⟩
    rw [b2, kp_b2, rd_expect h b1 (by decide), e58, if_pos a2, kp_b1, hx, kp_b2, rd_expect_b (by omega), kp_b1, rd_b3, if_neg (nI_pos (by omega))]
  · obtain ⟨⟨b0, b1⟩, b2⟩ := n1 y q a1
    have hlt : q < N := by
      by_cases x : q < N
      · exact x
      · rw [tk_at_out (by omega)] at a2
        omega
    obtain ⟨g0, g1, -⟩ := rd_main h n 0 0 0 (q + 1) _ (by omega) (by omega) a3
    have hx := (g1 rfl 24 (by omega)).2 w q2 rfl
    have hq2 := (g0.2 w q2 rfl).2
    have hx : fg_R 24 0 0 (rd_g s (q + 1)) = some (w, rd_g s q2) := hx
    refine ⟨fun q0 e0 => ?_, fun y w q0 e0 => by (cases e0)⟩
    cases e0
    refine ⟨hq2, ?_⟩
    rw [b2, kp_b2, rd_expect h b1 (by decide), e58, if_pos a2, kp_b1, hx, kp_b2, rd_expect h hq2 (by decide), e59, if_neg a4, kp_b1, rd_b3, if_neg (nI_pos (by omega))]
  · obtain ⟨⟨b0, b1⟩, b2⟩ := n1 y q a1
    have hlt : q < N := by
      by_cases x : q < N
      · exact x
      · rw [tk_at_out (by omega)] at a2
        omega
    obtain ⟨g0, g1, -⟩ := rd_main h n 0 0 0 (q + 1) _ (by omega) (by omega) a3
    have hx := (g1 rfl 24 (by omega)).2 w q2 rfl
    have gq := g0.2 w q2 rfl
    rw [if_pos (by decide)] at gq
    have hlt2 : q2 < N := by
      by_cases x : q2 < N
      · exact x
      · rw [tk_at_out (by omega)] at a4
        omega
    have hx : fg_R 24 0 0 (rd_g s (q + 1)) = some (w, rd_g s q2) := hx
    refine ⟨fun q0 e0 => by (cases e0), fun y0 w0 q0 e0 => ?_⟩
    cases e0
    refine ⟨⟨by omega, by omega⟩, ?_⟩
    have f3 : rd_g s (q2 + 1) 75 3 < 0 := by rw [rd_go _ 3 (by omega), h.2.2.1]; decide
    rw [b2, kp_b2, rd_expect h b1 (by decide), e58, if_pos a2, kp_b1, hx, kp_b2, rd_expect h gq.2 (by decide), e59, if_pos a4, kp_b1, if_pos f3, rd_go _ 5 (by omega), kp_let]
    have fin : ∀ c9 : Nat → Nat → Int32, (∀ r, r ≠ 75 → c9 r = s r) → c9 75 2 = nI (q2 + 1) → (∀ j, j = 1 ∨ j = 3 ∨ j = 6 ∨ 7 ≤ j → c9 75 j = s 75 j) → c9 75 5 = s 75 5 + 1 → c9 75 4 = (if 140 < y.toInt ∧ (s 75 4).toInt < 0 then nI p else s 75 4) → ∃ s2, fj_Reader_statement_65 y w c9 = some s2 ∧ (∀ r, r ≠ 75 → s2 r = s r) ∧ s2 75 2 = nI (q2 + 1) ∧ (∀ j, j = 1 ∨ j = 3 ∨ j = 6 ∨ 9 ≤ j → s2 75 j = s 75 j) ∧ s2 75 5 = s 75 5 + 1 ∧ s2 75 4 = (if 140 < y.toInt ∧ (s 75 4).toInt < 0 then nI p else s 75 4) ∧ s2 75 7 = (if y.toInt ≤ (s 75 6).toInt ∧ (s 75 7).toInt ≤ y.toInt then y else s 75 7) ∧ s2 75 8 = (if y.toInt ≤ (s 75 6).toInt ∧ (s 75 7).toInt ≤ y.toInt then w else s 75 8) := by
      intro c9 k1 k2 k3 k4 k5
      unfold fj_Reader_statement_65
      rw [k3 6 (by omega), k3 7 (by omega)]
      by_cases z1 : s 75 6 < y
      · rw [if_pos z1]
        rw [kp_lt] at z1
        rw [if_neg (show ¬ (y.toInt ≤ (s 75 6).toInt ∧ (s 75 7).toInt ≤ y.toInt) by omega), if_neg (show ¬ (y.toInt ≤ (s 75 6).toInt ∧ (s 75 7).toInt ≤ y.toInt) by omega)]
        exact ⟨c9, rfl, k1, k2, fun j hj => k3 j (by omega), k4, k5, k3 7 (by omega), k3 8 (by omega)⟩
      rw [if_neg z1]
      by_cases z2 : y < s 75 7
      · rw [if_pos z2]
        rw [kp_lt] at z2
        rw [if_neg (show ¬ (y.toInt ≤ (s 75 6).toInt ∧ (s 75 7).toInt ≤ y.toInt) by omega), if_neg (show ¬ (y.toInt ≤ (s 75 6).toInt ∧ (s 75 7).toInt ≤ y.toInt) by omega)]
        exact ⟨c9, rfl, k1, k2, fun j hj => k3 j (by omega), k4, k5, k3 7 (by omega), k3 8 (by omega)⟩
      rw [if_neg z2, kp_let, kp_let]
      rw [kp_lt] at z1 z2
      rw [if_pos (show y.toInt ≤ (s 75 6).toInt ∧ (s 75 7).toInt ≤ y.toInt by omega), if_pos (show y.toInt ≤ (s 75 6).toInt ∧ (s 75 7).toInt ≤ y.toInt by omega)]
      refine ⟨_, rfl, fun r hr => by rw [kp_st_ne hr, kp_st_ne hr]; exact k1 r hr, by rw [kp_st, if_neg (by omega), kp_st, if_neg (by omega)]; exact k2, fun j hj => by rw [kp_st, if_neg (by omega), kp_st, if_neg (by omega)]; exact k3 j (by omega), by rw [kp_st, if_neg (by omega), kp_st, if_neg (by omega)]; exact k4, by rw [kp_st, if_neg (by omega), kp_st, if_neg (by omega)]; exact k5, by rw [kp_st, if_neg (by omega), kp_st, if_pos ⟨rfl, rfl⟩], by rw [kp_st, if_pos ⟨rfl, rfl⟩]⟩
    have G1 : ∀ r, r ≠ 75 → kv_st (rd_g s (q2 + 1)) 75 5 (s 75 5 + 1) r = s r := fun r hr => by rw [kp_st_ne hr, rd_gr _ r hr]
    have G2 : kv_st (rd_g s (q2 + 1)) 75 5 (s 75 5 + 1) 75 2 = nI (q2 + 1) := by rw [kp_st, if_neg (by omega), rd_g2]
    have G3 : ∀ j, j ≠ 5 → j ≠ 2 → kv_st (rd_g s (q2 + 1)) 75 5 (s 75 5 + 1) 75 j = s 75 j := fun j h5 h6 => by rw [kp_st, if_neg (fun x => h5 x.2), rd_go _ j h6]
    have G5 : kv_st (rd_g s (q2 + 1)) 75 5 (s 75 5 + 1) 75 5 = s 75 5 + 1 := by rw [kp_st, if_pos ⟨rfl, rfl⟩]
    have k140 : (140 : Int32).toInt = 140 := ki_140
    by_cases y1 : y ≤ 140
    · rw [if_pos y1]
      rw [kp_le, k140] at y1
      exact fin _ G1 G2 (fun j hj => G3 j (by omega) (by omega)) G5 (by rw [if_neg (by omega)]; exact G3 4 (by omega) (by omega))
    rw [if_neg y1, G3 4 (by omega) (by omega)]
    rw [kp_le, k140] at y1
    by_cases y2 : 0 ≤ s 75 4
    · rw [if_pos y2]
      rw [kp_le, ki_0] at y2
      exact fin _ G1 G2 (fun j hj => G3 j (by omega) (by omega)) G5 (by rw [if_neg (by omega)]; exact G3 4 (by omega) (by omega))
    rw [if_neg y2, kp_let]
    rw [kp_le, ki_0] at y2
    exact fin _ (fun r hr => by rw [kp_st_ne hr]; exact G1 r hr) (by rw [kp_st, if_neg (by omega)]; exact G2) (fun j hj => by rw [kp_st, if_neg (by omega)]; exact G3 j (by omega) (by omega)) (by rw [kp_st, if_neg (by omega)]; exact G5) (by rw [kp_st, if_pos ⟨rfl, rfl⟩, if_pos (by omega)])
def rs_w (x : Int32) (wr : Option Nat) : Prop := (wr = none ∧ x = -1) ∨ ∃ q, wr = some q ∧ x = nI q ∧ q < 1000
theorem tk_all_s (n p st : Nat) (now hf : Int) (hv : Int32) (wr : Option Nat) : tk_all tx N e now (n + 1) p st hf hv wr = (tk_stm tx N e n p).bind (fun z => Sum.elim (fun q => some (.inl q)) (fun a => if a.2.2 < N then tk_all tx N e now n a.2.2 (st + 1) (if a.1.toInt ≤ now ∧ hf ≤ a.1.toInt then a.1.toInt else hf) (if a.1.toInt ≤ now ∧ hf ≤ a.1.toInt then a.2.1 else hv) (if wr = none ∧ 140 < a.1.toInt then some p else wr) else some (.inr (st + 1, (if a.1.toInt ≤ now ∧ hf ≤ a.1.toInt then a.2.1 else hv), (if wr = none ∧ 140 < a.1.toInt then some p else wr)))) z) := rfl
theorem rs_all {now : Int} : ∀ n p st hf hv wr r k (s : Nat → Nat → Int32), tk_all tx N e now n p st hf hv wr = some r → rd_R s N tx e → s 75 2 = nI p → p ≤ N → s 75 5 = nI st → (s 75 7).toInt = hf → s 75 8 = hv → (s 75 6).toInt = now → rs_w (s 75 4) wr → k ≤ p → ∃ s2, kv_bind1 (fx_Reader_statement s) (fun s1 => kv_loop (kv_u2 fb_Reader_read_14) (nI k, s1)) = some s2 ∧ (∀ r, r ≠ 75 → s2 r = s r) ∧ (∀ q, r = .inl q → s2 75 3 = nI q ∧ q ≤ N) ∧ ∀ st2 hv2 wr2, r = .inr (st2, hv2, wr2) → s2 75 3 = -1 ∧ s2 75 5 = nI st2 ∧ s2 75 8 = hv2 ∧ rs_w (s2 75 4) wr2 := by
  intro n
  induction n with
  | zero => intro p st hf hv wr r k s h; cases h
  | succ n ih =>
    intro p st hf hv wr r k s h hR h2 hp h5 h7 h8 h6 h4 hk
    have hN := hR.1
    rw [tk_all_s] at h
    cases hz : tk_stm tx N e n p with
    | none => rw [hz] at h; cases h
    | some z =>
      rw [hz] at h
      obtain ⟨g1, g2⟩ := rs_stm hR h2 hp hz
      have ex : ∀ (s1 : Nat → Nat → Int32), (0 ≤ s1 75 3 ∨ s1 75 1 ≤ s1 75 2) → kv_loop (kv_u2 fb_Reader_read_14) (nI k, s1) = some s1 := by
        intro s1 hs
        refine kp_stop ?_
        show fb_Reader_read_14 (nI k) s1 = _
        unfold fb_Reader_read_14
        by_cases z1 : (100 : Int32) ≤ nI k
        · rw [if_pos z1]
        · rw [if_neg z1]
          by_cases z2 : 0 ≤ s1 75 3
          · rw [if_pos z2]
          · rw [if_neg z2, if_pos (hs.resolve_left z2)]
      cases z with
      | inl q =>
        have h : some (Sum.inl q) = some r := h
        injection h with h
        obtain ⟨q1, q2⟩ := g1 q rfl
        rw [q2, kp_b1, ex _ (Or.inl (by rw [rd_b3]; exact nI_pos' (by omega)))]
        refine ⟨_, rfl, fun r hr => by unfold rd_b; rw [kp_st_ne hr, kp_st_ne hr], fun q0 e0 => ?_, fun a b d e0 => by rw [← h] at e0; cases e0⟩
        rw [← h] at e0
        cases e0
        exact ⟨rd_b3 q, q1⟩
      | inr a =>
        obtain ⟨y, w, q⟩ := a
        obtain ⟨⟨q0, q1⟩, s1, k1, k2, k3, k4, k5, k6, k7, k8⟩ := g2 y w q rfl
        have h : (if q < N then tk_all tx N e now n q (st + 1) (if y.toInt ≤ now ∧ hf ≤ y.toInt then y.toInt else hf) (if y.toInt ≤ now ∧ hf ≤ y.toInt then w else hv) (if wr = none ∧ 140 < y.toInt then some p else wr) else some (.inr (st + 1, (if y.toInt ≤ now ∧ hf ≤ y.toInt then w else hv), (if wr = none ∧ 140 < y.toInt then some p else wr)))) = some r := h
        have R1 : rd_R s1 N tx e := by
          obtain ⟨r1, r2, r3, r4, r5, r6, r7, r8⟩ := hR
          exact ⟨r1, by rw [k4 1 (by omega)]; exact r2, by rw [k4 3 (by omega)]; exact r3, fun i hi => by rw [k2 76 (by omega)]; exact r4 i hi, by rw [k4 9 (by omega)]; exact r5, by rw [k4 10 (by omega)]; exact r6, by rw [k4 11 (by omega)]; exact r7, by rw [k4 12 (by omega)]; exact r8⟩
        have e5 : s1 75 5 = nI (st + 1) := by rw [k5, h5, nI_1]
        have e8 : s1 75 8 = (if y.toInt ≤ now ∧ hf ≤ y.toInt then w else hv) := by rw [k8, h6, h7, h8]
        have e7 : (s1 75 7).toInt = (if y.toInt ≤ now ∧ hf ≤ y.toInt then y.toInt else hf) := by
          rw [k7, h6, h7]
          split
          · rfl
          · exact h7
        have e4 : rs_w (s1 75 4) (if wr = none ∧ 140 < y.toInt then some p else wr) := by
          rw [k6]
          rcases h4 with ⟨rfl, x1⟩ | ⟨qq, rfl, x1, x2⟩
          · rw [x1, ki_m1]
            by_cases z : 140 < y.toInt
            · rw [if_pos ⟨z, by omega⟩, if_pos ⟨rfl, z⟩]
              exact Or.inr ⟨p, rfl, rfl, by omega⟩
            · rw [if_neg (fun x => z x.1), if_neg (fun x => z x.2)]
              exact Or.inl ⟨rfl, rfl⟩
          · rw [x1, nI_toInt (show qq < 2 ^ 31 by omega), if_neg (by omega), if_neg (fun x => by cases x.1)]
            exact Or.inr ⟨qq, rfl, rfl, x2⟩
        rw [k1, kp_b1]
        by_cases zq : q < N
        · rw [if_pos zq] at h
          have lp : kv_loop (kv_u2 fb_Reader_read_14) (nI k, s1) = kv_bind1 (fx_Reader_statement s1) (fun s3 => kv_loop (kv_u2 fb_Reader_read_14) (nI (k + 1), s3)) := by
            rw [kv_loop_eq]
            show (fb_Reader_read_14 (nI k) s1).bind _ = _
            unfold fb_Reader_read_14
            have b100 : ¬ (100 : Int32) ≤ nI k := nI_ge (b := 100) (by omega) (by omega)
            rw [if_neg b100, R1.2.2.1, if_neg (by decide), R1.2.1, k3, if_neg (nI_ge zq (by omega))]
            cases fx_Reader_statement s1 with
            | none => rfl
            | some s3 =>
              rw [kp_b1, kp_b1, nI_1]
              rfl
          rw [lp]
          obtain ⟨s2, m1, m2, m3, m4⟩ := ih q (st + 1) _ _ _ r (k + 1) s1 h R1 k3 q1 e5 e7 e8 (by rw [k4 6 (by omega)]; exact h6) e4 (by omega)
          exact ⟨s2, m1, fun r hr => by rw [m2 r hr, k2 r hr], m3, m4⟩
        · rw [if_neg zq] at h
          injection h with h
          rw [ex s1 (Or.inr (by rw [R1.2.1, k3]; exact nI_le (by omega) (by omega)))]
          refine ⟨s1, rfl, k2, fun q0 e0 => by (rw [← h] at e0; cases e0), fun a b d e0 => ?_⟩
          rw [← h] at e0
          cases e0
          exact ⟨R1.2.2.1, e5, e8, e4⟩
end RS
