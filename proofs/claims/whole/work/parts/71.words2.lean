/-! ===== words: sums, products, atoms of the class's reader ===== -/
section RM
variable {c : Nat → Nat → Int32} {N : Nat} {tx e : Nat → Int32}
theorem rg_0 (n : Nat) (d : Int32) (s : Nat → Nat → Int32) : fg_R (n + 1) 0 d s = fx_Reader_sum (fg_R n 1) d s := rfl
theorem rg_1 (n : Nat) (d : Int32) (s : Nat → Nat → Int32) : fg_R (n + 1) 1 d s = fx_Reader_product (fg_R n 2) d s := rfl
theorem rg_2 (n : Nat) (d : Int32) (s : Nat → Nat → Int32) : fg_R (n + 1) 2 d s = fx_Reader_atom (fg_R n 0) d s := rfl
theorem rd_nI31 {q : Nat} (h : q ≤ N) (hN : N ≤ 100) : q < 2 ^ 31 := by omega
theorem rd_main (h : rd_R c N tx e) : ∀ F sel dp v p r, dp ≤ 6 → p ≤ N → tk_par tx N e F sel dp v p = some r → rd_P N p (decide (sel ≤ 2)) r ∧ (sel = 0 → ∀ n, 3 * (6 - dp) + 3 ≤ n → rd_O c r (fg_R n 0 (nI dp) (rd_g c p))) ∧ (sel = 1 → ∀ n, 3 * (6 - dp) + 2 ≤ n → rd_O c r (fg_R n 1 (nI dp) (rd_g c p))) ∧ (sel = 2 → ∀ n, 3 * (6 - dp) + 1 ≤ n → rd_O c r (fg_R n 2 (nI dp) (rd_g c p))) ∧ (sel = 3 → ∀ n k, 3 * (6 - dp) + 2 ≤ n → k ≤ p → rd_O c r (kv_loop (kv_u3 (fb_Reader_sum_8 (fg_R n 1) (nI dp))) (v, nI k, rd_g c p))) ∧ (4 ≤ sel → ∀ n k, 3 * (6 - dp) + 1 ≤ n → k ≤ p → rd_O c r (kv_loop (kv_u3 (fb_Reader_product_8 (fg_R n 2) (nI dp))) (v, nI k, rd_g c p))) := by
  have hN := h.1
  have h0 := h
  intro F
  induction F with
  | zero => intro sel dp v p r _ _ hr; cases hr
  | succ F ih =>
    intro sel dp v p r hdp hp hr
    have eq0 : tk_par tx N e (F + 1) sel dp v p = (if sel = 0 then tk_then (tk_par tx N e F 1 dp 0 p) (fun w q => tk_par tx N e F 3 dp w q)
      else if sel = 1 then tk_then (tk_par tx N e F 2 dp 0 p) (fun w q => tk_par tx N e F 4 dp w q)
      else if sel = 2 then
        if tk_at tx N p = 40 ∧ dp < 6 then tk_then (tk_par tx N e F 0 (dp + 1) 0 (p + 1)) (fun w q => if tk_at tx N q = 41 then some (.inr (w, q + 1)) else some (.inl q))
        else if tk_dig (tk_at tx N p) = true then some (tk_num tx N p)
        else if tk_at tx N p = 80 then some (.inr (e 0, p + 1))
        else if tk_at tx N p = 109 then some (.inr (e 1, p + 1))
        else if tk_at tx N p = 111 then some (.inr (e 2, p + 1))
        else if tk_at tx N p = 99 then some (.inr (e 3, p + 1))
        else some (.inl p)
      else if sel = 3 then
        if tk_at tx N p = 43 then tk_then (tk_par tx N e F 1 dp 0 (p + 1)) (fun w q => tk_par tx N e F 3 dp (v + w) q)
        else if tk_at tx N p = 45 then tk_then (tk_par tx N e F 1 dp 0 (p + 1)) (fun w q => tk_par tx N e F 3 dp (v - w) q)
        else some (.inr (v, p))
      else
        if tk_at tx N p = 42 then tk_then (tk_par tx N e F 2 dp 0 (p + 1)) (fun w q => tk_par tx N e F 4 dp (v * w) q)
        else if tk_at tx N p = 47 then tk_then (tk_par tx N e F 2 dp 0 (p + 1)) (fun w q => tk_par tx N e F 4 dp (if w = 0 then 0 else v / w) q)
        else some (.inr (v, p))) := rfl
    rw [eq0] at hr
    clear eq0
    have inN : ∀ z : Int, tk_at tx N p = z → z ≠ -1000 → p < N := fun z hz hne => by
      by_cases w : p < N
      · exact w
      · rw [tk_at_out (by omega)] at hz
        exact absurd hz.symm hne
    by_cases s0 : sel = 0
    · subst s0
      rw [if_pos rfl] at hr
      rcases tk_then_some hr with ⟨q, a1, a2⟩ | ⟨w, q, a1, a2⟩
      · obtain ⟨g1, -, g2, -⟩ := ih 1 dp 0 p _ hdp hp a1
        refine ⟨⟨fun q2 e2 => g1.1 q2 (by rw [← e2, a2]), fun w2 q2 e2 => by rw [a2] at e2; cases e2⟩, fun _ n hn => ?_, fun w => absurd w (by decide), fun w => absurd w (by decide), fun w => absurd w (by decide), fun w => absurd w (by decide)⟩
        obtain ⟨n2, rfl⟩ : ∃ n2, n = n2 + 1 := ⟨n - 1, by omega⟩
        obtain ⟨x, hx⟩ := (g2 rfl n2 (by omega)).1 q rfl
        rw [rg_0, a2]
        unfold fx_Reader_sum
        rw [hx, kp_b2, rd_sum_b (rd_nI31 (g1.1 q rfl) hN)]
        exact rd_O_l rfl
      · obtain ⟨g1, -, g2, -⟩ := ih 1 dp 0 p _ hdp hp a1
        have gp := g1.2 w q rfl
        rw [if_pos (by decide)] at gp
        obtain ⟨k1, -, -, -, k2, -⟩ := ih 3 dp w q r hdp gp.2 a2
        refine ⟨⟨k1.1, fun w2 q2 e2 => ?_⟩, fun _ n hn => ?_, fun w => absurd w (by decide), fun w => absurd w (by decide), fun w => absurd w (by decide), fun w => absurd w (by decide)⟩
        · have := k1.2 w2 q2 e2
          rw [if_neg (by decide)] at this
          rw [if_pos (by decide)]
          exact ⟨by omega, this.2⟩
        obtain ⟨n2, rfl⟩ : ∃ n2, n = n2 + 1 := ⟨n - 1, by omega⟩
        have hx := (g2 rfl n2 (by omega)).2 w q rfl
        have hy := k2 rfl n2 0 (by omega) (by omega)
        rw [rg_0]
        unfold fx_Reader_sum
        rw [hx, kp_b2]
        have e0 : (w, (0 : Int32), rd_g c q) = (w, nI 0, rd_g c q) := rfl
        rw [e0]
        refine ⟨fun q2 e2 => ?_, fun w2 q2 e2 => ?_⟩
        · obtain ⟨x, hx⟩ := hy.1 q2 e2
          exact ⟨x, by rw [hx]; rfl⟩
        · rw [hy.2 w2 q2 e2]; rfl
    rw [if_neg s0] at hr
    by_cases s1 : sel = 1
    · subst s1
      rw [if_pos rfl] at hr
      rcases tk_then_some hr with ⟨q, a1, a2⟩ | ⟨w, q, a1, a2⟩
      · obtain ⟨g1, -, -, g2, -⟩ := ih 2 dp 0 p _ hdp hp a1
        refine ⟨⟨fun q2 e2 => g1.1 q2 (by rw [← e2, a2]), fun w2 q2 e2 => by rw [a2] at e2; cases e2⟩, fun w => absurd w (by decide), fun _ n hn => ?_, fun w => absurd w (by decide), fun w => absurd w (by decide), fun w => absurd w (by decide)⟩
        obtain ⟨n2, rfl⟩ : ∃ n2, n = n2 + 1 := ⟨n - 1, by omega⟩
        obtain ⟨x, hx⟩ := (g2 rfl n2 (by omega)).1 q rfl
        rw [rg_1, a2]
        unfold fx_Reader_product
        rw [hx, kp_b2, rd_prod_b (rd_nI31 (g1.1 q rfl) hN)]
        exact rd_O_l rfl
      · obtain ⟨g1, -, -, g2, -⟩ := ih 2 dp 0 p _ hdp hp a1
        have gp := g1.2 w q rfl
        rw [if_pos (by decide)] at gp
        obtain ⟨k1, -, -, -, -, k2⟩ := ih 4 dp w q r hdp gp.2 a2
        refine ⟨⟨k1.1, fun w2 q2 e2 => ?_⟩, fun w => absurd w (by decide), fun _ n hn => ?_, fun w => absurd w (by decide), fun w => absurd w (by decide), fun w => absurd w (by decide)⟩
        · have := k1.2 w2 q2 e2
          rw [if_neg (by decide)] at this
          rw [if_pos (by decide)]
          exact ⟨by omega, this.2⟩
        obtain ⟨n2, rfl⟩ : ∃ n2, n = n2 + 1 := ⟨n - 1, by omega⟩
        have hx := (g2 rfl n2 (by omega)).2 w q rfl
        have hy := k2 (by omega) n2 0 (by omega) (by omega)
        rw [rg_1]
        unfold fx_Reader_product
        rw [hx, kp_b2]
        have e0 : (w, (0 : Int32), rd_g c q) = (w, nI 0, rd_g c q) := rfl
        rw [e0]
        refine ⟨fun q2 e2 => ?_, fun w2 q2 e2 => ?_⟩
        · obtain ⟨x, hx⟩ := hy.1 q2 e2
          exact ⟨x, by rw [hx]; rfl⟩
        · rw [hy.2 w2 q2 e2]; rfl
    rw [if_neg s1] at hr
    by_cases s2 : sel = 2
    · subst s2
      rw [if_pos rfl] at hr
      have c40 := rd_at h hp (ch := 40) (by decide)
      have c80 := rd_at h hp (ch := 80) (by decide)
      have c109 := rd_at h hp (ch := 109) (by decide)
      have c111 := rd_at h hp (ch := 111) (by decide)
      have c99 := rd_at h hp (ch := 99) (by decide)
      have cd := rd_dig h hp
      rw [show (40 : Int32).toInt = 40 by decide] at c40
      rw [show (80 : Int32).toInt = 80 by decide] at c80
      rw [show (109 : Int32).toInt = 109 by decide] at c109
      rw [show (111 : Int32).toInt = 111 by decide] at c111
      rw [show (99 : Int32).toInt = 99 by decide] at c99
      have no : ∀ P : Prop, ¬ ((2 : Nat) = 0 ∧ P) := fun P w => absurd w.1 (by decide)
      by_cases zp : tk_at tx N p = 40 ∧ dp < 6
      · rw [if_pos zp] at hr
        have hlt := inN 40 zp.1 (by omega)
        rcases tk_then_some hr with ⟨q, a1, a2⟩ | ⟨w, q, a1, a2⟩
        · obtain ⟨g1, g2, -⟩ := ih 0 (dp + 1) 0 (p + 1) _ (by omega) (by omega) a1
          refine ⟨⟨fun q2 e2 => g1.1 q2 (by rw [← e2, a2]), fun w2 q2 e2 => by rw [a2] at e2; cases e2⟩, fun w => absurd w (by decide), fun w => absurd w (by decide), fun _ n hn => ?_, fun w => absurd w (by decide), fun w => absurd w (by decide)⟩
          obtain ⟨n2, rfl⟩ : ∃ n2, n = n2 + 1 := ⟨n - 1, by omega⟩
          obtain ⟨x, hx⟩ := (g2 rfl n2 (by omega)).1 q rfl
          have b6 : ¬ (6 : Int32) ≤ nI dp := nI_ge (b := 6) zp.2 (by omega)
          rw [rg_2, a2]
          unfold fx_Reader_atom
          rw [c40, decide_eq_true zp.1, kp_b1, if_pos rfl, if_neg b6, rd_g2, rd_on, kp_let, nI_1, hx, kp_b2, rd_expect_b (rd_nI31 (g1.1 q rfl) hN), kp_b1]
          exact rd_O_l rfl
        · obtain ⟨g1, g2, -⟩ := ih 0 (dp + 1) 0 (p + 1) _ (by omega) (by omega) a1
          have gp := g1.2 w q rfl
          rw [if_pos (by decide)] at gp
          have ex := rd_expect h gp.2 (ch := 41) (by decide)
          rw [show (41 : Int32).toInt = 41 by decide] at ex
          have body : ∀ n2, 3 * (6 - dp) ≤ n2 → fg_R (n2 + 1) 2 (nI dp) (rd_g c p) = some (w, if tk_at tx N q = 41 then rd_g c (q + 1) else rd_b c q) := by
            intro n2 hn2
            have hx := (g2 rfl n2 (by omega)).2 w q rfl
            have b6 : ¬ (6 : Int32) ≤ nI dp := nI_ge (b := 6) zp.2 (by omega)
            rw [rg_2]
            unfold fx_Reader_atom
            rw [c40, decide_eq_true zp.1, kp_b1, if_pos rfl, if_neg b6, rd_g2, rd_on, kp_let, nI_1, hx, kp_b2, ex, kp_b1]
          by_cases z41 : tk_at tx N q = 41
          · rw [if_pos z41] at a2
            cases a2
            have hq : q < N := by
              by_cases w : q < N
              · exact w
              · rw [tk_at_out (by omega)] at z41
                omega
            refine ⟨⟨fun q2 e2 => by (cases e2), fun w2 q2 e2 => by cases e2; rw [if_pos (by decide)]; exact ⟨by omega, by omega⟩⟩, fun w => absurd w (by decide), fun w => absurd w (by decide), fun _ n hn => ?_, fun w => absurd w (by decide), fun w => absurd w (by decide)⟩
            obtain ⟨n2, rfl⟩ : ∃ n2, n = n2 + 1 := ⟨n - 1, by omega⟩
            rw [body n2 (by omega), if_pos z41]
            exact rd_O_r rfl
          · rw [if_neg z41] at a2
            cases a2
            refine ⟨⟨fun q2 e2 => by cases e2; exact gp.2, fun w2 q2 e2 => by (cases e2)⟩, fun w => absurd w (by decide), fun w => absurd w (by decide), fun _ n hn => ?_, fun w => absurd w (by decide), fun w => absurd w (by decide)⟩
            obtain ⟨n2, rfl⟩ : ∃ n2, n = n2 + 1 := ⟨n - 1, by omega⟩
            rw [body n2 (by omega), if_neg z41]
            exact rd_O_l rfl
      rw [if_neg zp] at hr
      have body : ∀ n2, fg_R (n2 + 1) 2 (nI dp) (rd_g c p) = fj_Reader_atom_41 (rd_g c p) := by
        intro n2
        rw [rg_2]
        unfold fx_Reader_atom
        rw [c40, kp_b1]
        by_cases z : tk_at tx N p = 40
        · have b6 : (6 : Int32) ≤ nI dp := nI_le (a := 6) (by omega) (by omega)
          rw [decide_eq_true z, if_pos rfl, if_pos b6]
        · rw [decide_eq_false z, if_neg (by decide)]
      have fin : rd_P N p (decide (2 ≤ 2)) r → (∀ z, fj_Reader_atom_41 (rd_g c p) = z → rd_O c r z) → rd_P N p (decide (2 ≤ 2)) r ∧ ((2 : Nat) = 0 → ∀ n, 3 * (6 - dp) + 3 ≤ n → rd_O c r (fg_R n 0 (nI dp) (rd_g c p))) ∧ ((2 : Nat) = 1 → ∀ n, 3 * (6 - dp) + 2 ≤ n → rd_O c r (fg_R n 1 (nI dp) (rd_g c p))) ∧ ((2 : Nat) = 2 → ∀ n, 3 * (6 - dp) + 1 ≤ n → rd_O c r (fg_R n 2 (nI dp) (rd_g c p))) ∧ ((2 : Nat) = 3 → ∀ n k, 3 * (6 - dp) + 2 ≤ n → k ≤ p → rd_O c r (kv_loop (kv_u3 (fb_Reader_sum_8 (fg_R n 1) (nI dp))) (v, nI k, rd_g c p))) ∧ (4 ≤ 2 → ∀ n k, 3 * (6 - dp) + 1 ≤ n → k ≤ p → rd_O c r (kv_loop (kv_u3 (fb_Reader_product_8 (fg_R n 2) (nI dp))) (v, nI k, rd_g c p))) := by
        intro h1 h2
        refine ⟨h1, fun w => absurd w (by decide), fun w => absurd w (by decide), fun _ n hn => ?_, fun w => absurd w (by decide), fun w => absurd w (by decide)⟩
        obtain ⟨n2, rfl⟩ : ∃ n2, n = n2 + 1 := ⟨n - 1, by omega⟩
        rw [body n2]
        exact h2 _ rfl
      have A41 : fj_Reader_atom_41 (rd_g c p) = if tk_dig (tk_at tx N p) = true then kv_bind2 (fx_Reader_number (rd_g c p)) (fun v14 c15 => some (v14, c15)) else if tk_at tx N p = 80 then some (e 0, rd_g c (p + 1)) else if tk_at tx N p = 109 then some (e 1, rd_g c (p + 1)) else if tk_at tx N p = 111 then some (e 2, rd_g c (p + 1)) else if tk_at tx N p = 99 then some (e 3, rd_g c (p + 1)) else some (0, rd_b c p) := by
        obtain ⟨-, -, -, -, e9, e10, e11, e12⟩ := h
        have m9 : rd_g c p 75 9 = e 0 := by rw [rd_go _ 9 (by omega)]; exact e9
        have m10 : rd_g c p 75 10 = e 1 := by rw [rd_go _ 10 (by omega)]; exact e10
        have m11 : rd_g c p 75 11 = e 2 := by rw [rd_go _ 11 (by omega)]; exact e11
        have m12 : rd_g c p 75 12 = e 3 := by rw [rd_go _ 12 (by omega)]; exact e12
        have st := rd_stop h0 p
        unfold fj_Reader_atom_41 fj_Reader_atom_105 fj_Reader_atom_142
        simp only [cd, c80, c109, c111, c99, kp_b1, decide_eq_true_eq, rd_g2, rd_on, kp_let, st, m9, m10, m11, m12]
        by_cases y1 : tk_dig (tk_at tx N p) = true
        · simp only [if_pos y1]
        simp only [if_neg y1]
        by_cases y2 : tk_at tx N p = 80
        · simp only [if_pos y2]
        simp only [if_neg y2]
        by_cases y3 : tk_at tx N p = 109
        · simp only [if_pos y3]
        simp only [if_neg y3]
        by_cases y4 : tk_at tx N p = 111
        · simp only [if_pos y4]
        simp only [if_neg y4]
      by_cases zd : tk_dig (tk_at tx N p) = true
      · rw [if_pos zd] at hr
        rw [if_pos zd] at A41
        obtain ⟨n1, n2⟩ := rd_num h hp
        have hr2 : tk_num tx N p = r := by injection hr
        refine fin ⟨fun q e2 => ?_, fun w q e2 => ?_⟩ (fun z hz => by rw [← hz, A41]; exact ⟨fun q e2 => by
          obtain ⟨a1, a2⟩ := n2 q (hr2.trans e2)
          rw [a2, kp_b2]
          exact ⟨0, rfl⟩, fun w q e2 => by
          obtain ⟨a1, a2⟩ := n1 w q (hr2.trans e2)
          rw [a2, kp_b2]⟩)
        · obtain ⟨a1, -⟩ := n2 q (hr2.trans e2)
          omega
        · obtain ⟨a1, -⟩ := n1 w q (hr2.trans e2)
          rw [if_pos (by decide)]
          exact a1
      rw [if_neg zd] at hr A41
      have pr : ∀ (x : Int32), p < N → rd_P N p (decide (2 ≤ 2)) (.inr (x, p + 1)) := fun x hx => ⟨fun q2 e2 => by (cases e2), fun w2 q2 e2 => by cases e2; rw [if_pos (by decide)]; exact ⟨by omega, by omega⟩⟩
      by_cases z80 : tk_at tx N p = 80
      · rw [if_pos z80] at hr
        rw [if_pos z80] at A41
        cases hr
        exact fin (pr _ (inN 80 z80 (by omega))) (fun z hz => rd_O_r (hz.symm.trans A41))
      rw [if_neg z80] at hr
      rw [if_neg z80] at A41
      by_cases z109 : tk_at tx N p = 109
      · rw [if_pos z109] at hr
        rw [if_pos z109] at A41
        cases hr
        exact fin (pr _ (inN 109 z109 (by omega))) (fun z hz => rd_O_r (hz.symm.trans A41))
      rw [if_neg z109] at hr
      rw [if_neg z109] at A41
      by_cases z111 : tk_at tx N p = 111
      · rw [if_pos z111] at hr
        rw [if_pos z111] at A41
        cases hr
        exact fin (pr _ (inN 111 z111 (by omega))) (fun z hz => rd_O_r (hz.symm.trans A41))
      rw [if_neg z111] at hr
      rw [if_neg z111] at A41
      by_cases z99 : tk_at tx N p = 99
      · rw [if_pos z99] at hr
        rw [if_pos z99] at A41
        cases hr
        exact fin (pr _ (inN 99 z99 (by omega))) (fun z hz => rd_O_r (hz.symm.trans A41))
      rw [if_neg z99] at hr
      rw [if_neg z99] at A41
      cases hr
      exact fin ⟨fun q2 e2 => by cases e2; exact hp, fun w2 q2 e2 => by (cases e2)⟩ (fun z hz => rd_O_l (hz.symm.trans A41))
    rw [if_neg s2] at hr
    by_cases s3 : sel = 3
    · subst s3
      rw [if_pos rfl] at hr
      have c43 := rd_at h hp (ch := 43) (by decide)
      have c45 := rd_at h hp (ch := 45) (by decide)
      rw [show (43 : Int32).toInt = 43 by decide] at c43
      rw [show (45 : Int32).toInt = 45 by decide] at c45
      have step : ∀ (b : Bool) (f : Int32 → Int32), p < N → decide (tk_at tx N p = 43) = b → (b = false → tk_at tx N p = 45) → (∀ w, f w = if b = true then v + w else v - w) → tk_then (tk_par tx N e F 1 dp 0 (p + 1)) (fun w q => tk_par tx N e F 3 dp (f w) q) = some r → rd_P N p (decide (3 ≤ 2)) r ∧ ∀ n k, 3 * (6 - dp) + 2 ≤ n → k ≤ p → rd_O c r (kv_loop (kv_u3 (fb_Reader_sum_8 (fg_R n 1) (nI dp))) (v, nI k, rd_g c p)) := by
        intro b f hlt hb hb2 hf hr
        have K : ∀ n k, k ≤ p → kv_u3 (fb_Reader_sum_8 (fg_R n 1) (nI dp)) (v, nI k, rd_g c p) = kv_bind2 (fg_R n 1 (nI dp) (rd_g c (p + 1))) (fun v12 c13 => some (.inl (f v12, nI (k + 1), c13))) := by
          intro n k hk
          show fb_Reader_sum_8 (fg_R n 1) (nI dp) v (nI k) (rd_g c p) = _
          have b100 : ¬ (100 : Int32) ≤ nI k := nI_ge (b := 100) (by omega) (by omega)
          have J : fj_Reader_sum_32 (fg_R n 1) (rd_g c p) (nI dp) (nI k) v = kv_bind2 (fg_R n 1 (nI dp) (rd_g c (p + 1))) (fun v12 c13 => some (.inl (f v12, nI (k + 1), c13))) := by
            unfold fj_Reader_sum_32 fj_Reader_sum_73
            rw [c43, hb, kp_b1, kp_let, rd_g2, rd_on, kp_let]
            congr 1
            funext v12 c13
            rw [hf, nI_1]
            cases b <;> rfl
          unfold fb_Reader_sum_8
          rw [if_neg b100, c43, hb, kp_b1]
          cases b with
          | true => rw [if_pos rfl]; exact J
          | false => rw [if_neg (by decide), c45, decide_eq_true (hb2 rfl), kp_b1, if_pos rfl]; exact J
        rcases tk_then_some hr with ⟨q, a1, a2⟩ | ⟨w, q, a1, a2⟩
        · obtain ⟨g1, -, g2, -⟩ := ih 1 dp 0 (p + 1) _ hdp (by omega) a1
          refine ⟨⟨fun q2 e2 => g1.1 q2 (by rw [← e2, a2]), fun w2 q2 e2 => by rw [a2] at e2; cases e2⟩, fun n k hn hk => ?_⟩
          obtain ⟨x, hx⟩ := (g2 rfl n (by omega)).1 q rfl
          rw [kp_step (s2 := (f x, nI (k + 1), rd_b c q)) (by rw [K n k hk, hx, kp_b2]), rd_sum_b (rd_nI31 (g1.1 q rfl) hN), a2]
          exact rd_O_l rfl
        · obtain ⟨g1, -, g2, -⟩ := ih 1 dp 0 (p + 1) _ hdp (by omega) a1
          have gp := g1.2 w q rfl
          rw [if_pos (by decide)] at gp
          obtain ⟨k1, -, -, -, k2, -⟩ := ih 3 dp (f w) q r hdp gp.2 a2
          refine ⟨⟨k1.1, fun w2 q2 e2 => ?_⟩, fun n k hn hk => ?_⟩
          · have := k1.2 w2 q2 e2
            rw [if_neg (by decide)] at this ⊢
            exact ⟨by omega, this.2⟩
          have hx := (g2 rfl n (by omega)).2 w q rfl
          rw [kp_step (s2 := (f w, nI (k + 1), rd_g c q)) (by rw [K n k hk, hx, kp_b2])]
          exact k2 rfl n (k + 1) hn (by omega)
      have wrap : (rd_P N p (decide (3 ≤ 2)) r ∧ ∀ n k, 3 * (6 - dp) + 2 ≤ n → k ≤ p → rd_O c r (kv_loop (kv_u3 (fb_Reader_sum_8 (fg_R n 1) (nI dp))) (v, nI k, rd_g c p))) → rd_P N p (decide (3 ≤ 2)) r ∧ ((3 : Nat) = 0 → ∀ n, 3 * (6 - dp) + 3 ≤ n → rd_O c r (fg_R n 0 (nI dp) (rd_g c p))) ∧ ((3 : Nat) = 1 → ∀ n, 3 * (6 - dp) + 2 ≤ n → rd_O c r (fg_R n 1 (nI dp) (rd_g c p))) ∧ ((3 : Nat) = 2 → ∀ n, 3 * (6 - dp) + 1 ≤ n → rd_O c r (fg_R n 2 (nI dp) (rd_g c p))) ∧ ((3 : Nat) = 3 → ∀ n k, 3 * (6 - dp) + 2 ≤ n → k ≤ p → rd_O c r (kv_loop (kv_u3 (fb_Reader_sum_8 (fg_R n 1) (nI dp))) (v, nI k, rd_g c p))) ∧ (4 ≤ 3 → ∀ n k, 3 * (6 - dp) + 1 ≤ n → k ≤ p → rd_O c r (kv_loop (kv_u3 (fb_Reader_product_8 (fg_R n 2) (nI dp))) (v, nI k, rd_g c p))) := fun ⟨w1, w2⟩ => ⟨w1, fun w => absurd w (by decide), fun w => absurd w (by decide), fun w => absurd w (by decide), fun _ => w2, fun w => absurd w (by decide)⟩
      by_cases z43 : tk_at tx N p = 43
      · rw [if_pos z43] at hr
        exact wrap (step true (fun w => v + w) (inN 43 z43 (by omega)) (decide_eq_true z43) (fun w => absurd w (by decide)) (fun w => by rw [if_pos rfl]) hr)
      rw [if_neg z43] at hr
      by_cases z45 : tk_at tx N p = 45
      · rw [if_pos z45] at hr
        exact wrap (step false (fun w => v - w) (inN 45 z45 (by omega)) (decide_eq_false z43) (fun _ => z45) (fun w => by rw [if_neg (by decide)]) hr)
      rw [if_neg z45] at hr
      cases hr
      refine wrap ⟨⟨fun q2 e2 => by (cases e2), fun w2 q2 e2 => by cases e2; rw [if_neg (by decide)]; exact ⟨Nat.le_refl _, hp⟩⟩, fun n k hn hk => ?_⟩
      refine rd_O_r (kp_stop ?_)
      show fb_Reader_sum_8 (fg_R n 1) (nI dp) v (nI k) (rd_g c p) = _
      unfold fb_Reader_sum_8
      rw [c43, c45, decide_eq_false z43, decide_eq_false z45, kp_b1, if_neg (show ¬ (false = true) by decide), kp_b1, if_neg (show ¬ (false = true) by decide)]
      split <;> rfl
    rw [if_neg s3] at hr
    have c42 := rd_at h hp (ch := 42) (by decide)
    have c47 := rd_at h hp (ch := 47) (by decide)
    rw [show (42 : Int32).toInt = 42 by decide] at c42
    rw [show (47 : Int32).toInt = 47 by decide] at c47
    have n2 : ¬ sel ≤ 2 := by omega
    have step : ∀ (b : Bool) (f : Int32 → Int32), p < N → decide (tk_at tx N p = 42) = b → (b = false → tk_at tx N p = 47) → (∀ w, f w = if b = true then v * w else if w = 0 then 0 else v / w) → tk_then (tk_par tx N e F 2 dp 0 (p + 1)) (fun w q => tk_par tx N e F 4 dp (f w) q) = some r → rd_P N p (decide (sel ≤ 2)) r ∧ ∀ n k, 3 * (6 - dp) + 1 ≤ n → k ≤ p → rd_O c r (kv_loop (kv_u3 (fb_Reader_product_8 (fg_R n 2) (nI dp))) (v, nI k, rd_g c p)) := by
      intro b f hlt hb hb2 hf hr
      have K : ∀ n k, k ≤ p → kv_u3 (fb_Reader_product_8 (fg_R n 2) (nI dp)) (v, nI k, rd_g c p) = kv_bind2 (fg_R n 2 (nI dp) (rd_g c (p + 1))) (fun v12 c13 => some (.inl (f v12, nI (k + 1), c13))) := by
        intro n k hk
        show fb_Reader_product_8 (fg_R n 2) (nI dp) v (nI k) (rd_g c p) = _
        have b100 : ¬ (100 : Int32) ≤ nI k := nI_ge (b := 100) (by omega) (by omega)
        have J : fj_Reader_product_32 (fg_R n 2) (rd_g c p) (nI dp) v (nI k) = kv_bind2 (fg_R n 2 (nI dp) (rd_g c (p + 1))) (fun v12 c13 => some (.inl (f v12, nI (k + 1), c13))) := by
          unfold fj_Reader_product_32 fj_Reader_product_76 fx_Reader_over
          rw [c42, hb, kp_b1, kp_let, rd_g2, rd_on, kp_let]
          congr 1
          funext v12 c13
          rw [hf, nI_1]
          cases b with
          | true => rfl
          | false =>
            show kv_bind1 (if v12 = 0 then some 0 else if v12 = 0 then none else some (v / v12)) _ = some (Sum.inl ((if v12 = 0 then 0 else v / v12), nI (k + 1), c13))
            by_cases z : v12 = 0
            · rw [if_pos z, if_pos z]; rfl
            · rw [if_neg z, if_neg z, if_neg z]; rfl
        unfold fb_Reader_product_8
        rw [if_neg b100, c42, hb, kp_b1]
        cases b with
        | true => rw [if_pos rfl]; exact J
        | false => rw [if_neg (by decide), c47, decide_eq_true (hb2 rfl), kp_b1, if_pos rfl]; exact J
      rcases tk_then_some hr with ⟨q, a1, a2⟩ | ⟨w, q, a1, a2⟩
      · obtain ⟨g1, -, -, g2, -⟩ := ih 2 dp 0 (p + 1) _ hdp (by omega) a1
        refine ⟨⟨fun q2 e2 => g1.1 q2 (by rw [← e2, a2]), fun w2 q2 e2 => by rw [a2] at e2; cases e2⟩, fun n k hn hk => ?_⟩
        obtain ⟨x, hx⟩ := (g2 rfl n (by omega)).1 q rfl
        rw [kp_step (s2 := (f x, nI (k + 1), rd_b c q)) (by rw [K n k hk, hx, kp_b2]), rd_prod_b (rd_nI31 (g1.1 q rfl) hN), a2]
        exact rd_O_l rfl
      · obtain ⟨g1, -, -, g2, -⟩ := ih 2 dp 0 (p + 1) _ hdp (by omega) a1
        have gp := g1.2 w q rfl
        rw [if_pos (by decide)] at gp
        obtain ⟨k1, -, -, -, -, k2⟩ := ih 4 dp (f w) q r hdp gp.2 a2
        refine ⟨⟨k1.1, fun w2 q2 e2 => ?_⟩, fun n k hn hk => ?_⟩
        · have := k1.2 w2 q2 e2
          rw [if_neg (by decide)] at this
          rw [decide_eq_false n2, if_neg (by decide)]
          exact ⟨by omega, this.2⟩
        have hx := (g2 rfl n (by omega)).2 w q rfl
        rw [kp_step (s2 := (f w, nI (k + 1), rd_g c q)) (by rw [K n k hk, hx, kp_b2])]
        exact k2 (by omega) n (k + 1) hn (by omega)
    have wrap : (rd_P N p (decide (sel ≤ 2)) r ∧ ∀ n k, 3 * (6 - dp) + 1 ≤ n → k ≤ p → rd_O c r (kv_loop (kv_u3 (fb_Reader_product_8 (fg_R n 2) (nI dp))) (v, nI k, rd_g c p))) → rd_P N p (decide (sel ≤ 2)) r ∧ (sel = 0 → ∀ n, 3 * (6 - dp) + 3 ≤ n → rd_O c r (fg_R n 0 (nI dp) (rd_g c p))) ∧ (sel = 1 → ∀ n, 3 * (6 - dp) + 2 ≤ n → rd_O c r (fg_R n 1 (nI dp) (rd_g c p))) ∧ (sel = 2 → ∀ n, 3 * (6 - dp) + 1 ≤ n → rd_O c r (fg_R n 2 (nI dp) (rd_g c p))) ∧ (sel = 3 → ∀ n k, 3 * (6 - dp) + 2 ≤ n → k ≤ p → rd_O c r (kv_loop (kv_u3 (fb_Reader_sum_8 (fg_R n 1) (nI dp))) (v, nI k, rd_g c p))) ∧ (4 ≤ sel → ∀ n k, 3 * (6 - dp) + 1 ≤ n → k ≤ p → rd_O c r (kv_loop (kv_u3 (fb_Reader_product_8 (fg_R n 2) (nI dp))) (v, nI k, rd_g c p))) := fun ⟨w1, w2⟩ => ⟨w1, fun w => absurd w s0, fun w => absurd w s1, fun w => absurd w s2, fun w => absurd w s3, fun _ => w2⟩
    by_cases z42 : tk_at tx N p = 42
    · rw [if_pos z42] at hr
      exact wrap (step true (fun w => v * w) (inN 42 z42 (by omega)) (decide_eq_true z42) (fun w => absurd w (by decide)) (fun w => by rw [if_pos rfl]) hr)
    rw [if_neg z42] at hr
    by_cases z47 : tk_at tx N p = 47
    · rw [if_pos z47] at hr
      exact wrap (step false (fun w => if w = 0 then 0 else v / w) (inN 47 z47 (by omega)) (decide_eq_false z42) (fun _ => z47) (fun w => by rw [if_neg (show ¬ (false = true) by decide)]) hr)
    rw [if_neg z47] at hr
    cases hr
    refine wrap ⟨⟨fun q2 e2 => by (cases e2), fun w2 q2 e2 => by cases e2; rw [decide_eq_false n2, if_neg (by decide)]; exact ⟨Nat.le_refl _, hp⟩⟩, fun n k hn hk => ?_⟩
    refine rd_O_r (kp_stop ?_)
    show fb_Reader_product_8 (fg_R n 2) (nI dp) v (nI k) (rd_g c p) = _
    unfold fb_Reader_product_8
    rw [c42, c47, decide_eq_false z42, decide_eq_false z47, kp_b1, if_neg (show ¬ (false = true) by decide), kp_b1, if_neg (show ¬ (false = true) by decide)]
    split <;> rfl
end RM
