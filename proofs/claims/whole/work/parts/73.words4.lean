/-! ===== words: the reference's sums ===== -/
section RW
variable {N B row : Nat} {tx e : Nat → Int32}
theorem tk_pos (hN : N ≤ 100) {F sel dp : Nat} {v : Int32} {p : Nat} {r : Nat ⊕ (Int32 × Nat)} (hdp : dp ≤ 6) (hp : p ≤ N) (h : tk_par tx N e F sel dp v p = some r) : rd_P N p (decide (sel ≤ 2)) r := by
  have hR : rd_R (fun q j => if q = 76 then tx j else if j = 1 then nI N else if j = 3 then -1 else e (j - 9)) N tx e := ⟨hN, rfl, rfl, fun i _ => rfl, rfl, rfl, rfl, rfl⟩
  exact (rd_main hR F sel dp v p r hdp hp h).1
theorem rv_S_tr {m m5 : Nat → Nat → Int32} {q0 : Nat} {r : Nat ⊕ (Int32 × Nat)} {z : Option ((Nat → Nat → Int32) ⊕ (Nat → Nat → Int32))} (h1 : rv_fr m m5 q0) (h2 : m5 84 21 = m 84 21) (h : rv_S m5 r z) : rv_S m r z :=
  ⟨fun q e => by
    obtain ⟨m2, a1, a2⟩ := h.1 q e
    exact ⟨m2, a1, rv_tr h1 a2⟩, fun w q e => by
    obtain ⟨m2, a1, a2, a3⟩ := h.2 w q e
    exact ⟨m2, a1, rv_tr h1 a2, a3.trans h2⟩⟩
theorem rv_B_of_S {m : Nat → Nat → Int32} {r : Nat ⊕ (Int32 × Nat)} {z : Option ((Nat → Nat → Int32) ⊕ (Nat → Nat → Int32))} (h : rv_S m r z) : rv_B m r (z.bind (Sum.elim (kv_u1 (fun m2 => some (false, m2))) (kv_u1 (fun m3 => some (true, m3))))) :=
  ⟨fun q e => by
    obtain ⟨m2, a1, a2⟩ := h.1 q e
    exact ⟨m2, by rw [a1]; rfl, a2⟩, fun w q e => by
    obtain ⟨m2, a1, a2, a3⟩ := h.2 w q e
    exact ⟨m2, by rw [a1]; rfl, a2, a3⟩⟩
theorem rv_main : ∀ F sel dp v p r, dp ≤ 6 → p ≤ N → tk_par tx N e F sel dp v p = some r → ∀ m : Nat → Nat → Int32, rm_M m N B row tx → m 84 18 = nI p → m 84 21 = nI dp → (sel = 0 → ∀ n, 3 * (6 - dp) + 3 ≤ n → rv_B m r (fg_C n 0 m)) ∧ (sel = 1 → ∀ n, 3 * (6 - dp) + 2 ≤ n → rv_B m r (fg_C n 1 m)) ∧ (sel = 2 → ∀ n, 3 * (6 - dp) + 1 ≤ n → rv_B m r (fg_C n 2 m)) ∧ (sel = 3 → ∀ n, 3 * (6 - dp) + 2 ≤ n → rv_S m r (rv_x (kv_u1 (fb_D_readsSum_0 (fg_C n 1))) 43 45 m)) ∧ (4 ≤ sel → ∀ n, 3 * (6 - dp) + 1 ≤ n → rv_S m r (rv_x (kv_u1 (fb_D_readsProduct_0 (fg_C n 2))) 42 47 m)) := by
  intro F
  induction F with
  | zero => intro sel dp v p r _ _ hr; cases hr
  | succ F ih =>
    intro sel dp v p r hdp hp hr m hM h18 h21
    have hN := hM.2.1
    have eq0 : tk_par tx N e (F + 1) sel dp v p = (if sel = 0 then tk_then (tk_par tx N e F 1 dp 0 p) (fun w q => tk_par tx N e F 3 dp w q)
      else if sel = 1 then tk_then (tk_par tx N e F 2 dp 0 p) (fun w q => tk_par tx N e F 4 dp w q)
      else if sel = 2 then
        if tk_at tx N p = 40 ∧ dp < 6 then tk_then (tk_par tx N e F 0 (dp + 1) 0 (p + 1)) (fun w q => if tk_at tx N q = 41 then some (.inr (w, q + 1)) else some (.inl q))
        else if tk_dig (tk_at tx N p) = true then some (tk_num tx N p)
        else if tk_at tx N p = 80 then some (.inr (e 0, p + 1))
        else if tk_at tx N p = 109 then some (.inr (e 1, p + 1))
        else if tk_at tx N p = 111 then some (.inr (e 2, p + 1))
        else if tk_at tx N p = 99 then some (.inr (e 3, p + 1))
        else some (.inl p)
      else if sel = 3 then
        if tk_at tx N p = 43 then tk_then (tk_par tx N e F 1 dp 0 (p + 1)) (fun w q => tk_par tx N e F 3 dp (v + w) q)
        else if tk_at tx N p = 45 then tk_then (tk_par tx N e F 1 dp 0 (p + 1)) (fun w q => tk_par tx N e F 3 dp (v - w) q)
        else some (.inr (v, p))
      else
        if tk_at tx N p = 42 then tk_then (tk_par tx N e F 2 dp 0 (p + 1)) (fun w q => tk_par tx N e F 4 dp (v * w) q)
        else if tk_at tx N p = 47 then tk_then (tk_par tx N e F 2 dp 0 (p + 1)) (fun w q => tk_par tx N e F 4 dp (if w = 0 then 0 else v / w) q)
        else some (.inr (v, p))) := rfl
    rw [eq0] at hr
    clear eq0
    have inN : ∀ z : Int, tk_at tx N p = z → z ≠ -1000 → p < N := fun z hz hne => by
      by_cases w : p < N
      · exact w
      · rw [tk_at_out (by omega)] at hz
        exact absurd hz.symm hne
    have goS : ∀ (p2 : Nat) (f : Int32 → Int32) (m7 : Nat → Nat → Int32), p2 ≤ N → rm_M m7 N B row tx → m7 84 18 = nI p2 → m7 84 21 = nI dp → tk_then (tk_par tx N e F 1 dp 0 p2) (fun w q => tk_par tx N e F 3 dp (f w) q) = some r → ∀ n, 3 * (6 - dp) + 2 ≤ n → rv_S m7 r (kv_loop (kv_u1 (fb_D_readsSum_0 (fg_C n 1))) m7) := by
      intro p2 f m7 hp2 hM7 h7 h721 hr n hn
      rw [rv_loopS]
      rcases tk_then_some hr with ⟨q, a1, a2⟩ | ⟨w, q, a1, a2⟩
      · obtain ⟨-, g, -⟩ := ih 1 dp 0 p2 _ hdp hp2 a1 m7 hM7 h7 h721
        obtain ⟨m2, x1, x2⟩ := (g rfl n hn).1 q rfl
        rw [x1, kp_b2, if_neg (by decide), a2]
        exact ⟨fun q2 e2 => by cases e2; exact ⟨m2, rfl, x2⟩, fun w q2 e2 => by (cases e2)⟩
      · obtain ⟨-, g, -⟩ := ih 1 dp 0 p2 _ hdp hp2 a1 m7 hM7 h7 h721
        obtain ⟨m2, x1, x2, x3⟩ := (g rfl n hn).2 w q rfl
        have hq := ((tk_pos hN hdp hp2 a1).2 w q rfl).2
        rw [x1, kp_b2, if_pos rfl]
        obtain ⟨-, -, -, g3, -⟩ := ih 3 dp (f w) q r hdp hq a2 m2 (rv_M hM7 x2) x2.2.2 (x3.trans h721)
        exact rv_S_tr x2 x3 (g3 rfl n hn)
    have goP : ∀ (p2 : Nat) (f : Int32 → Int32) (m7 : Nat → Nat → Int32), p2 ≤ N → rm_M m7 N B row tx → m7 84 18 = nI p2 → m7 84 21 = nI dp → tk_then (tk_par tx N e F 2 dp 0 p2) (fun w q => tk_par tx N e F 4 dp (f w) q) = some r → ∀ n, 3 * (6 - dp) + 1 ≤ n → rv_S m7 r (kv_loop (kv_u1 (fb_D_readsProduct_0 (fg_C n 2))) m7) := by
      intro p2 f m7 hp2 hM7 h7 h721 hr n hn
      rw [rv_loopP]
      rcases tk_then_some hr with ⟨q, a1, a2⟩ | ⟨w, q, a1, a2⟩
      · obtain ⟨-, -, g, -⟩ := ih 2 dp 0 p2 _ hdp hp2 a1 m7 hM7 h7 h721
        obtain ⟨m2, x1, x2⟩ := (g rfl n hn).1 q rfl
        rw [x1, kp_b2, if_neg (by decide), a2]
        exact ⟨fun q2 e2 => by cases e2; exact ⟨m2, rfl, x2⟩, fun w q2 e2 => by (cases e2)⟩
      · obtain ⟨-, -, g, -⟩ := ih 2 dp 0 p2 _ hdp hp2 a1 m7 hM7 h7 h721
        obtain ⟨m2, x1, x2, x3⟩ := (g rfl n hn).2 w q rfl
        have hq := ((tk_pos hN hdp hp2 a1).2 w q rfl).2
        rw [x1, kp_b2, if_pos rfl]
        obtain ⟨-, -, -, -, g3⟩ := ih 4 dp (f w) q r hdp hq a2 m2 (rv_M hM7 x2) x2.2.2 (x3.trans h721)
        exact rv_S_tr x2 x3 (g3 (by omega) n hn)
    have self : rv_fr m m p := ⟨fun _ _ => rfl, fun _ _ _ _ => rfl, h18⟩
    by_cases s0 : sel = 0
    · subst s0
      rw [if_pos rfl] at hr
      refine ⟨fun _ n hn => ?_, fun w => absurd w (by decide), fun w => absurd w (by decide), fun w => absurd w (by decide), fun w => absurd w (by decide)⟩
      obtain ⟨n2, rfl⟩ : ∃ n2, n = n2 + 1 := ⟨n - 1, by omega⟩
      rw [cg_0]
      exact rv_B_of_S (goS p (fun w => w) m hp hM h18 h21 hr n2 (by omega))
    rw [if_neg s0] at hr
    by_cases s1 : sel = 1
    · subst s1
      rw [if_pos rfl] at hr
      refine ⟨fun w => absurd w (by decide), fun _ n hn => ?_, fun w => absurd w (by decide), fun w => absurd w (by decide), fun w => absurd w (by decide)⟩
      obtain ⟨n2, rfl⟩ : ∃ n2, n = n2 + 1 := ⟨n - 1, by omega⟩
      rw [cg_1]
      exact rv_B_of_S (goP p (fun w => w) m hp hM h18 h21 hr n2 (by omega))
    rw [if_neg s1] at hr
    by_cases s2 : sel = 2
    · subst s2
      rw [if_pos rfl] at hr
      refine ⟨fun w => absurd w (by decide), fun w => absurd w (by decide), fun _ n hn => ?_, fun w => absurd w (by decide), fun w => absurd w (by decide)⟩
      obtain ⟨n2, rfl⟩ : ∃ n2, n = n2 + 1 := ⟨n - 1, by omega⟩
      rw [cg_2]
      have sg := rm_sign hM hp h18
      obtain ⟨nn1, nn2⟩ := rm_num hM hp h18
      have i40 := rm_s_eq (tx := tx) (N := N) p 40
      have i80 := rm_s_eq (tx := tx) (N := N) p 80
      have i109 := rm_s_eq (tx := tx) (N := N) p 109
      have i111 := rm_s_eq (tx := tx) (N := N) p 111
      have i99 := rm_s_eq (tx := tx) (N := N) p 99
      rw [show (40 : Int32).toInt = 40 by decide] at i40
      rw [show (80 : Int32).toInt = 80 by decide] at i80
      rw [show (109 : Int32).toInt = 109 by decide] at i109
      rw [show (111 : Int32).toInt = 111 by decide] at i111
      rw [show (99 : Int32).toInt = 99 by decide] at i99
      unfold fx_D_readsAtom
      rw [sg, kp_b1]
      by_cases z40 : tk_at tx N p = 40
      · rw [if_pos (i40.mpr z40), h21]
        have hlt := inN 40 z40 (by omega)
        by_cases z6 : dp < 6
        · have n6 : ¬ nI dp = (6 : Int32) := fun w => by
            have := (nI_eq (b := 6) (by omega) (by omega)).mp w
            omega
          rw [if_pos ⟨z40, z6⟩] at hr
          have e21 : kv_st m 84 18 (nI (p + 1)) 84 21 = nI dp := by rw [kp_st, if_neg (by omega)]; exact h21
          rw [if_neg n6, h18, nI_1, kp_let, e21, nI_1, kp_let]
          have f8 : rv_fr m (kv_st (kv_st m 84 18 (nI (p + 1))) 84 21 (nI (dp + 1))) (p + 1) := ⟨fun r hr => by rw [kp_st_ne hr, kp_st_ne hr], fun j a b _ => by rw [kp_st, if_neg (fun w => b w.2), kp_st, if_neg (fun w => a w.2)], by rw [kp_st, if_neg (by omega), kp_st, if_pos ⟨rfl, rfl⟩]⟩
          have m8 := rv_M hM f8
          rcases tk_then_some hr with ⟨q, a1, a2⟩ | ⟨w, q, a1, a2⟩
          · obtain ⟨g, -⟩ := ih 0 (dp + 1) 0 (p + 1) _ (by omega) (by omega) a1 _ m8 f8.2.2 (by rw [kp_st, if_pos ⟨rfl, rfl⟩])
            obtain ⟨m2, x1, x2⟩ := (g rfl n2 (by omega)).1 q rfl
            rw [x1, kp_b2, if_neg (by decide), a2]
            exact ⟨fun q2 e2 => by cases e2; exact ⟨m2, rfl, rv_tr f8 x2⟩, fun w q2 e2 => by (cases e2)⟩
          · obtain ⟨g, -⟩ := ih 0 (dp + 1) 0 (p + 1) _ (by omega) (by omega) a1 _ m8 f8.2.2 (by rw [kp_st, if_pos ⟨rfl, rfl⟩])
            obtain ⟨m2, x1, x2, x3⟩ := (g rfl n2 (by omega)).2 w q rfl
            have hq := ((tk_pos hN (show dp + 1 ≤ 6 by omega) (show p + 1 ≤ N by omega) a1).2 w q rfl).2
            rw [kp_st, if_pos ⟨rfl, rfl⟩] at x3
            have tk := rm_takes (rv_M m8 x2) hq x2.2.2 41
            rw [show (41 : Int32).toInt = 41 by decide] at tk
            rw [x1, kp_b2, if_pos rfl, tk]
            by_cases z41 : tk_at tx N q = 41
            · rw [if_pos z41, kp_b2, if_pos rfl]
              rw [if_pos z41] at a2
              cases a2
              refine ⟨fun q2 e2 => by (cases e2), fun w2 q2 e2 => ?_⟩
              cases e2
              have e5 : kv_st m2 84 18 (nI (q + 1)) 84 21 = nI (dp + 1) := by rw [kp_st, if_neg (by omega)]; exact x3
              rw [e5, nI_pred, kp_let]
              refine ⟨_, rfl, rv_tr (rv_tr f8 x2) (rv_tr (rv_pos m2 (q + 1)).1 ⟨fun r hr => kp_st_ne hr, fun j _ b _ => by rw [kp_st, if_neg (fun w => b w.2)], by rw [kp_st, if_neg (by omega), kp_st, if_pos ⟨rfl, rfl⟩]⟩), by rw [kp_st, if_pos ⟨rfl, rfl⟩]; exact h21.symm⟩
            · rw [if_neg z41, kp_b2, if_neg (by decide)]
              rw [if_neg z41] at a2
              cases a2
              exact ⟨fun q2 e2 => by cases e2; exact ⟨m2, rfl, rv_tr f8 x2⟩, fun w q2 e2 => by (cases e2)⟩
        · have y6 : nI dp = (6 : Int32) := by
            have : dp = 6 := by omega
            rw [this]; rfl
          rw [if_neg (fun w => z6 w.2), if_neg (by rw [z40]; decide), if_neg (by rw [z40]; omega), if_neg (by rw [z40]; omega), if_neg (by rw [z40]; omega), if_neg (by rw [z40]; omega)] at hr
          cases hr
          rw [if_pos y6]
          exact ⟨fun q2 e2 => by cases e2; exact ⟨m, rfl, self⟩, fun w q2 e2 => by (cases e2)⟩
      rw [if_neg (fun w => z40 (i40.mp w)), kp_b1]
      rw [if_neg (fun w => z40 w.1)] at hr
      have fld : tk_at tx N p = 80 ∨ tk_at tx N p = 109 ∨ tk_at tx N p = 111 ∨ tk_at tx N p = 99 → fx_D_isField (rm_s tx N p) = some true ∧ ∃ x, r = .inr (x, p + 1) := by
        intro hf
        unfold fx_D_isField
        have nd : ¬ tk_dig (tk_at tx N p) = true := by
          rcases hf with w | w | w | w <;> (rw [w]; decide)
        rw [if_neg nd] at hr
        by_cases w1 : tk_at tx N p = 80
        · rw [if_pos w1] at hr
          rw [if_pos (i80.mpr w1)]
          cases hr
          exact ⟨rfl, _, rfl⟩
        rw [if_neg w1] at hr
        rw [if_neg (fun w => w1 (i80.mp w))]
        by_cases w2 : tk_at tx N p = 109
        · rw [if_pos w2] at hr
          rw [if_pos (i109.mpr w2)]
          cases hr
          exact ⟨rfl, _, rfl⟩
        rw [if_neg w2] at hr
        rw [if_neg (fun w => w2 (i109.mp w))]
        by_cases w3 : tk_at tx N p = 111
        · rw [if_pos w3] at hr
          rw [if_pos (i111.mpr w3)]
          cases hr
          exact ⟨rfl, _, rfl⟩
        rw [if_neg w3] at hr
        rw [if_neg (fun w => w3 (i111.mp w))]
        have w4 : tk_at tx N p = 99 := by omega
        rw [if_pos w4] at hr
        rw [if_pos (i99.mpr w4)]
        cases hr
        exact ⟨rfl, _, rfl⟩
      by_cases hf : tk_at tx N p = 80 ∨ tk_at tx N p = 109 ∨ tk_at tx N p = 111 ∨ tk_at tx N p = 99
      · obtain ⟨f1, x, f2⟩ := fld hf
        rw [f1, kp_b1, if_pos rfl, h18, nI_1, kp_let, f2]
        refine ⟨fun q2 e2 => by (cases e2), fun w2 q2 e2 => ?_⟩
        cases e2
        exact ⟨_, rfl, (rv_pos m (p + 1)).1, (rv_pos m (p + 1)).2⟩
      have f0 : fx_D_isField (rm_s tx N p) = some false := by
        unfold fx_D_isField
        rw [if_neg (fun w => hf (Or.inl (i80.mp w))), if_neg (fun w => hf (Or.inr (Or.inl (i109.mp w)))), if_neg (fun w => hf (Or.inr (Or.inr (Or.inl (i111.mp w))))), if_neg (fun w => hf (Or.inr (Or.inr (Or.inr (i99.mp w)))))]
      rw [f0, kp_b1, if_neg (by decide)]
      have hr2 : r = tk_num tx N p := by
        by_cases zd : tk_dig (tk_at tx N p) = true
        · rw [if_pos zd] at hr
          injection hr with e2
          exact e2.symm
        · rw [if_neg zd, if_neg (fun w => hf (Or.inl w)), if_neg (fun w => hf (Or.inr (Or.inl w))), if_neg (fun w => hf (Or.inr (Or.inr (Or.inl w)))), if_neg (fun w => hf (Or.inr (Or.inr (Or.inr w))))] at hr
          injection hr with e2
          unfold tk_num
          rw [if_neg zd, ← e2]
      refine ⟨fun q2 e2 => ?_, fun w2 q2 e2 => ?_⟩
      · obtain ⟨b1, b2⟩ := nn2 q2 (hr2.symm.trans e2)
        rw [b2, kp_b2, b1]
        exact ⟨m, rfl, self⟩
      · have b2 := nn1 w2 q2 (hr2.symm.trans e2)
        rw [b2, kp_b2]
        exact ⟨_, rfl, ⟨fun r hr => rm_Po w2 q2 r hr, fun j a _ d => rm_Pj w2 q2 j a d, rm_P18 w2 q2⟩, rm_Pj w2 q2 21 (by omega) (by omega)⟩
    rw [if_neg s2] at hr
    have noS : r = .inr (v, p) → rv_S m r (some (.inr m)) := fun er => by
      rw [er]
      refine ⟨fun q2 e2 => by (cases e2), fun w2 q2 e2 => ?_⟩
      cases e2
      exact ⟨m, rfl, self, rfl⟩
    have e1 := rv_pos m (p + 1)
    have M1 := rv_M hM e1.1
    by_cases s3 : sel = 3
    · subst s3
      rw [if_pos rfl] at hr
      refine ⟨fun w => absurd w (by decide), fun w => absurd w (by decide), fun w => absurd w (by decide), fun _ n hn => ?_, fun w => absurd w (by decide)⟩
      have t43 := rm_takes hM hp h18 43
      have t45 := rm_takes hM hp h18 45
      rw [show (43 : Int32).toInt = 43 by decide] at t43
      rw [show (45 : Int32).toInt = 45 by decide] at t45
      unfold rv_x
      rw [t43]
      by_cases z1 : tk_at tx N p = 43
      · rw [if_pos z1] at hr ⊢
        rw [kp_b2, if_pos rfl]
        exact rv_S_tr e1.1 e1.2 (goS (p + 1) (fun w => v + w) _ (by have := inN 43 z1 (by omega); omega) M1 e1.1.2.2 (e1.2.trans h21) hr n hn)
      rw [if_neg z1] at hr ⊢
      rw [kp_b2, if_neg (by decide), t45]
      by_cases z2 : tk_at tx N p = 45
      · rw [if_pos z2] at hr ⊢
        rw [kp_b2, if_pos rfl]
        exact rv_S_tr e1.1 e1.2 (goS (p + 1) (fun w => v - w) _ (by have := inN 45 z2 (by omega); omega) M1 e1.1.2.2 (e1.2.trans h21) hr n hn)
      rw [if_neg z2] at hr ⊢
      rw [kp_b2, if_neg (by decide)]
      exact noS (by injection hr with e2; exact e2.symm)
    rw [if_neg s3] at hr
    refine ⟨fun w => absurd w s0, fun w => absurd w s1, fun w => absurd w s2, fun w => absurd w s3, fun _ n hn => ?_⟩
    have t42 := rm_takes hM hp h18 42
    have t47 := rm_takes hM hp h18 47
    rw [show (42 : Int32).toInt = 42 by decide] at t42
    rw [show (47 : Int32).toInt = 47 by decide] at t47
    unfold rv_x
    rw [t42]
    by_cases z1 : tk_at tx N p = 42
    · rw [if_pos z1] at hr ⊢
      rw [kp_b2, if_pos rfl]
      exact rv_S_tr e1.1 e1.2 (goP (p + 1) (fun w => v * w) _ (by have := inN 42 z1 (by omega); omega) M1 e1.1.2.2 (e1.2.trans h21) hr n hn)
    rw [if_neg z1] at hr ⊢
    rw [kp_b2, if_neg (by decide), t47]
    by_cases z2 : tk_at tx N p = 47
    · rw [if_pos z2] at hr ⊢
      rw [kp_b2, if_pos rfl]
      exact rv_S_tr e1.1 e1.2 (goP (p + 1) (fun w => if w = 0 then 0 else v / w) _ (by have := inN 47 z2 (by omega); omega) M1 e1.1.2.2 (e1.2.trans h21) hr n hn)
    rw [if_neg z2] at hr ⊢
    rw [kp_b2, if_neg (by decide)]
    exact noS (by injection hr with e2; exact e2.symm)
end RW
