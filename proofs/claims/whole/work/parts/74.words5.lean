/-! ===== words: the reference's values ===== -/
section RX
variable {N B row : Nat} {tx e : Nat → Int32}
/-- what the signs P, m, o, c are worth, as long as lumps are as they are -/
def rm_E (m : Nat → Nat → Int32) (e : Nat → Int32) : Prop := ∀ m2 : Nat → Nat → Int32, m2 85 = m 85 → (∃ v9, fx_D_primeOf m2 = some v9 ∧ ((¬ 0 ≤ v9 ∧ e 0 = 0) ∨ (0 ≤ v9 ∧ fx_D_get v9 3 m2 = some (e 0)))) ∧ fx_D_meanOf 2 2 m2 = some (e 1) ∧ fx_D_meanOf 7 7 m2 = some (e 2) ∧ fx_D_meanOf 3 4 m2 = some (e 3)
theorem og_0 (n : Nat) (m : Nat → Nat → Int32) : fg_O (n + 1) 0 m = fx_D_sumOf (fg_O n 1) m := rfl
theorem og_1 (n : Nat) (m : Nat → Nat → Int32) : fg_O (n + 1) 1 m = fx_D_product (fg_O n 2) m := rfl
theorem og_2 (n : Nat) (m : Nat → Nat → Int32) : fg_O (n + 1) 2 m = fx_D_atom (fg_O n 0) m := rfl
theorem re_main : ∀ F sel dp v p w q, dp ≤ 6 → p ≤ N → tk_par tx N e F sel dp v p = some (.inr (w, q)) → ∀ m : Nat → Nat → Int32, rm_M m N B row tx → rm_E m e → m 84 18 = nI p → (sel = 0 → ∀ n, 3 * (6 - dp) + 3 ≤ n → ∃ m2, fg_O n 0 m = some (w, m2) ∧ rv_fr m m2 q) ∧ (sel = 1 → ∀ n, 3 * (6 - dp) + 2 ≤ n → ∃ m2, fg_O n 1 m = some (w, m2) ∧ rv_fr m m2 q) ∧ (sel = 2 → ∀ n, 3 * (6 - dp) + 1 ≤ n → ∃ m2, fg_O n 2 m = some (w, m2) ∧ rv_fr m m2 q) ∧ (sel = 3 → ∀ n, 3 * (6 - dp) + 2 ≤ n → ∃ m2, kv_loop (kv_u2 (fb_D_sumOf_5 (fg_O n 1))) (v, m) = some (w, m2) ∧ rv_fr m m2 q) ∧ (4 ≤ sel → ∀ n, 3 * (6 - dp) + 1 ≤ n → ∃ m2, kv_loop (kv_u2 (fb_D_product_5 (fg_O n 2))) (v, m) = some (w, m2) ∧ rv_fr m m2 q) := by
  intro F
  induction F with
  | zero => intro sel dp v p w q _ _ hr; cases hr
  | succ F ih =>
    intro sel dp v p w q hdp hp hr m hM hE h18
    have hN := hM.2.1
    have eq0 : tk_par tx N e (F + 1) sel dp v p = (if sel = 0 then tk_then (tk_par tx N e F 1 dp 0 p) (fun w q => tk_par tx N e F 3 dp w q)
      else if sel = 1 then tk_then (tk_par tx N e F 2 dp 0 p) (fun w q => tk_par tx N e F 4 dp w q)
      else if sel = 2 then
        if tk_at tx N p = 40 ∧ dp < 6 then tk_then (tk_par tx N e F 0 (dp + 1) 0 (p + 1)) (fun w q => if tk_at tx N q = 41 then some (.inr (w, q + 1)) else some (.inl q))
        else if tk_dig (tk_at tx N p) = true then some (tk_num tx N p)
        else if tk_at tx N p = 80 then some (.inr (e 0, p + 1))
        else if tk_at tx N p = 109 then some (.inr (e 1, p + 1))
        else if tk_at tx N p = 111 then some (.inr (e 2, p + 1))
        else if tk_at tx N p = 99 then some (.inr (e 3, p + 1))
        else some (.inl p)
      else if sel = 3 then
        if tk_at tx N p = 43 then tk_then (tk_par tx N e F 1 dp 0 (p + 1)) (fun w q => tk_par tx N e F 3 dp (v + w) q)
        else if tk_at tx N p = 45 then tk_then (tk_par tx N e F 1 dp 0 (p + 1)) (fun w q => tk_par tx N e F 3 dp (v - w) q)
        else some (.inr (v, p))
      else
        if tk_at tx N p = 42 then tk_then (tk_par tx N e F 2 dp 0 (p + 1)) (fun w q => tk_par tx N e F 4 dp (v * w) q)
        else if tk_at tx N p = 47 then tk_then (tk_par tx N e F 2 dp 0 (p + 1)) (fun w q => tk_par tx N e F 4 dp (if w = 0 then 0 else v / w) q)
        else some (.inr (v, p))) := rfl
    rw [eq0] at hr
    clear eq0
    have inN : ∀ z : Int, tk_at tx N p = z → z ≠ -1000 → p < N := fun z hz hne => by
      by_cases w : p < N
      · exact w
      · rw [tk_at_out (by omega)] at hz
        exact absurd hz.symm hne
    have Efr : ∀ {m2 : Nat → Nat → Int32} {q2 : Nat}, rv_fr m m2 q2 → rm_E m2 e := fun hf m3 h3 => hE m3 (by rw [h3, hf.1 85 (by omega)])
    have self : rv_fr m m p := ⟨fun _ _ => rfl, fun _ _ _ _ => rfl, h18⟩
    have sg := rm_sign hM hp h18
    have e1 := rv_pos m (p + 1)
    have M1 := rv_M hM e1.1
    have E1 := Efr e1.1
    by_cases s0 : sel = 0
    · subst s0
      rw [if_pos rfl] at hr
      refine ⟨fun _ n hn => ?_, fun w => absurd w (by decide), fun w => absurd w (by decide), fun w => absurd w (by decide), fun w => absurd w (by decide)⟩
      obtain ⟨n2, rfl⟩ : ∃ n2, n = n2 + 1 := ⟨n - 1, by omega⟩
      rw [og_0]
      rcases tk_then_some hr with ⟨q0, a1, a2⟩ | ⟨w0, q0, a1, a2⟩
      · cases a2
      · obtain ⟨-, g, -⟩ := ih 1 dp 0 p _ _ hdp hp a1 m hM hE h18
        obtain ⟨m2, x1, x2⟩ := g rfl n2 (by omega)
        have hq := ((tk_pos hN hdp hp a1).2 w0 q0 rfl).2
        obtain ⟨-, -, -, g3, -⟩ := ih 3 dp w0 q0 _ _ hdp hq a2 m2 (rv_M hM x2) (Efr x2) x2.2.2
        obtain ⟨m3, y1, y2⟩ := g3 rfl n2 (by omega)
        unfold fx_D_sumOf
        rw [x1, kp_b2, y1, kp_sb2]
        exact ⟨m3, rfl, rv_tr x2 y2⟩
    rw [if_neg s0] at hr
    by_cases s1 : sel = 1
    · subst s1
      rw [if_pos rfl] at hr
      refine ⟨fun w => absurd w (by decide), fun _ n hn => ?_, fun w => absurd w (by decide), fun w => absurd w (by decide), fun w => absurd w (by decide)⟩
      obtain ⟨n2, rfl⟩ : ∃ n2, n = n2 + 1 := ⟨n - 1, by omega⟩
      rw [og_1]
      rcases tk_then_some hr with ⟨q0, a1, a2⟩ | ⟨w0, q0, a1, a2⟩
      · cases a2
      · obtain ⟨-, -, g, -⟩ := ih 2 dp 0 p _ _ hdp hp a1 m hM hE h18
        obtain ⟨m2, x1, x2⟩ := g rfl n2 (by omega)
        have hq := ((tk_pos hN hdp hp a1).2 w0 q0 rfl).2
        obtain ⟨-, -, -, -, g3⟩ := ih 4 dp w0 q0 _ _ hdp hq a2 m2 (rv_M hM x2) (Efr x2) x2.2.2
        obtain ⟨m3, y1, y2⟩ := g3 (by omega) n2 (by omega)
        unfold fx_D_product
        rw [x1, kp_b2, y1, kp_sb2]
        exact ⟨m3, rfl, rv_tr x2 y2⟩
    rw [if_neg s1] at hr
    by_cases s2 : sel = 2
    · subst s2
      rw [if_pos rfl] at hr
      refine ⟨fun w => absurd w (by decide), fun w => absurd w (by decide), fun _ n hn => ?_, fun w => absurd w (by decide), fun w => absurd w (by decide)⟩
      obtain ⟨n2, rfl⟩ : ∃ n2, n = n2 + 1 := ⟨n - 1, by omega⟩
      rw [og_2]
      obtain ⟨nn1, nn2⟩ := rm_num hM hp h18
      have i40 := rm_s_eq (tx := tx) (N := N) p 40
      have i80 := rm_s_eq (tx := tx) (N := N) p 80
      have i109 := rm_s_eq (tx := tx) (N := N) p 109
      have i111 := rm_s_eq (tx := tx) (N := N) p 111
      rw [show (40 : Int32).toInt = 40 by decide] at i40
      rw [show (80 : Int32).toInt = 80 by decide] at i80
      rw [show (109 : Int32).toInt = 109 by decide] at i109
      rw [show (111 : Int32).toInt = 111 by decide] at i111
      unfold fx_D_atom
      rw [sg, kp_b1, rm_isdig, kp_b1]
      have h89 : kv_st m 84 18 (nI (p + 1)) 85 = m 85 := e1.1.1 85 (by omega)
      obtain ⟨⟨v9, p1, p2⟩, p3, p4, p5⟩ := hE _ h89
      by_cases z40 : tk_at tx N p = 40
      · have nd : ¬ tk_dig (tk_at tx N p) = true := by rw [z40]; decide
        have hlt := inN 40 z40 (by omega)
        rw [if_neg nd, h18, nI_1, kp_let, if_pos (i40.mpr z40)]
        by_cases z6 : dp < 6
        · rw [if_pos ⟨z40, z6⟩] at hr
          rcases tk_then_some hr with ⟨q0, a1, a2⟩ | ⟨w0, q0, a1, a2⟩
          · cases a2
          · obtain ⟨g, -⟩ := ih 0 (dp + 1) 0 (p + 1) _ _ (by omega) (by omega) a1 _ M1 E1 e1.1.2.2
            obtain ⟨m2, x1, x2⟩ := g rfl n2 (by omega)
            by_cases z41 : tk_at tx N q0 = 41
            · rw [if_pos z41] at a2
              cases a2
              rw [x1, kp_b2, x2.2.2, nI_1, kp_let]
              exact ⟨_, rfl, rv_tr (rv_tr e1.1 x2) (rv_pos m2 (q0 + 1)).1⟩
            · rw [if_neg z41] at a2
              cases a2
        · rw [if_neg (fun w => z6 w.2), if_neg nd, if_neg (by rw [z40]; omega), if_neg (by rw [z40]; omega), if_neg (by rw [z40]; omega), if_neg (by rw [z40]; omega)] at hr
          cases hr
      rw [if_neg (fun w => z40 w.1)] at hr
      by_cases zd : tk_dig (tk_at tx N p) = true
      · rw [if_pos zd] at hr
        have hr2 : tk_num tx N p = .inr (w, q) := by injection hr
        have b2 := nn1 w q hr2
        rw [if_pos zd, b2, kp_b2, kp_let, rm_P22]
        exact ⟨_, rfl, ⟨fun r hr => rm_Po w q r hr, fun j a _ d => rm_Pj w q j a d, rm_P18 w q⟩⟩
      rw [if_neg zd] at hr ⊢
      rw [h18, nI_1, kp_let, if_neg (fun w => z40 (i40.mp w))]
      by_cases z80 : tk_at tx N p = 80
      · rw [if_pos z80] at hr
        cases hr
        rw [if_pos (i80.mpr z80), p1, kp_b1]
        rcases p2 with ⟨y1, y2⟩ | ⟨y1, y2⟩
        · rw [if_neg y1]
          exact ⟨_, by rw [y2], e1.1⟩
        · rw [if_pos y1, kp_b1, y2, kp_b1]
          exact ⟨_, rfl, e1.1⟩
      rw [if_neg z80] at hr
      rw [if_neg (fun w => z80 (i80.mp w))]
      by_cases z109 : tk_at tx N p = 109
      · rw [if_pos z109] at hr
        cases hr
        rw [if_pos (i109.mpr z109), p3, kp_b1]
        exact ⟨_, rfl, e1.1⟩
      rw [if_neg z109] at hr
      rw [if_neg (fun w => z109 (i109.mp w))]
      by_cases z111 : tk_at tx N p = 111
      · rw [if_pos z111] at hr
        cases hr
        rw [if_pos (i111.mpr z111), p4, kp_b1]
        exact ⟨_, rfl, e1.1⟩
      rw [if_neg z111] at hr
      rw [if_neg (fun w => z111 (i111.mp w))]
      by_cases z99 : tk_at tx N p = 99
      · rw [if_pos z99] at hr
        cases hr
        rw [p5, kp_b1]
        exact ⟨_, rfl, e1.1⟩
      rw [if_neg z99] at hr
      cases hr
    rw [if_neg s2] at hr
    by_cases s3 : sel = 3
    · subst s3
      rw [if_pos rfl] at hr
      refine ⟨fun w => absurd w (by decide), fun w => absurd w (by decide), fun w => absurd w (by decide), fun _ n hn => ?_, fun w => absurd w (by decide)⟩
      have i43 := rm_s_eq (tx := tx) (N := N) p 43
      have i45 := rm_s_eq (tx := tx) (N := N) p 45
      rw [show (43 : Int32).toInt = 43 by decide] at i43
      rw [show (45 : Int32).toInt = 45 by decide] at i45
      have step : ∀ (f : Int32 → Int32), p < N → (tk_at tx N p = 43 ∨ tk_at tx N p = 45) → (∀ x, f x = if rm_s tx N p = 43 then v + x else v - x) → tk_then (tk_par tx N e F 1 dp 0 (p + 1)) (fun w q => tk_par tx N e F 3 dp (f w) q) = some (.inr (w, q)) → ∃ m2, kv_loop (kv_u2 (fb_D_sumOf_5 (fg_O n 1))) (v, m) = some (w, m2) ∧ rv_fr m m2 q := by
        intro f hlt hs hf hr
        rcases tk_then_some hr with ⟨q0, a1, a2⟩ | ⟨w0, q0, a1, a2⟩
        · cases a2
        obtain ⟨-, g, -⟩ := ih 1 dp 0 (p + 1) _ _ hdp (by omega) a1 _ M1 E1 e1.1.2.2
        obtain ⟨m2, x1, x2⟩ := g rfl n hn
        have hq := ((tk_pos hN hdp (show p + 1 ≤ N by omega) a1).2 w0 q0 rfl).2
        have f2 := rv_tr e1.1 x2
        obtain ⟨-, -, -, g3, -⟩ := ih 3 dp (f w0) q0 _ _ hdp hq a2 m2 (rv_M hM f2) (Efr f2) f2.2.2
        obtain ⟨m3, y1, y2⟩ := g3 rfl n hn
        have J : fj_D_sumOf_23 (fg_O n 1) m v = some (.inl (f w0, m2)) := by
          unfold fj_D_sumOf_23 fj_D_sumOf_58
          rw [sg, kp_b1, h18, nI_1, kp_let, x1, kp_b2, hf]
          split <;> rfl
        have K : kv_u2 (fb_D_sumOf_5 (fg_O n 1)) (v, m) = some (.inl (f w0, m2)) := by
          show fb_D_sumOf_5 (fg_O n 1) v m = _
          unfold fb_D_sumOf_5
          rw [sg, kp_b1]
          by_cases z : tk_at tx N p = 43
          · rw [if_pos (i43.mpr z), J]
          · rw [if_neg (fun w => z (i43.mp w)), kp_b1, if_pos (i45.mpr (hs.resolve_left z)), J]
        rw [kp_step K, y1]
        exact ⟨m3, rfl, rv_tr f2 y2⟩
      by_cases z1 : tk_at tx N p = 43
      · rw [if_pos z1] at hr
        exact step (fun x => v + x) (inN 43 z1 (by omega)) (Or.inl z1) (fun x => by rw [if_pos (i43.mpr z1)]) hr
      rw [if_neg z1] at hr
      by_cases z2 : tk_at tx N p = 45
      · rw [if_pos z2] at hr
        exact step (fun x => v - x) (inN 45 z2 (by omega)) (Or.inr z2) (fun x => by rw [if_neg (fun w => z1 (i43.mp w))]) hr
      rw [if_neg z2] at hr
      cases hr
      refine ⟨m, kp_stop ?_, self⟩
      show fb_D_sumOf_5 (fg_O n 1) v m = _
      unfold fb_D_sumOf_5
      rw [sg, kp_b1, if_neg (fun w => z1 (i43.mp w)), kp_b1, if_neg (fun w => z2 (i45.mp w))]
    rw [if_neg s3] at hr
    refine ⟨fun w => absurd w s0, fun w => absurd w s1, fun w => absurd w s2, fun w => absurd w s3, fun _ n hn => ?_⟩
    have i42 := rm_s_eq (tx := tx) (N := N) p 42
    have i47 := rm_s_eq (tx := tx) (N := N) p 47
    rw [show (42 : Int32).toInt = 42 by decide] at i42
    rw [show (47 : Int32).toInt = 47 by decide] at i47
    have step : ∀ (f : Int32 → Int32), p < N → (tk_at tx N p = 42 ∨ tk_at tx N p = 47) → (∀ x, f x = if rm_s tx N p = 42 then v * x else if x = 0 then 0 else v / x) → tk_then (tk_par tx N e F 2 dp 0 (p + 1)) (fun w q => tk_par tx N e F 4 dp (f w) q) = some (.inr (w, q)) → ∃ m2, kv_loop (kv_u2 (fb_D_product_5 (fg_O n 2))) (v, m) = some (w, m2) ∧ rv_fr m m2 q := by
      intro f hlt hs hf hr
      rcases tk_then_some hr with ⟨q0, a1, a2⟩ | ⟨w0, q0, a1, a2⟩
      · cases a2
      obtain ⟨-, -, g, -⟩ := ih 2 dp 0 (p + 1) _ _ hdp (by omega) a1 _ M1 E1 e1.1.2.2
      obtain ⟨m2, x1, x2⟩ := g rfl n hn
      have hq := ((tk_pos hN hdp (show p + 1 ≤ N by omega) a1).2 w0 q0 rfl).2
      have f2 := rv_tr e1.1 x2
      obtain ⟨-, -, -, -, g3⟩ := ih 4 dp (f w0) q0 _ _ hdp hq a2 m2 (rv_M hM f2) (Efr f2) f2.2.2
      obtain ⟨m3, y1, y2⟩ := g3 (by omega) n hn
      have J : fj_D_product_23 (fg_O n 2) m v = some (.inl (f w0, m2)) := by
        unfold fj_D_product_23 fj_D_product_66
        rw [sg, kp_b1, h18, nI_1, kp_let, x1, kp_b2, hf]
        by_cases c1 : rm_s tx N p = 42
        · rw [if_pos c1, if_pos c1]
        · rw [if_neg c1, if_neg c1]
          by_cases c2 : w0 = 0
          · rw [if_pos c2, if_pos c2]
          · rw [if_neg c2, if_neg c2, if_neg c2]
      have K : kv_u2 (fb_D_product_5 (fg_O n 2)) (v, m) = some (.inl (f w0, m2)) := by
        show fb_D_product_5 (fg_O n 2) v m = _
        unfold fb_D_product_5
        rw [sg, kp_b1]
        by_cases z : tk_at tx N p = 42
        · rw [if_pos (i42.mpr z), J]
        · rw [if_neg (fun w => z (i42.mp w)), kp_b1, if_pos (i47.mpr (hs.resolve_left z)), J]
      rw [kp_step K, y1]
      exact ⟨m3, rfl, rv_tr f2 y2⟩
    by_cases z1 : tk_at tx N p = 42
    · rw [if_pos z1] at hr
      exact step (fun x => v * x) (inN 42 z1 (by omega)) (Or.inl z1) (fun x => by rw [if_pos (i42.mpr z1)]) hr
    rw [if_neg z1] at hr
    by_cases z2 : tk_at tx N p = 47
    · rw [if_pos z2] at hr
      exact step (fun x => if x = 0 then 0 else v / x) (inN 47 z2 (by omega)) (Or.inr z2) (fun x => by rw [if_neg (fun w => z1 (i42.mp w))]) hr
    rw [if_neg z2] at hr
    cases hr
    refine ⟨m, kp_stop ?_, self⟩
    show fb_D_product_5 (fg_O n 2) v m = _
    unfold fb_D_product_5
    rw [sg, kp_b1, if_neg (fun w => z1 (i42.mp w)), kp_b1, if_neg (fun w => z2 (i47.mp w))]
end RX
