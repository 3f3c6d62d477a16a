/-! ===== words: statements, read by the reference ===== -/
section RT
variable {N B row : Nat} {tx e : Nat → Int32} {m : Nat → Nat → Int32}
def rw_fr (m m2 : Nat → Nat → Int32) (q : Nat) : Prop := (∀ r, r ≠ 84 → m2 r = m r) ∧ (∀ j, j ≠ 18 → j ≠ 21 → j ≠ 22 → j ≠ 24 → m2 84 j = m 84 j) ∧ m2 84 18 = nI q
theorem rw_of {m2 : Nat → Nat → Int32} {q : Nat} (h : rv_fr m m2 q) : rw_fr m m2 q := ⟨h.1, fun j a b d _ => h.2.1 j a b d, h.2.2⟩
theorem rw_tr {m2 m3 : Nat → Nat → Int32} {q q2 : Nat} (h1 : rw_fr m m2 q) (h2 : rw_fr m2 m3 q2) : rw_fr m m3 q2 := ⟨fun r hr => by rw [h2.1 r hr, h1.1 r hr], fun j a b d f => by rw [h2.2.1 j a b d f, h1.2.1 j a b d f], h2.2.2⟩
theorem rw_M {m2 : Nat → Nat → Int32} {q : Nat} (h : rm_M m N B row tx) (hf : rw_fr m m2 q) : rm_M m2 N B row tx := by
  obtain ⟨h1, h2, h3, h4, h5, h6⟩ := h
  have hr : row ≠ 84 := by rcases h1 with ⟨rfl, -⟩ | ⟨rfl, -⟩ <;> omega
  exact ⟨h1, h2, by rw [hf.2.1 20 (by omega) (by omega) (by omega) (by omega)]; exact h3, by rw [hf.2.1 19 (by omega) (by omega) (by omega) (by omega)]; exact h4, by rw [hf.2.1 23 (by omega) (by omega) (by omega) (by omega)]; exact h5, fun i hi => by rw [hf.1 row hr]; exact h6 i hi⟩
theorem at_lt {p : Nat} {z : Int} (h : tk_at tx N p = z) (hz : z ≠ -1000) : p < N := by
  by_cases x : p < N
  · exact x
  · rw [tk_at_out (by omega)] at h
    exact absurd h.symm hz
theorem rt_stm {p n : Nat} {z : Nat ⊕ (Int32 × Int32 × Nat)} (hM : rm_M m N B row tx) (h18 : m 84 18 = nI p) (hp : p ≤ N) (hz : tk_stm tx N e n p = some z) : (∀ q, z = .inl q → ∃ m2, fx_D_readsStatement m = some (false, m2) ∧ rw_fr m m2 q) ∧ ∀ y w q, z = .inr (y, w, q) → ∃ m2, fx_D_readsStatement m = some (true, m2) ∧ rw_fr m m2 q ∧ m2 84 24 = y := by
  have hN := hM.2.1
  obtain ⟨n1, n2⟩ := rm_num hM hp h18
  have e58 : (58 : Int32).toInt = 58 := ki_58
  have e59 : (59 : Int32).toInt = 59 := ki_59
  have self : rw_fr m m p := ⟨fun _ _ => rfl, fun _ _ _ _ _ => rfl, h18⟩
  unfold fx_D_readsStatement
  have mid : ∀ y q, fx_D_readsNumber m = some (true, rm_P m y q) → q ≤ N → ∃ m4, kv_st (kv_st (rm_P m y q) 84 24 ((rm_P m y q) 84 22)) 84 21 0 = m4 ∧ rw_fr m m4 q ∧ m4 84 21 = nI 0 ∧ m4 84 24 = y := by
    intro y q _ _
    refine ⟨_, rfl, ⟨fun r hr => by rw [kp_st_ne hr, kp_st_ne hr, rm_Po y q r hr], fun j a b d f => by rw [kp_st, if_neg (fun x => b x.2), kp_st, if_neg (fun x => f x.2), rm_Pj y q j a d], by rw [kp_st, if_neg (by omega), kp_st, if_neg (by omega), rm_P18]⟩, by rw [kp_st, if_pos ⟨rfl, rfl⟩]; rfl, by rw [kp_st, if_neg (by omega), kp_st, if_pos ⟨rfl, rfl⟩, rm_P22]⟩
  rcases tk_stm_or hz with ⟨q, a1, rfl⟩ | ⟨y, q, a1, ho⟩
  · obtain ⟨b1, b2⟩ := n2 q a1
    refine ⟨fun q0 e0 => ?_, fun y w q0 e0 => by (cases e0)⟩
    cases e0
    rw [b2, kp_b2, if_neg (by decide)]
    exact ⟨m, rfl, by rw [b1]; exact self⟩
  have b2 := n1 y q a1
  have hq : q ≤ N := by
    have hR : rd_R (fun q j => if q = 76 then tx j else if j = 1 then nI N else if j = 3 then -1 else e (j - 9)) N tx e := ⟨hN, rfl, rfl, fun i _ => rfl, rfl, rfl, rfl, rfl⟩
    exact ((rd_num hR hp).1 y q a1).1.2
  obtain ⟨m4, c1, c2, c3, c4⟩ := mid y q b2 hq
  have tk := rm_takes (rw_M hM c2) hq c2.2.2 58
  rw [e58] at tk
  rw [b2, kp_b2, if_pos rfl, kp_let, kp_let, c1, tk]
  rcases ho with ⟨a2, rfl⟩ | ⟨a2, ho⟩
  · rw [if_neg a2, kp_b2, if_neg (by decide)]
    refine ⟨fun q0 e0 => ?_, fun y w q0 e0 => by (cases e0)⟩
    cases e0
    exact ⟨m4, rfl, c2⟩
  have hlt := at_lt a2 (by omega)
  have p5 := rv_pos m4 (q + 1)
  have M5 := rw_M (rw_M hM c2) (rw_of p5.1)
  have c5 := rw_tr c2 (rw_of p5.1)
  rw [if_pos a2, kp_b2, if_pos rfl]
  rcases ho with ⟨q2, a3, rfl⟩ | ⟨w, q2, a3, ho⟩
  · obtain ⟨g, -⟩ := rv_main n 0 0 0 (q + 1) _ (by omega) (by omega) a3 _ M5 p5.1.2.2 (p5.2.trans c3)
    obtain ⟨m6, x1, x2⟩ := (g rfl 24 (by omega)).1 q2 rfl
    rw [x1, kp_b2, if_neg (by decide)]
    refine ⟨fun q0 e0 => ?_, fun y w q0 e0 => by (cases e0)⟩
    cases e0
    exact ⟨m6, rfl, rw_tr c5 (rw_of x2)⟩
  obtain ⟨g, -⟩ := rv_main n 0 0 0 (q + 1) _ (by omega) (by omega) a3 _ M5 p5.1.2.2 (p5.2.trans c3)
  obtain ⟨m6, x1, x2, -⟩ := (g rfl 24 (by omega)).2 w q2 rfl
  have hq2 := ((tk_pos hN (by omega) (show q + 1 ≤ N by omega) a3).2 w q2 rfl).2
  have c6 := rw_tr c5 (rw_of x2)
  have tk2 := rm_takes (rw_M hM c6) hq2 x2.2.2 59
  rw [e59] at tk2
  rw [x1, kp_b2, if_pos rfl, tk2]
  rcases ho with ⟨a4, rfl⟩ | ⟨a4, rfl⟩
  · rw [if_neg a4, kp_b2, if_neg (by decide)]
    refine ⟨fun q0 e0 => ?_, fun y w q0 e0 => by (cases e0)⟩
    cases e0
    exact ⟨m6, rfl, c6⟩
  · rw [if_pos a4, kp_b2, if_pos rfl]
    refine ⟨fun q0 e0 => by (cases e0), fun y0 w0 q0 e0 => ?_⟩
    cases e0
    have p7 := rv_pos m6 (q2 + 1)
    refine ⟨_, rfl, rw_tr c6 (rw_of p7.1), ?_⟩
    rw [p7.1.2.1 24 (by omega) (by omega) (by omega), x2.2.1 24 (by omega) (by omega) (by omega), p5.1.2.1 24 (by omega) (by omega) (by omega)]
    exact c4
def rt_w (x : Int32) (wr : Option Nat) : Prop := (wr = none ∧ x = -4) ∨ ∃ q, wr = some q ∧ x = nI q ∧ q < 1000
theorem rt_all {now : Int} : ∀ n p st hf hv wr r (xw : Int32) (m : Nat → Nat → Int32), tk_all tx N e now n p st hf hv wr = some r → rm_M m N B row tx → m 84 18 = nI p → p ≤ N → rt_w xw wr → ∃ z, kv_loop (kv_u3 fb_D_reads_36) (nI st, xw, m) = some z ∧ (∀ q, r = .inl q → ∃ m2, z = .inl m2 ∧ rw_fr m m2 q) ∧ ∀ st2 hv2 wr2, r = .inr (st2, hv2, wr2) → ∃ xw2 m2 q, z = .inr (nI st2, xw2, m2) ∧ rw_fr m m2 q ∧ rt_w xw2 wr2 := by
  intro n
  induction n with
  | zero => intro p st hf hv wr r xw m h; cases h
  | succ n ih =>
    intro p st hf hv wr r xw m h hM h18 hp hw
    have hN := hM.2.1
    rw [tk_all_s] at h
    cases hz : tk_stm tx N e n p with
    | none => rw [hz] at h; cases h
    | some z =>
      rw [hz] at h
      obtain ⟨g1, g2⟩ := rt_stm hM h18 hp hz
      cases z with
      | inl q =>
        have h : some (Sum.inl q) = some r := h
        injection h with h
        obtain ⟨m2, x1, x2⟩ := g1 q rfl
        refine ⟨.inl m2, kp_stop ?_, fun q0 e0 => ?_, fun a b d e0 => by (rw [← h] at e0; cases e0)⟩
        · show fb_D_reads_36 (nI st) xw m = _
          unfold fb_D_reads_36
          rw [x1, kp_let, kp_b2, if_neg (by decide)]
        · rw [← h] at e0
          cases e0
          exact ⟨m2, rfl, x2⟩
      | inr a =>
        obtain ⟨y, w, q⟩ := a
        obtain ⟨m2, x1, x2, x3⟩ := g2 y w q rfl
        have h : (if q < N then tk_all tx N e now n q (st + 1) (if y.toInt ≤ now ∧ hf ≤ y.toInt then y.toInt else hf) (if y.toInt ≤ now ∧ hf ≤ y.toInt then w else hv) (if wr = none ∧ 140 < y.toInt then some p else wr) else some (.inr (st + 1, (if y.toInt ≤ now ∧ hf ≤ y.toInt then w else hv), (if wr = none ∧ 140 < y.toInt then some p else wr)))) = some r := h
        have hq : q ≤ N := by
          rcases tk_stm_or hz with ⟨_, _, c⟩ | ⟨y', q', _, ⟨_, c⟩ | ⟨_, ⟨_, _, c⟩ | ⟨w', q2', _, ⟨_, c⟩ | ⟨a4, c⟩⟩⟩⟩
          · cases c
          · cases c
          · cases c
          · cases c
          · cases c
            have := at_lt a4 (by omega)
            omega
        have R1 : rm_M m2 N B row tx := rw_M hM x2
        have e20 : m2 84 20 = nI N := R1.2.2.1
        have step : ∃ xw2, rt_w xw2 (if wr = none ∧ 140 < y.toInt then some p else wr) ∧ kv_u3 fb_D_reads_36 (nI st, xw, m) = (if q < N then some (.inl (nI (st + 1), xw2, m2)) else some (.inr (.inr (nI (st + 1), xw2, m2)))) := by
          have J : ∀ x : Int32, fj_D_reads_75 m2 (nI st) x = (if q < N then some (.inl (nI (st + 1), x, m2)) else some (.inr (.inr (nI (st + 1), x, m2)))) := by
            intro x
            unfold fj_D_reads_75
            rw [x2.2.2, e20, nI_1]
            by_cases zq : q < N
            · rw [if_pos (nI_lt zq (by omega)), if_pos zq]
            · rw [if_neg (nI_nlt (by omega) (by omega)), if_neg zq]
          have k140 : (140 : Int32).toInt = 140 := ki_140
          by_cases y1 : y ≤ 140
          · refine ⟨xw, ?_, ?_⟩
            · rw [kp_le, k140] at y1
              rw [if_neg (by omega)]
              exact hw
            · show fb_D_reads_36 (nI st) xw m = _
              unfold fb_D_reads_36
              rw [kp_let, x1, kp_b2, if_pos rfl, x3, if_pos y1, J]
          · rcases hw with ⟨rfl, rfl⟩ | ⟨qq, rfl, rfl, hqq⟩
            · refine ⟨nI p, ?_, ?_⟩
              · rw [kp_le, k140] at y1
                rw [if_pos ⟨rfl, by omega⟩]
                exact Or.inr ⟨p, rfl, rfl, by omega⟩
              · show fb_D_reads_36 (nI st) (-4) m = _
                unfold fb_D_reads_36
                rw [kp_let, x1, kp_b2, if_pos rfl, x3, if_neg y1, if_neg (by decide), h18, J]
            · refine ⟨nI qq, ?_, ?_⟩
              · rw [if_neg (fun x => by cases x.1)]
                exact Or.inr ⟨qq, rfl, rfl, hqq⟩
              · show fb_D_reads_36 (nI st) (nI qq) m = _
                unfold fb_D_reads_36
                rw [kp_let, x1, kp_b2, if_pos rfl, x3, if_neg y1, if_pos (nI_pos' (show qq < 2 ^ 31 by omega)), J]
        obtain ⟨xw2, s1, s2⟩ := step
        by_cases zq : q < N
        · rw [if_pos zq] at h s2
          obtain ⟨z, i1, i2, i3⟩ := ih q (st + 1) _ _ _ r xw2 m2 h R1 x2.2.2 hq s1
          refine ⟨z, by rw [kp_step s2]; exact i1, fun q0 e0 => ?_, fun a b d e0 => ?_⟩
          · obtain ⟨m3, j1, j2⟩ := i2 q0 e0
            exact ⟨m3, j1, rw_tr x2 j2⟩
          · obtain ⟨xw3, m3, q3, j1, j2, j3⟩ := i3 a b d e0
            exact ⟨xw3, m3, q3, j1, rw_tr x2 j2, j3⟩
        · rw [if_neg zq] at h s2
          injection h with h
          refine ⟨_, kp_stop s2, fun q0 e0 => by (rw [← h] at e0; cases e0), fun a b d e0 => ?_⟩
          rw [← h] at e0
          cases e0
          exact ⟨xw2, m2, q, rfl, x2, s1⟩
/-- what one is by a text without a fault -/
theorem ro_all {now : Int} : ∀ n p st hf hv wr st2 hv2 wr2 (x5 : Int32) (m : Nat → Nat → Int32), tk_all tx N e now n p st hf hv wr = some (.inr (st2, hv2, wr2)) → rm_M m N B row tx → rm_E m e → m 84 18 = nI p → p ≤ N → x5.toInt = hf → (m 85 0).toInt = now → ∃ m2 q, kv_loop (kv_u3 fb_D_oneBy_26) (x5, hv, m) = some (hv2, m2) ∧ rw_fr m m2 q := by
  intro n
  induction n with
  | zero => intro p st hf hv wr st2 hv2 wr2 x5 m h; cases h
  | succ n ih =>
    intro p st hf hv wr st2 hv2 wr2 x5 m h hM hE h18 hp h5 h0
    have hN := hM.2.1
    rw [tk_all_s] at h
    cases hz : tk_stm tx N e n p with
    | none => rw [hz] at h; cases h
    | some z =>
      rw [hz] at h
      cases z with
      | inl q =>
        have h : some (Sum.inl q) = some (Sum.inr (st2, hv2, wr2)) := h
        injection h with h
        cases h
      | inr a =>
        obtain ⟨y, w, q⟩ := a
        have h : (if q < N then tk_all tx N e now n q (st + 1) (if y.toInt ≤ now ∧ hf ≤ y.toInt then y.toInt else hf) (if y.toInt ≤ now ∧ hf ≤ y.toInt then w else hv) (if wr = none ∧ 140 < y.toInt then some p else wr) else some (.inr (st + 1, (if y.toInt ≤ now ∧ hf ≤ y.toInt then w else hv), (if wr = none ∧ 140 < y.toInt then some p else wr)))) = some (Sum.inr (st2, hv2, wr2)) := h
        rcases tk_stm_or hz with ⟨_, _, c⟩ | ⟨y', q1, a1, ⟨_, c⟩ | ⟨a2, ⟨_, _, c⟩ | ⟨w', q2, a3, ⟨_, c⟩ | ⟨a4, c⟩⟩⟩⟩
        · cases c
        · cases c
        · cases c
        · cases c
        cases c
        have hlt1 := at_lt a2 (by omega)
        have hlt2 := at_lt a4 (by omega)
        have hpN : p < N := by
          unfold tk_num at a1
          by_cases zd : tk_dig (tk_at tx N p) = true
          · exact tk_dig_lt zd
          · rw [if_neg zd] at a1; cases a1
        have b2 := (rm_num hM hp h18).1 y q1 a1
        have f1 : rw_fr m (rm_P m y q1) q1 := ⟨fun r hr => rm_Po y q1 r hr, fun j a _ d _ => rm_Pj y q1 j a d, rm_P18 y q1⟩
        have p2 := rv_pos (rm_P m y q1) (q1 + 1)
        have f2 := rw_tr f1 (rw_of p2.1)
        have E2 : rm_E (kv_st (rm_P m y q1) 84 18 (nI (q1 + 1))) e := fun m3 h3 => hE m3 (by rw [h3, f2.1 85 (by omega)])
        obtain ⟨g, -⟩ := re_main n 0 0 0 (q1 + 1) w q2 (by omega) (by omega) a3 _ (rw_M hM f2) E2 p2.1.2.2
        obtain ⟨m3, x1, x2⟩ := g rfl 24 (by omega)
        have p4 := rv_pos m3 (q2 + 1)
        have f4 := rw_tr (rw_tr f2 (rw_of x2)) (rw_of p4.1)
        have M4 := rw_M hM f4
        have E4 : rm_E (kv_st m3 84 18 (nI (q2 + 1))) e := fun m5 h5 => hE m5 (by rw [h5, f4.1 85 (by omega)])
        have h04 : kv_st m3 84 18 (nI (q2 + 1)) 85 0 = m 85 0 := by rw [f4.1 85 (by omega)]
        have K : kv_u3 fb_D_oneBy_26 (x5, hv, m) = some (.inl ((if y.toInt ≤ now ∧ hf ≤ y.toInt then y else x5), (if y.toInt ≤ now ∧ hf ≤ y.toInt then w else hv), kv_st m3 84 18 (nI (q2 + 1)))) := by
          show fb_D_oneBy_26 x5 hv m = _
          unfold fb_D_oneBy_26
          rw [hM.2.2.1, h18, if_neg (nI_ge hpN (by omega)), b2, kp_b2, kp_let, rm_P22, kp_let, rm_P18, nI_1, kp_let, x1, kp_b2, x2.2.2, nI_1, kp_let, h04]
          by_cases z1 : m 85 0 < y
          · rw [if_pos z1]
            rw [kp_lt, h0] at z1
            rw [if_neg (by omega), if_neg (by omega)]
          rw [if_neg z1]
          rw [kp_lt, h0] at z1
          by_cases z2 : x5 ≤ y
          · rw [if_pos z2]
            rw [kp_le, h5] at z2
            rw [if_pos (by omega), if_pos (by omega)]
          · rw [if_neg z2]
            rw [kp_le, h5] at z2
            rw [if_neg (by omega), if_neg (by omega)]
        rw [kp_step K]
        have h5' : (if y.toInt ≤ now ∧ hf ≤ y.toInt then y else x5).toInt = (if y.toInt ≤ now ∧ hf ≤ y.toInt then y.toInt else hf) := by
          split
          · rfl
          · exact h5
        by_cases zq : q2 + 1 < N
        · rw [if_pos zq] at h
          obtain ⟨m5, q5, i1, i2⟩ := ih (q2 + 1) (st + 1) _ _ _ st2 hv2 wr2 _ _ h M4 E4 p4.1.2.2 (by omega) h5' (by rw [h04]; exact h0)
          exact ⟨m5, q5, i1, rw_tr f4 i2⟩
        · rw [if_neg zq] at h
          injection h with h
          cases h
          refine ⟨_, _, kp_stop ?_, f4⟩
          show fb_D_oneBy_26 (if y.toInt ≤ now ∧ hf ≤ y.toInt then y else x5) (if y.toInt ≤ now ∧ hf ≤ y.toInt then w else hv) (kv_st m3 84 18 (nI (q2 + 1))) = _
          unfold fb_D_oneBy_26
          rw [M4.2.2.1, p4.1.2.2, if_pos (nI_le (by omega) (by omega))]
end RT
