/-! ===== words: the reference's checking ===== -/
section RV
variable {m : Nat → Nat → Int32} {N B row : Nat} {tx e : Nat → Int32}
def rm_M (m : Nat → Nat → Int32) (N B row : Nat) (tx : Nat → Int32) : Prop := ((row = 85 ∧ B + N ≤ 444) ∨ (row = 90 ∧ B + N ≤ 800)) ∧ N ≤ 100 ∧ m 84 20 = nI N ∧ m 84 19 = nI B ∧ m 84 23 = nI row ∧ ∀ i, i < N → m row (B + i) = tx i
def rm_s (tx : Nat → Int32) (N p : Nat) : Int32 := if p < N then tx p else -1000
theorem rm_s_at (p : Nat) : (rm_s tx N p).toInt = tk_at tx N p := by
  unfold rm_s tk_at
  split
  · rfl
  · decide
theorem rm_s_eq (p : Nat) (ch : Int32) : rm_s tx N p = ch ↔ tk_at tx N p = ch.toInt := by rw [kp_eq, rm_s_at]
theorem rm_tx89 {β : Type} (K : Nat → Option β) : kv_tx 85 K = K 85 := if_pos ⟨by decide, by decide⟩
theorem rm_tx94 {β : Type} (K : Nat → Option β) : kv_tx 90 K = K 90 := if_pos ⟨by decide, by decide⟩
theorem rm_sign (h : rm_M m N B row tx) {p : Nat} (hp : p ≤ N) (h18 : m 84 18 = nI p) : fx_D_sign m = some (rm_s tx N p) := by
  obtain ⟨h1, h2, h3, h4, h5, h6⟩ := h
  unfold fx_D_sign rm_s
  rw [h3, h18]
  by_cases z : p < N
  · rw [if_neg (nI_ge z (by omega)), if_pos z, h5, h4, nI_add]
    rcases h1 with ⟨rfl, hb⟩ | ⟨rfl, hb⟩
    · rw [nI_clamp (show 85 < 2 ^ 31 by omega), rm_tx89, show kv_ln 85 = 444 by decide, kp_gd _ (kp_in_nI (by omega) (by omega)), nI_clamp (by omega), h6 p z]
    · rw [nI_clamp (show 90 < 2 ^ 31 by omega), rm_tx94, show kv_ln 90 = 800 by decide, kp_gd _ (kp_in_nI (by omega) (by omega)), nI_clamp (by omega), h6 p z]
  · rw [if_pos (nI_le (by omega) (by omega)), if_neg z]
def rv_fr (m m2 : Nat → Nat → Int32) (q : Nat) : Prop := (∀ r, r ≠ 84 → m2 r = m r) ∧ (∀ j, j ≠ 18 → j ≠ 21 → j ≠ 22 → m2 84 j = m 84 j) ∧ m2 84 18 = nI q
theorem rv_M {m2 : Nat → Nat → Int32} {q : Nat} (h : rm_M m N B row tx) (hf : rv_fr m m2 q) : rm_M m2 N B row tx := by
  obtain ⟨h1, h2, h3, h4, h5, h6⟩ := h
  have hr : row ≠ 84 := by rcases h1 with ⟨rfl, -⟩ | ⟨rfl, -⟩ <;> omega
  exact ⟨h1, h2, by rw [hf.2.1 20 (by omega) (by omega) (by omega)]; exact h3, by rw [hf.2.1 19 (by omega) (by omega) (by omega)]; exact h4, by rw [hf.2.1 23 (by omega) (by omega) (by omega)]; exact h5, fun i hi => by rw [hf.1 row hr]; exact h6 i hi⟩
theorem rv_tr {m2 m3 : Nat → Nat → Int32} {q q2 : Nat} (h1 : rv_fr m m2 q) (h2 : rv_fr m2 m3 q2) : rv_fr m m3 q2 := ⟨fun r hr => by rw [h2.1 r hr, h1.1 r hr], fun j a b d => by rw [h2.2.1 j a b d, h1.2.1 j a b d], h2.2.2⟩
theorem rv_pos (m : Nat → Nat → Int32) (q : Nat) : rv_fr m (kv_st m 84 18 (nI q)) q ∧ kv_st m 84 18 (nI q) 84 21 = m 84 21 := ⟨⟨fun r hr => kp_st_ne hr, fun j a _ _ => by rw [kp_st, if_neg (fun w => a w.2)], by rw [kp_st, if_pos ⟨rfl, rfl⟩]⟩, by rw [kp_st, if_neg (by omega)]⟩
theorem rm_takes (h : rm_M m N B row tx) {p : Nat} (hp : p ≤ N) (h18 : m 84 18 = nI p) (ch : Int32) : fx_D_takes ch m = some (if tk_at tx N p = ch.toInt then (true, kv_st m 84 18 (nI (p + 1))) else (false, m)) := by
  unfold fx_D_takes
  rw [rm_sign h hp h18, kp_b1]
  by_cases z : tk_at tx N p = ch.toInt
  · rw [if_pos ((rm_s_eq p ch).mpr z), if_pos z, h18, nI_1, kp_let]
  · rw [if_neg (fun w => z ((rm_s_eq p ch).mp w)), if_neg z]
/-- a number and a place -/
def rm_P (m : Nat → Nat → Int32) (w : Int32) (q : Nat) : Nat → Nat → Int32 := kv_st (kv_st m 84 22 w) 84 18 (nI q)
theorem rm_PP (a b : Int32) (x y : Nat) : rm_P (rm_P m a x) b y = rm_P m b y := by
  funext q j
  unfold rm_P
  simp only [kp_st]
  split
  · rfl
  · split
    · rfl
    · rfl
theorem rm_P18 (w : Int32) (q : Nat) : rm_P m w q 84 18 = nI q := by unfold rm_P; rw [kp_st, if_pos ⟨rfl, rfl⟩]
theorem rm_P22 (w : Int32) (q : Nat) : rm_P m w q 84 22 = w := by unfold rm_P; rw [kp_st, if_neg (by omega), kp_st, if_pos ⟨rfl, rfl⟩]
theorem rm_Po (w : Int32) (q r : Nat) (hr : r ≠ 84) : rm_P m w q r = m r := by unfold rm_P; rw [kp_st_ne hr, kp_st_ne hr]
theorem rm_Pj (w : Int32) (q j : Nat) (h1 : j ≠ 18) (h2 : j ≠ 22) : rm_P m w q 84 j = m 84 j := by unfold rm_P; rw [kp_st, if_neg (fun x => h1 x.2), kp_st, if_neg (fun x => h2 x.2)]
theorem rm_PM (h : rm_M m N B row tx) (w : Int32) (q : Nat) : rm_M (rm_P m w q) N B row tx := rv_M h ⟨fun r hr => rm_Po w q r hr, fun j a _ d => rm_Pj w q j a d, rm_P18 w q⟩
theorem rm_isdig (p : Nat) : fx_D_isIn (rm_s tx N p).toInt64 (48 : Int64) (57 : Int64) = some (tk_dig (tk_at tx N p)) := by
  rw [sx_isInL _ 48 57 (by decide) (by decide), rm_s_at]
  unfold tk_dig
  congr 1
  rw [Bool.decide_and]
theorem rm_nstep (h : rm_M m N B row tx) {p : Nat} (hp : p ≤ N) (v : Int32) {k : Nat} (hk : k < 3) (hv : 0 < v.toInt) : fb_D_readsNumber_42 (nI k) (rm_P m v p) = if tk_dig (tk_at tx N p) = true then some (.inl (nI (k + 1), rm_P m (v * 10 + (tx p - 48)) (p + 1))) else some (.inr (rm_P m v p)) := by
  have b3 : ¬ (3 : Int32) ≤ nI k := nI_ge (b := 3) hk (by omega)
  have hM := rm_PM h v p
  have sg := rm_sign hM hp (rm_P18 v p)
  unfold fb_D_readsNumber_42
  rw [if_neg b3, rm_P22, if_neg (by rw [kp_le, ki_0]; omega), sg, kp_b1, rm_isdig, kp_b1]
  by_cases z : tk_dig (tk_at tx N p) = true
  · have hlt := tk_dig_lt z
    have e : kv_st (kv_st (rm_P m v p) 84 22 (10 * v + rm_s tx N p - 48)) 84 18 (nI (p + 1)) = rm_P m (v * 10 + (tx p - 48)) (p + 1) := by
      have : 10 * v + rm_s tx N p - 48 = v * 10 + (tx p - 48) := by
        unfold rm_s
        rw [if_pos hlt, rd_as, Int32.mul_comm]
      rw [this]
      exact rm_PP v _ p (p + 1)
    have e18 : kv_st (rm_P m v p) 84 22 (10 * v + rm_s tx N p - 48) 84 18 = nI p := by rw [kp_st, if_neg (by omega), rm_P18]
    rw [if_pos z, if_pos z, kp_b1, kp_let, e18, nI_1, kp_let, e, nI_1]
  · rw [if_neg z, if_neg z]
theorem rm_num (h : rm_M m N B row tx) {p : Nat} (hp : p ≤ N) (h18 : m 84 18 = nI p) : (∀ w q, tk_num tx N p = .inr (w, q) → fx_D_readsNumber m = some (true, rm_P m w q)) ∧ (∀ q, tk_num tx N p = .inl q → q = p ∧ fx_D_readsNumber m = some (false, m)) := by
  unfold tk_num fx_D_readsNumber
  rw [rm_sign h hp h18, kp_b1, rm_isdig, kp_b1]
  by_cases z : tk_dig (tk_at tx N p) = true
  rotate_left
  · rw [if_neg z, if_neg z]
    refine ⟨fun w q e => by (cases e), fun q e => ?_⟩
    cases e
    exact ⟨rfl, rfl⟩
  have hlt := tk_dig_lt z
  have dg : 48 ≤ (tx p).toInt ∧ (tx p).toInt ≤ 57 := by
    unfold tk_dig at z
    rw [tk_at_in hlt, Bool.and_eq_true, decide_eq_true_eq, decide_eq_true_eq] at z
    exact z
  have v1 : (tx p - 48).toInt = (tx p).toInt - 48 := by rw [kp_sub] <;> rw [ki_48] <;> omega
  have e0 : kv_st (kv_st m 84 22 (rm_s tx N p - 48)) 84 18 (nI (p + 1)) = rm_P m (tx p - 48) (p + 1) := by
    unfold rm_s rm_P
    rw [if_pos hlt]
  have e18 : kv_st m 84 22 (rm_s tx N p - 48) 84 18 = nI p := by rw [kp_st, if_neg (by omega)]; exact h18
  rw [if_pos z, if_pos z, kp_b1, kp_let, e18, nI_1, kp_let, e0]
  have st1 : ((1 : Int32), rm_P m (tx p - 48) (p + 1)) = (nI 1, rm_P m (tx p - 48) (p + 1)) := rfl
  rw [st1]
  by_cases z0 : tk_at tx N p = 48
  · rw [if_pos z0]
    rw [tk_at_in hlt] at z0
    have fin : kv_loop (kv_u2 fb_D_readsNumber_42) (nI 1, rm_P m (tx p - 48) (p + 1)) = some (rm_P m (tx p - 48) (p + 1)) := by
      refine kp_stop ?_
      show fb_D_readsNumber_42 (nI 1) (rm_P m (tx p - 48) (p + 1)) = _
      unfold fb_D_readsNumber_42
      rw [if_neg (show ¬ (3 : Int32) ≤ nI 1 by decide), rm_P22, if_pos (by rw [kp_le, ki_0]; omega)]
    rw [fin, kp_sb1]
    refine ⟨fun w q e => ?_, fun q e => by (cases e)⟩
    cases e
    have ex : tx p = 48 := by rw [kp_eq, ki_48]; exact z0
    rw [ex, Int32.sub_self]
  rw [if_neg z0]
  rw [tk_at_in hlt] at z0
  by_cases z1 : tk_dig (tk_at tx N (p + 1)) = true
  rotate_left
  · rw [if_neg z1]
    have fin : kv_loop (kv_u2 fb_D_readsNumber_42) (nI 1, rm_P m (tx p - 48) (p + 1)) = some (rm_P m (tx p - 48) (p + 1)) := by
      refine kp_stop ?_
      show fb_D_readsNumber_42 (nI 1) (rm_P m (tx p - 48) (p + 1)) = _
      rw [rm_nstep h (by omega) _ (by omega) (by omega), if_neg z1]
    rw [fin, kp_sb1]
    refine ⟨fun w q e => ?_, fun q e => by (cases e)⟩
    cases e
    rfl
  have hlt1 := tk_dig_lt z1
  have dg1 : 48 ≤ (tx (p + 1)).toInt ∧ (tx (p + 1)).toInt ≤ 57 := by
    have z1' := z1
    unfold tk_dig at z1'
    rw [tk_at_in hlt1, Bool.and_eq_true, decide_eq_true_eq, decide_eq_true_eq] at z1'
    exact z1'
  have k10 : (10 : Int32).toInt = 10 := ki_10
  have v2a : (tx (p + 1) - 48).toInt = (tx (p + 1)).toInt - 48 := by rw [kp_sub] <;> rw [ki_48] <;> omega
  have v2b : ((tx p - 48) * 10).toInt = ((tx p).toInt - 48) * 10 := by rw [kp_mul] <;> rw [v1, k10] <;> omega
  have v2 : ((tx p - 48) * 10 + (tx (p + 1) - 48)).toInt = ((tx p).toInt - 48) * 10 + ((tx (p + 1)).toInt - 48) := by rw [kp_add] <;> rw [v2a, v2b] <;> omega
  rw [if_pos z1]
  have s1 : kv_loop (kv_u2 fb_D_readsNumber_42) (nI 1, rm_P m (tx p - 48) (p + 1)) = kv_loop (kv_u2 fb_D_readsNumber_42) (nI 2, rm_P m ((tx p - 48) * 10 + (tx (p + 1) - 48)) (p + 2)) := by
    refine kp_step ?_
    show fb_D_readsNumber_42 (nI 1) (rm_P m (tx p - 48) (p + 1)) = _
    rw [rm_nstep h (by omega) _ (by omega) (by omega), if_pos z1]
  rw [s1]
  by_cases z2 : tk_dig (tk_at tx N (p + 2)) = true
  rotate_left
  · rw [if_neg z2]
    have fin : kv_loop (kv_u2 fb_D_readsNumber_42) (nI 2, rm_P m ((tx p - 48) * 10 + (tx (p + 1) - 48)) (p + 2)) = some (rm_P m ((tx p - 48) * 10 + (tx (p + 1) - 48)) (p + 2)) := by
      refine kp_stop ?_
      show fb_D_readsNumber_42 (nI 2) _ = _
      rw [rm_nstep h (by omega) _ (by omega) (by omega), if_neg z2]
    rw [fin, kp_sb1]
    refine ⟨fun w q e => ?_, fun q e => by (cases e)⟩
    cases e
    rfl
  have hlt2 := tk_dig_lt z2
  rw [if_pos z2]
  have s2 : kv_loop (kv_u2 fb_D_readsNumber_42) (nI 2, rm_P m ((tx p - 48) * 10 + (tx (p + 1) - 48)) (p + 2)) = kv_loop (kv_u2 fb_D_readsNumber_42) (nI 3, rm_P m (((tx p - 48) * 10 + (tx (p + 1) - 48)) * 10 + (tx (p + 2) - 48)) (p + 3)) := by
    refine kp_step ?_
    show fb_D_readsNumber_42 (nI 2) _ = _
    rw [rm_nstep h (by omega) _ (by omega) (by omega), if_pos z2]
  have fin : kv_loop (kv_u2 fb_D_readsNumber_42) (nI 3, rm_P m (((tx p - 48) * 10 + (tx (p + 1) - 48)) * 10 + (tx (p + 2) - 48)) (p + 3)) = some (rm_P m (((tx p - 48) * 10 + (tx (p + 1) - 48)) * 10 + (tx (p + 2) - 48)) (p + 3)) := by
    refine kp_stop ?_
    show fb_D_readsNumber_42 (nI 3) _ = _
    unfold fb_D_readsNumber_42
    rw [if_pos (show (3 : Int32) ≤ nI 3 by decide)]
  rw [s2, fin, kp_sb1]
  refine ⟨fun w q e => ?_, fun q e => by (cases e)⟩
  cases e
  rfl
/-- what comes of a check -/
def rv_B (m : Nat → Nat → Int32) (r : Nat ⊕ (Int32 × Nat)) (z : Option (Bool × (Nat → Nat → Int32))) : Prop := (∀ q, r = .inl q → ∃ m2, z = some (false, m2) ∧ rv_fr m m2 q) ∧ ∀ w q, r = .inr (w, q) → ∃ m2, z = some (true, m2) ∧ rv_fr m m2 q ∧ m2 84 21 = m 84 21
def rv_S (m : Nat → Nat → Int32) (r : Nat ⊕ (Int32 × Nat)) (z : Option ((Nat → Nat → Int32) ⊕ (Nat → Nat → Int32))) : Prop := (∀ q, r = .inl q → ∃ m2, z = some (.inl m2) ∧ rv_fr m m2 q) ∧ ∀ w q, r = .inr (w, q) → ∃ m2, z = some (.inr m2) ∧ rv_fr m m2 q ∧ m2 84 21 = m 84 21
/-- behind a product, behind an atom: what follows -/
noncomputable def rv_x (G : (Nat → Nat → Int32) → Option ((Nat → Nat → Int32) ⊕ ((Nat → Nat → Int32) ⊕ (Nat → Nat → Int32)))) (c1 c2 : Int32) (m : Nat → Nat → Int32) : Option ((Nat → Nat → Int32) ⊕ (Nat → Nat → Int32)) := kv_bind2 (fx_D_takes c1 m) (fun b6 m7 => if b6 = true then kv_loop G m7 else kv_bind2 (fx_D_takes c2 m7) (fun b8 m9 => if b8 = true then kv_loop G m9 else some (.inr m9)))
theorem rv_loopS (R : (Nat → Nat → Int32) → Option (Bool × (Nat → Nat → Int32))) (m : Nat → Nat → Int32) : kv_loop (kv_u1 (fb_D_readsSum_0 R)) m = kv_bind2 (R m) (fun b4 m5 => if b4 = true then rv_x (kv_u1 (fb_D_readsSum_0 R)) 43 45 m5 else some (.inl m5)) := by
  rw [kv_loop_eq]
  show (fb_D_readsSum_0 R m).bind _ = _
  unfold fb_D_readsSum_0 rv_x
  cases R m with
  | none => rfl
  | some a =>
    obtain ⟨b, m5⟩ := a
    rw [kp_b2, kp_b2]
    cases b with
    | false => rfl
    | true =>
      rw [if_pos rfl, if_pos rfl]
      cases fx_D_takes 43 m5 with
      | none => rfl
      | some a =>
        obtain ⟨b, m7⟩ := a
        rw [kp_b2, kp_b2]
        cases b with
        | true => rfl
        | false =>
          rw [if_neg (by decide), if_neg (by decide)]
          cases fx_D_takes 45 m7 with
          | none => rfl
          | some a =>
            obtain ⟨b, m9⟩ := a
            rw [kp_b2, kp_b2]
            cases b <;> rfl
theorem rv_loopP (R : (Nat → Nat → Int32) → Option (Bool × (Nat → Nat → Int32))) (m : Nat → Nat → Int32) : kv_loop (kv_u1 (fb_D_readsProduct_0 R)) m = kv_bind2 (R m) (fun b4 m5 => if b4 = true then rv_x (kv_u1 (fb_D_readsProduct_0 R)) 42 47 m5 else some (.inl m5)) := by
  rw [kv_loop_eq]
  show (fb_D_readsProduct_0 R m).bind _ = _
  unfold fb_D_readsProduct_0 rv_x
  cases R m with
  | none => rfl
  | some a =>
    obtain ⟨b, m5⟩ := a
    rw [kp_b2, kp_b2]
    cases b with
    | false => rfl
    | true =>
      rw [if_pos rfl, if_pos rfl]
      cases fx_D_takes 42 m5 with
      | none => rfl
      | some a =>
        obtain ⟨b, m7⟩ := a
        rw [kp_b2, kp_b2]
        cases b with
        | true => rfl
        | false =>
          rw [if_neg (by decide), if_neg (by decide)]
          cases fx_D_takes 47 m7 with
          | none => rfl
          | some a =>
            obtain ⟨b, m9⟩ := a
            rw [kp_b2, kp_b2]
            cases b <;> rfl
theorem cg_0 (n : Nat) (m : Nat → Nat → Int32) : fg_C (n + 1) 0 m = fx_D_readsSum (fg_C n 1) m := rfl
theorem cg_1 (n : Nat) (m : Nat → Nat → Int32) : fg_C (n + 1) 1 m = fx_D_readsProduct (fg_C n 2) m := rfl
theorem cg_2 (n : Nat) (m : Nat → Nat → Int32) : fg_C (n + 1) 2 m = fx_D_readsAtom (fg_C n 0) m := rfl
end RV
