/-! ===== loops, by invariants ===== -/
theorem kp_step {σ ρ : Type} {b : σ → Option (σ ⊕ ρ)} {s s2 : σ} (h : b s = some (.inl s2)) : kv_loop b s = kv_loop b s2 := by
  rw [kv_loop_eq, h]; rfl
theorem kp_stop {σ ρ : Type} {b : σ → Option (σ ⊕ ρ)} {s : σ} {r : ρ} (h : b s = some (.inr r)) : kv_loop b s = some r := by
  rw [kv_loop_eq, h]; rfl
/-- an invariant over N rounds, with an end at each of them, and one at N at the latest -/
theorem kp_inv {σ ρ : Type} (b : σ → Option (σ ⊕ ρ)) (R : Nat → σ → Prop) (Q : ρ → Prop) (N : Nat)
    (hs : ∀ i s, i < N → R i s → (∃ s2, b s = some (.inl s2) ∧ R (i + 1) s2) ∨ ∃ r, b s = some (.inr r) ∧ Q r)
    (he : ∀ s, R N s → ∃ r, b s = some (.inr r) ∧ Q r) : ∀ s, R 0 s → ∃ r, kv_loop b s = some r ∧ Q r := by
  have key : ∀ k i s, i + k = N → R i s → ∃ r, kv_loop b s = some r ∧ Q r := by
    intro k
    induction k with
    | zero =>
      intro i s hi h
      have : i = N := by omega
      subst this
      obtain ⟨r, h1, h2⟩ := he s h
      exact ⟨r, kp_stop h1, h2⟩
    | succ k ih =>
      intro i s hi h
      rcases hs i s (by omega) h with ⟨s2, h1, h2⟩ | ⟨r, h1, h2⟩
      · obtain ⟨r, q1, q2⟩ := ih (i + 1) s2 (by omega) h2
        exact ⟨r, by rw [kp_step h1]; exact q1, q2⟩
      · exact ⟨r, kp_stop h1, h2⟩
  exact fun s h => key N 0 s (by omega) h
/-- two loops side by side -/
theorem kp_sim {σ τ ρ ω : Type} (b1 : σ → Option (σ ⊕ ρ)) (b2 : τ → Option (τ ⊕ ω)) (R : Nat → σ → τ → Prop) (Q : ρ → ω → Prop) (N : Nat)
    (hs : ∀ i s t, i < N → R i s t → (∃ s2 t2, b1 s = some (.inl s2) ∧ b2 t = some (.inl t2) ∧ R (i + 1) s2 t2) ∨ ∃ r w, b1 s = some (.inr r) ∧ b2 t = some (.inr w) ∧ Q r w)
    (he : ∀ s t, R N s t → ∃ r w, b1 s = some (.inr r) ∧ b2 t = some (.inr w) ∧ Q r w) : ∀ s t, R 0 s t → ∃ r w, kv_loop b1 s = some r ∧ kv_loop b2 t = some w ∧ Q r w := by
  have key : ∀ k i s t, i + k = N → R i s t → ∃ r w, kv_loop b1 s = some r ∧ kv_loop b2 t = some w ∧ Q r w := by
    intro k
    induction k with
    | zero =>
      intro i s t hi h
      have : i = N := by omega
      subst this
      obtain ⟨r, w, h1, h2, h3⟩ := he s t h
      exact ⟨r, w, kp_stop h1, kp_stop h2, h3⟩
    | succ k ih =>
      intro i s t hi h
      rcases hs i s t (by omega) h with ⟨s2, t2, h1, h2, h3⟩ | ⟨r, w, h1, h2, h3⟩
      · obtain ⟨r, w, q1, q2, q3⟩ := ih (i + 1) s2 t2 (by omega) h3
        exact ⟨r, w, by rw [kp_step h1]; exact q1, by rw [kp_step h2]; exact q2, q3⟩
      · exact ⟨r, w, kp_stop h1, kp_stop h2, h3⟩
  exact fun s t h => key N 0 s t (by omega) h
/-! numbers -/
theorem kp_ix3 (a b l k : Nat) : ((nI a) + ((nI b) * nI l)) + nI k = nI (a + b * l + k) := by rw [pk_mul, nI_add, nI_add]
theorem kp_ix2 (a b l : Nat) : (nI a) + ((nI b) * nI l) = nI (a + b * l) := by rw [pk_mul, nI_add]
theorem sx_has (p : Int32) (c : Nat → Nat → Int32) {L : Nat} (h : c 2 7 = nI L) (hL : L < 2 ^ 31) : fx_Lumps_has p c = some (decide (0 ≤ p.toInt ∧ p.toInt < L)) := by
  unfold fx_Lumps_has
  rw [h]
  simp only [kp_le, kp_lt, nI_toInt hL, kp_lit]
  rw [nI_toInt (by omega)]
  split <;> (try split) <;> simp <;> omega
theorem sx_isLump (p : Int32) (m : Nat → Nat → Int32) {L : Nat} (h : m 85 1 = nI L) (hL : L < 2 ^ 31) : fx_D_isLump p m = some (decide (0 ≤ p.toInt ∧ p.toInt < L)) := by
  unfold fx_D_isLump
  rw [sx_isIn, kp_b1, h]
  have e : (nI L - 1).toInt = (L : Int) - 1 := by
    rw [kp_sub] <;> (rw [nI_toInt hL]; simp only [kp_lit]; rw [nI_toInt (by omega)]; omega)
  rw [Int32.toInt_toInt64, e]
  have h0 : (0 : Int64).toInt = 0 := by decide
  rw [h0]
  congr 1
  exact decide_eq_decide.mpr (by omega)
theorem sx_get {m : Nat → Nat → Int32} {l k : Nat} (hl : l < 10) (hk : k < 6) : fx_D_get (nI l) (nI k) m = some (m 85 (10 + 6 * l + k)) := by
  unfold fx_D_get
  simp only [kp_lit]
  rw [kp_ix3, kp_gd _ (kp_in_nI (by omega) (by omega)), nI_clamp (by omega)]
theorem sx_say {m : Nat → Nat → Int32} {l k : Nat} (hl : l < 20) (hk : k < 6) : fx_D_say (nI l) (nI k) m = some (m 85 (80 + 6 * l + k)) := by
  unfold fx_D_say
  simp only [kp_lit]
  rw [kp_ix3, kp_gd _ (kp_in_nI (by omega) (by omega)), nI_clamp (by omega)]
theorem sx_becomes {m : Nat → Nat → Int32} {n : Nat} {x : Int32} (hn : n < 444) : fx_D_becomes (nI n) x m = some (m 85 n, kv_st m 85 n x) := by
  unfold fx_D_becomes
  rw [kp_gd _ (kp_in_nI (by omega) (by omega)), nI_clamp (by omega)]
  rfl
/-! seed -/
theorem op_seed {k : Nat} {c m : Nat → Nat → Int32} (h : Inv k c m) (p : Int32) : ∃ r c2 m2, fx_K_seed p c = some (r, c2) ∧ fx_D_seed p m = some (r, m2) ∧ Inv (k + 1) c2 m2 := by
  refine ⟨c 1 6, kv_st c 1 6 p, kv_st m 85 4 p, rfl, ?_, ?_⟩
  · unfold fx_D_seed
    show kv_bind2 (fx_D_becomes (nI 4) p m) _ = _
    rw [sx_becomes (by omega), kp_b2]
    obtain ⟨⟨L, T, U, hN, hG, -⟩, -⟩ := h
    have e : m 85 4 = c 1 6 := hG.2.2.2.1
    rw [e]
  · obtain ⟨L, T, U, hN, hG, hL, hP, hA, hW, hT, hX, hC⟩ := h.1
    have ev : ∀ i, 0 < i → i_v (kv_st c 1 6 p) 1 i = i_v c 1 i := fun i hi => kp_st_ne (by omega)
    have e0 : ∀ j, j ≠ 6 → i_v (kv_st c 1 6 p) 1 0 j = i_v c 1 0 j := fun j hj => by
      show kv_st c 1 6 p 1 j = c 1 j
      rw [kp_st, if_neg (by omega)]
    have es : ∀ j, j ≠ 4 → kv_st m 85 4 p 85 j = m 85 j := fun j hj => by rw [kp_st, if_neg (by omega)]
    refine fr_state h ⟨L, T, U, fr_N hN (by rw [ev 1 (by omega)]) (by rw [ev 9 (by omega)]) (by rw [ev 9 (by omega)]) (es _ (by omega)) (es _ (by omega)) (es _ (by omega)), ?_, fun l hl => fr_L1 (hL l hl) (by omega) (by rw [e0 5 (by omega)]) (by rw [ev 2 (by omega)]) (by rw [ev 3 (by omega)]) (by rw [ev 4 (by omega)]) (by rw [ev 5 (by omega)]) (by rw [ev 6 (by omega)]) (by rw [ev 7 (by omega)]) (fun j _ _ => es j (by omega)), fr_P hP (fun l _ => by rw [ev 2 (by omega)]), fr_A hA (ev 8 (by omega)) (ev 24 (by omega)) (fun j _ _ => es j (by omega)), fun w hw => fr_W1 (hW w hw) (by omega) (Nat.le_refl L) (by rw [ev 10 (by omega)]) (by rw [ev 11 (by omega)]) (by rw [ev 12 (by omega)]) (by rw [ev 13 (by omega)]) (by rw [ev 14 (by omega)]) (by rw [ev 15 (by omega)]) (fun j _ _ => es j (by omega)), fun q hq => by rw [es _ (by omega), ev 16 (by omega)]; exact hT q hq, fr_X hX (ev 17 (by omega)) (ev 18 (by omega)) (es _ (by omega)) (es _ (by omega)) (fun j _ _ => es j (by omega)), fun q hh => fr_C1 hh (hC q hh) (ev 20 (by omega)) (ev 21 (by omega)) (ev 22 (by omega)) (ev 23 (by omega)) (fun j _ _ => es j (by omega))⟩ (kp_st_ne (by omega)) (fun r _ _ => kp_st_ne (by omega)) (fun r _ _ => kp_st_ne (by omega)) (kp_st_ne (by omega)) (kp_st_ne (by omega))
    unfold iG at hG ⊢
    rw [e0 5 (by omega), e0 7 (by omega), e0 8 (by omega), es 0 (by omega), es 5 (by omega), es 6 (by omega)]
    have f1 : kv_st m 85 4 p 85 4 = p := by rw [kp_st, if_pos ⟨rfl, rfl⟩]
    have f2 : i_v (kv_st c 1 6 p) 1 0 6 = p := by show kv_st c 1 6 p 1 6 = p; rw [kp_st, if_pos ⟨rfl, rfl⟩]
    rw [f1, f2]
    exact ⟨hG.1, hG.2.1, hG.2.2.1, rfl, hG.2.2.2.2.1, hG.2.2.2.2.2⟩
