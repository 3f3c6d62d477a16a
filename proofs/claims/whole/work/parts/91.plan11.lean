/-! ===== plans: how wide, in the reference ===== -/
section PI
variable {m : Nat → Nat → Int32} {f : Nat → Int64} {L : Nat} {Sat : (Nat → Int) → Prop}
/-- a table whose widths can be told -/
def pn_x (T : Nat → Nat → Int) (L : Nat) (Sat : (Nat → Int) → Prop) : Prop := L ≤ 10 ∧ (∃ x, Sat x) ∧ nt_sy L T ∧ pn_tb T L Sat ∧ ∀ u v, u < L → v < L → T u v ≠ 1000000000000 → T u v ≤ 12000000
theorem pn_x_wd {T : Nat → Nat → Int} (h : pn_x T L Sat) {i j : Nat} (hi : i < L) (hj : j < L) : (T i j = 1000000000000 ∧ pn_wd T i j = 9999) ∨ (T i j ≠ 1000000000000 ∧ 0 ≤ T i j + T j i ∧ -12000000 ≤ T i j ∧ -12000000 ≤ T j i ∧ T i j ≤ 12000000 ∧ T j i ≤ 12000000 ∧ pn_wd T i j = if 9999 < T i j + T j i then 9999 else T i j + T j i) := by
  obtain ⟨-, ⟨x, hx⟩, hs, ht, hu⟩ := h
  by_cases q : T i j = 1000000000000
  · exact Or.inl ⟨q, by unfold pn_wd; exact if_pos (Or.inl q)⟩
  · have q2 := hs i j hi hj q
    have h1 := ((ht i j hi hj).1 q).2 x hx
    have h2 := ((ht j i hj hi).1 q2).2 x hx
    have h3 := hu i j hi hj q
    have h4 := hu j i hj hi q2
    exact Or.inr ⟨q, by omega, by omega, by omega, h3, h4, by unfold pn_wd; exact if_neg (fun w => w.elim q q2)⟩
theorem pn_x_wd_b {T : Nat → Nat → Int} (h : pn_x T L Sat) {i j : Nat} (hi : i < L) (hj : j < L) : 0 ≤ pn_wd T i j ∧ pn_wd T i j ≤ 9999 := by
  rcases pn_x_wd h hi hj with ⟨-, e⟩ | ⟨-, a, -, -, -, -, e⟩
  · omega
  · rw [e]; split <;> omega
theorem pn_x_row_b {T : Nat → Nat → Int} (h : pn_x T L Sat) {i : Nat} (hi : i < L) : 0 ≤ pn_row T L i ∧ pn_row T L i ≤ 99990 := by
  have := h.1
  have := pn_sm_b (f := fun t => pn_wd T i (i + 1 + t)) (B := 9999) (L - (i + 1)) (fun t ht => pn_x_wd_b h hi (by omega))
  unfold pn_row
  omega
theorem pn_dinner (h2 : m 85 1 = nI L) (h : pn_x (md_t f) L Sat) {i : Nat} (hi : i < L) (x : Int64) (hx1 : 0 ≤ x.toInt) (hx2 : x.toInt ≤ 1000000) : ∃ v, kv_loop (kv_u2 (fb_D_spreadBy_148 m (nI i) f)) (x, nI (i + 1)) = some v ∧ v.toInt = x.toInt + pn_row (md_t f) L i := by
  have hn := h.1
  have key := kp_inv (kv_u2 (fb_D_spreadBy_148 m (nI i) f)) (fun k st => ∃ x2, st = (x2, nI (i + 1 + k)) ∧ x2.toInt = x.toInt + pn_sm (fun t => pn_wd (md_t f) i (i + 1 + t)) k) (fun v => v.toInt = x.toInt + pn_row (md_t f) L i) (L - (i + 1)) ?_ ?_ (x, nI (i + 1)) ⟨x, rfl, by show _ = _ + (0 : Int); omega⟩
  · exact key
  · rintro k st hk ⟨x2, rfl, e2⟩
    refine Or.inl ?_
    have hb := pn_sm_b (f := fun t => pn_wd (md_t f) i (i + 1 + t)) (B := 9999) k (fun t ht => pn_x_wd_b h hi (by omega))
    have hj0 : i + 1 + k < L := by omega
    have wb := pn_x_wd_b h hi hj0
    have W := pn_x_wd h hi hj0
    generalize hj : i + 1 + k = j at *
    have fin : ∀ y : Int64, y.toInt = pn_wd (md_t f) i j → ∃ s2, fj_D_spreadBy_233 x2 (nI j) y = some (.inl s2) ∧ ∃ x3, s2 = (x3, nI (i + 1 + (k + 1))) ∧ x3.toInt = x.toInt + pn_sm (fun t => pn_wd (md_t f) i (i + 1 + t)) (k + 1) := by
      intro y hy
      have e3 : (x2 + y).toInt = x2.toInt + y.toInt := kl_add (by omega) (by omega)
      refine ⟨(x2 + y, nI (i + 1 + (k + 1))), ?_, _, rfl, ?_⟩
      · unfold fj_D_spreadBy_233
        rw [kp_let, nI_1, show j + 1 = i + 1 + (k + 1) by omega]
      · rw [e3, e2, hy]
        show _ = x.toInt + (pn_sm (fun t => pn_wd (md_t f) i (i + 1 + t)) k + pn_wd (md_t f) i (i + 1 + k))
        rw [hj]; omega
    have T1 : kv_u2 (fb_D_spreadBy_148 m (nI i) f) (x2, nI j) = fb_D_spreadBy_148 m (nI i) f x2 (nI j) := rfl
    have e9 : (9999 : Int64).toInt = 9999 := by decide
    rw [T1]
    unfold fb_D_spreadBy_148
    rw [h2, if_neg (nI_ge hj0 (by omega)), md_ix, md_ix, kp_gd _ (kp_in_nI (show 44 * i + j < 1936 by omega) (by omega)), nI_clamp (show 44 * i + j < 2 ^ 31 by omega), nI_clamp (show 44 * j + i < 2 ^ 31 by omega)]
    rcases W with ⟨a1, a2⟩ | ⟨a1, a3, b1, b2, b3, b4, a2⟩
    · have q : f (44 * i + j) = (1000000000000 : Int64) := (kl_eq _ _).mpr (Eq.trans a1 kl_O.symm)
      rw [if_pos q]
      unfold fj_D_spreadBy_212
      have b : (9999 : Int64) ≤ (9999 : Int64) := by decide
      rw [if_pos b]
      exact fin _ (by rw [e9, a2])
    · have q : ¬ f (44 * i + j) = (1000000000000 : Int64) := fun w => a1 (((kl_eq _ _).mp w).trans kl_O)
      have e : (f (44 * i + j) + f (44 * j + i)).toInt = md_t f i j + md_t f j i := by
        have w1 : (f (44 * i + j)).toInt = md_t f i j := rfl
        have w2 : (f (44 * j + i)).toInt = md_t f j i := rfl
        rw [kl_add (by omega) (by omega), w1, w2]
      rw [if_neg q, kp_gd _ (kp_in_nI (show 44 * j + i < 1936 by omega) (by omega))]
      unfold fj_D_spreadBy_212
      by_cases z : 9999 < md_t f i j + md_t f j i
      · rw [if_pos z] at a2
        have z2 : ¬ f (44 * i + j) + f (44 * j + i) ≤ (9999 : Int64) := by rw [kl_le, e, e9]; omega
        rw [if_neg z2]
        exact fin _ (by rw [e9, a2])
      · rw [if_neg z] at a2
        have z2 : f (44 * i + j) + f (44 * j + i) ≤ (9999 : Int64) := by rw [kl_le, e, e9]; omega
        rw [if_pos z2]
        exact fin _ (by rw [e, a2])
  · rintro st ⟨x2, rfl, e2⟩
    refine ⟨x2, ?_, e2⟩
    have T1 : kv_u2 (fb_D_spreadBy_148 m (nI i) f) (x2, nI (i + 1 + (L - (i + 1)))) = fb_D_spreadBy_148 m (nI i) f x2 (nI (i + 1 + (L - (i + 1)))) := rfl
    rw [T1]
    unfold fb_D_spreadBy_148
    rw [h2, if_pos (nI_le (by omega) (by omega))]
theorem pn_dwidths (h2 : m 85 1 = nI L) (h : pn_x (md_t f) L Sat) : ∃ v, kv_loop (kv_u2 (fb_D_spreadBy_131 m f)) ((0 : Int64), (0 : Int32)) = some v ∧ v.toInt = pn_w (md_t f) L ∧ 0 ≤ v.toInt ∧ v.toInt ≤ 999900 := by
  have hn := h.1
  have key := kp_inv (kv_u2 (fb_D_spreadBy_131 m f)) (fun k st => ∃ x2, st = (x2, nI k) ∧ x2.toInt = pn_sm (pn_row (md_t f) L) k) (fun v => v.toInt = pn_w (md_t f) L) L ?_ ?_ ((0 : Int64), (0 : Int32)) ⟨0, rfl, rfl⟩
  · obtain ⟨v, h1, h2⟩ := key
    have hb := pn_sm_b (f := pn_row (md_t f) L) (B := 99990) L (fun t ht => pn_x_row_b h ht)
    have e : pn_w (md_t f) L = pn_sm (pn_row (md_t f) L) L := rfl
    exact ⟨v, h1, h2, by omega, by omega⟩
  · rintro k st hk ⟨x2, rfl, e2⟩
    refine Or.inl ?_
    have hb := pn_sm_b (f := pn_row (md_t f) L) (B := 99990) k (fun t ht => pn_x_row_b h (by omega))
    obtain ⟨v, g1, g2⟩ := pn_dinner h2 h hk x2 (by omega) (by omega)
    have T1 : kv_u2 (fb_D_spreadBy_131 m f) (x2, nI k) = fb_D_spreadBy_131 m f x2 (nI k) := rfl
    rw [T1]
    unfold fb_D_spreadBy_131
    rw [h2, if_neg (nI_ge hk (by omega)), kp_let, nI_1, g1]
    exact ⟨(v, nI (k + 1)), rfl, v, rfl, by rw [g2, e2]; rfl⟩
  · rintro st ⟨x2, rfl, e2⟩
    refine ⟨x2, ?_, e2⟩
    show fb_D_spreadBy_131 m f x2 (nI L) = _
    unfold fb_D_spreadBy_131
    rw [h2, if_pos (nI_le (Nat.le_refl _) (by omega))]
end PI
