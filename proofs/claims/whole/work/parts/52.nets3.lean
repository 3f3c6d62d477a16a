/-! ===== nets of the class: rounds of shortening ===== -/
section NE
variable {c : Nat → Nat → Int32} {n m : Nat} {fr to : Nat → Nat} {ln : Nat → Int}
theorem ki_F : (2147483647 : Int32).toInt = 2147483647 := by decide
def ne_E (c : Nat → Nat → Int32) (n m : Nat) (fr to : Nat → Nat) (ln : Nat → Int) : Prop := n ≤ 42 ∧ m ≤ 124 ∧ c 68 4 = nI n ∧ c 68 5 = nI m ∧ ∀ e, e < m → c 69 e = nI (fr e) ∧ c 70 e = nI (to e) ∧ (c 71 e).toInt = ln e ∧ fr e < n ∧ to e < n ∧ -250000 ≤ ln e ∧ ln e ≤ 250000
def ne_r (c : Nat → Nat → Int32) (v : Nat) : Int := (c 72 v).toInt
def ne_b (c : Nat → Nat → Int32) (n : Nat) (s : Int) : Prop := ∀ v, v < n → ne_r c v = 2147483647 ∨ (-(250000 * s) ≤ ne_r c v ∧ ne_r c v ≤ 250000 * s)
def ne_set (c : Nat → Nat → Int32) (m : Nat) (fr to : Nat → Nat) (ln : Nat → Int) : Prop := ∀ e, e < m → ne_r c (fr e) ≠ 2147483647 → ne_r c (to e) ≤ ne_r c (fr e) + ln e ∧ ne_r c (to e) ≠ 2147483647
def ne_snd (c : Nat → Nat → Int32) (n : Nat) (x : Nat → Int) : Prop := ∀ v, v < n → ne_r c v ≠ 2147483647 → x v ≤ ne_r c v
def ne_in (c : Nat → Nat → Int32) (n m : Nat) (fr to : Nat → Nat) (ln : Nat → Int) (s : Int) (e : Nat) (x1 : Int32) (c3 : Nat → Nat → Int32) : Prop := (∀ q, q ≠ 72 → c3 q = c q) ∧ ne_b c3 n (s + e) ∧ (∀ v, v < n → ne_r c3 v ≤ ne_r c v) ∧ (∀ x, nt_sol m fr to ln x → ne_snd c n x → ne_snd c3 n x) ∧ (∀ e2, e2 < e → ne_r c (fr e2) ≠ 2147483647 → ne_r c3 (to e2) ≤ ne_r c (fr e2) + ln e2 ∧ ne_r c3 (to e2) ≠ 2147483647) ∧ ((x1 = 0 ∧ ∀ v, v < n → c3 72 v = c 72 v) ∨ (x1 = 1 ∧ ¬ ne_set c m fr to ln))
theorem ne_E_fr {c2 : Nat → Nat → Int32} (hE : ne_E c n m fr to ln) (h : ∀ q, q ≠ 72 → c2 q = c q) : ne_E c2 n m fr to ln := by
  unfold ne_E at hE ⊢
  rw [h 68 (by omega), h 69 (by omega), h 70 (by omega), h 71 (by omega)]
  exact hE
theorem ne_step (hE : ne_E c n m fr to ln) {s : Int} (hs0 : 0 ≤ s) (hs : s + m ≤ 5332) (hb : ne_b c n s) {e : Nat} (he : e < m) {x1 : Int32} {c3 : Nat → Nat → Int32} (h : ne_in c n m fr to ln s e x1 c3) : ∃ y1 c4, fb_Net_shortens_4 x1 (nI e) c3 = some (.inl (y1, nI (e + 1), c4)) ∧ ne_in c n m fr to ln s (e + 1) y1 c4 := by
  obtain ⟨n42, m124, en, em, hed⟩ := hE
  obtain ⟨i1, i2, i3, i4, i5, i6⟩ := h
  obtain ⟨e1, e2, e3, f1, f2, l1, l2⟩ := hed e he
  have d1 : c3 69 e = nI (fr e) := by rw [i1 69 (by omega)]; exact e1
  have d2 : c3 70 e = nI (to e) := by rw [i1 70 (by omega)]; exact e2
  have d3 : (c3 71 e).toInt = ln e := by rw [i1 71 (by omega)]; exact e3
  have d5 : c3 68 5 = nI m := by rw [i1 68 (by omega)]; exact em
  have wk : ne_b c3 n (s + ((e + 1 : Nat) : Int)) := fun v hv => by
    have := i2 v hv
    omega
  unfold fb_Net_shortens_4
  rw [d5, if_neg (nI_ge he (by omega)), kp_gd _ (kp_in_nI (show e < 124 by omega) (by omega)), nI_clamp (show e < 2 ^ 31 by omega), d1, d2, kp_gd _ (kp_in_nI (show fr e < 42 by omega) (by omega)), nI_clamp (show fr e < 2 ^ 31 by omega), nI_clamp (show to e < 2 ^ 31 by omega), kp_let]
  have h3 := i3 (fr e) f1
  have hbf := hb (fr e) f1
  by_cases q : c3 72 (fr e) = 2147483647
  · rw [if_pos q]
    have q2 : ne_r c3 (fr e) = 2147483647 := by unfold ne_r; rw [q]; exact ki_F
    refine ⟨x1, c3, by unfold fj_Net_shortens_73; rw [nI_1], i1, wk, i3, i4, fun e2 he2 hne => ?_, i6⟩
    by_cases z : e2 = e
    · subst z
      omega
    · exact i5 e2 (by omega) hne
  rw [if_neg q, kp_gd _ (kp_in_nI (show to e < 42 by omega) (by omega))]
  have q1 : ne_r c3 (fr e) ≠ 2147483647 := by
    intro w
    exact q ((kp_eq _ _).mpr (w.trans ki_F.symm))
  have hbu := i2 (fr e) f1
  have hbt := i2 (to e) f2
  have hadd : (c3 72 (fr e) + c3 71 e).toInt = ne_r c3 (fr e) + ln e := by
    rw [kp_add (by rw [d3]; show -2147483648 ≤ ne_r c3 (fr e) + ln e; omega) (by rw [d3]; show ne_r c3 (fr e) + ln e < 2147483648; omega), d3]
    rfl
  by_cases q2 : c3 72 (to e) ≤ c3 72 (fr e) + c3 71 e
  · rw [if_pos q2]
    rw [kp_le, hadd] at q2
    have q3 : ne_r c3 (to e) ≤ ne_r c3 (fr e) + ln e := q2
    refine ⟨x1, c3, by unfold fj_Net_shortens_73; rw [nI_1], i1, wk, i3, i4, fun e2 he2 hne => ?_, i6⟩
    by_cases z : e2 = e
    · subst z
      exact ⟨by omega, by omega⟩
    · exact i5 e2 (by omega) hne
  · rw [if_neg q2, kp_let]
    rw [kp_le, hadd] at q2
    have q3 : ne_r c3 (fr e) + ln e < ne_r c3 (to e) := Int.not_le.mp q2
    have R : ∀ v, ne_r (kv_st c3 72 (to e) (c3 72 (fr e) + c3 71 e)) v = if v = to e then ne_r c3 (fr e) + ln e else ne_r c3 v := by
      intro v
      unfold ne_r
      rw [kp_st]
      by_cases z : v = to e
      · rw [if_pos ⟨rfl, z⟩, if_pos z]; exact hadd
      · rw [if_neg (fun w => z w.2), if_neg z]
    refine ⟨1, _, by unfold fj_Net_shortens_73; rw [nI_1], fun z hz => by rw [kp_st_ne hz]; exact i1 z hz, fun v hv => ?_, fun v hv => ?_, fun x hx hsn v hv hne => ?_, fun e2 he2 hne => ?_, Or.inr ⟨rfl, fun hset => ?_⟩⟩
    · rw [R]
      by_cases z : v = to e
      · rw [if_pos z]; omega
      · rw [if_neg z]; exact wk v hv
    · rw [R]
      have := i3 v hv
      by_cases z : v = to e
      · rw [if_pos z]; rw [z] at this ⊢; omega
      · rw [if_neg z]; exact this
    · rw [R] at hne ⊢
      have h4 := i4 x hx hsn
      by_cases z : v = to e
      · rw [if_pos z, z]
        have h5 := h4 (fr e) f1 q1
        have h6 := hx e he
        omega
      · rw [if_neg z] at hne ⊢
        exact h4 v hv hne
    · rw [R]
      by_cases z : e2 = e
      · subst z
        rw [if_pos rfl]
        exact ⟨by omega, by omega⟩
      · have h5 := i5 e2 (by omega) hne
        by_cases z2 : to e2 = to e
        · rw [if_pos z2]
          rw [z2] at h5
          exact ⟨by omega, by omega⟩
        · rw [if_neg z2]; exact h5
    · rcases i6 with ⟨-, a⟩ | ⟨-, a⟩
      · have r1 : ne_r c3 (fr e) = ne_r c (fr e) := by unfold ne_r; rw [a _ f1]
        have r2 : ne_r c3 (to e) = ne_r c (to e) := by unfold ne_r; rw [a _ f2]
        have := hset e he (by rw [← r1]; exact q1)
        omega
      · exact a hset
theorem ne_round (hE : ne_E c n m fr to ln) {s : Int} (hs0 : 0 ≤ s) (hs : s + m ≤ 5332) (hb : ne_b c n s) : ∃ mv c2, fx_Net_shortens c = some (mv, c2) ∧ (∀ q, q ≠ 72 → c2 q = c q) ∧ ne_b c2 n (s + m) ∧ (∀ v, v < n → ne_r c2 v ≤ ne_r c v) ∧ (∀ x, nt_sol m fr to ln x → ne_snd c n x → ne_snd c2 n x) ∧ (∀ e2, e2 < m → ne_r c (fr e2) ≠ 2147483647 → ne_r c2 (to e2) ≤ ne_r c (fr e2) + ln e2 ∧ ne_r c2 (to e2) ≠ 2147483647) ∧ (mv = false → ∀ v, v < n → c2 72 v = c 72 v) ∧ (mv = true → ¬ ne_set c m fr to ln) := by
  have key := kp_inv (kv_u3 fb_Net_shortens_4) (fun i st => ∃ x1 c3, st = (x1, nI i, c3) ∧ ne_in c n m fr to ln s i x1 c3) (fun z => ne_in c n m fr to ln s m z.1 z.2) m ?_ ?_ ((0 : Int32), (0 : Int32), c) ⟨0, c, rfl, fun _ _ => rfl, fun v hv => by have := hb v hv; omega, fun _ _ => Int.le_refl _, fun _ _ h => h, fun e2 h => absurd h (Nat.not_lt_zero _), Or.inl ⟨rfl, fun _ _ => rfl⟩⟩
  · obtain ⟨⟨x1, c2⟩, h1, h2⟩ := key
    unfold fx_Net_shortens
    rw [h1]
    obtain ⟨i1, i2, i3, i4, i5, i6⟩ := h2
    rcases i6 with ⟨a, b⟩ | ⟨a, b⟩
    · refine ⟨false, c2, ?_, i1, i2, i3, i4, i5, fun _ => b, fun w => absurd w (by decide)⟩
      show kv_bind1 (kv_z x1) (fun b13 => some (b13, c2)) = _
      have : x1 = 0 := a
      rw [this]; rfl
    · refine ⟨true, c2, ?_, i1, i2, i3, i4, i5, fun w => absurd w (by decide), fun _ => b⟩
      show kv_bind1 (kv_z x1) (fun b13 => some (b13, c2)) = _
      have : x1 = 1 := a
      rw [this]; rfl
  · rintro i st hi ⟨x1, c3, rfl, h3⟩
    obtain ⟨y1, c4, q1, q2⟩ := ne_step hE hs0 hs hb hi h3
    exact Or.inl ⟨(y1, nI (i + 1), c4), q1, y1, c4, rfl, q2⟩
  · rintro st ⟨x1, c3, rfl, h3⟩
    refine ⟨(x1, c3), ?_, h3⟩
    show fb_Net_shortens_4 x1 (nI m) c3 = _
    unfold fb_Net_shortens_4
    have d5 : c3 68 5 = nI m := by rw [h3.1 68 (by omega)]; exact hE.2.2.2.1
    have := hE.2.1
    rw [d5, if_pos (nI_le (Nat.le_refl _) (by omega))]
theorem ne_settles {Z : Nat → Prop} (hE : ne_E c n m fr to ln) (h0 : ∀ v, v < n → ne_r c v = 2147483647 ∨ ne_r c v = 0) (hz : ∀ v, v < n → Z v → ne_r c v = 0) (hz2 : ∀ v, v < n → ne_r c v ≠ 2147483647 → Z v) : ∃ b c2, fx_Net_settles c = some (b, c2) ∧ (∀ q, q ≠ 72 → c2 q = c q) ∧ (b = true → ne_set c2 m fr to ln ∧ (∀ x, nt_zol m n fr to ln Z x → ne_snd c2 n x) ∧ (∀ v, v < n → ne_r c2 v ≤ ne_r c v)) ∧ ((∃ x, nt_zol m n fr to ln Z x) → b = true) := by
  have hn : ∀ e, e < m → fr e < n ∧ to e < n := fun e he => ⟨(hE.2.2.2.2 e he).2.2.2.1, (hE.2.2.2.2 e he).2.2.2.2.1⟩
  have hm := hE.2.1
  have hn42 := hE.1
  have T : ∀ (i : Nat) (c3 : Nat → Nat → Int32), i ≤ n → ((∀ q, q ≠ 72 → c3 q = c q) ∧ ne_b c3 n (124 * (i : Int)) ∧ (∀ x, nt_zol m n fr to ln Z x → ne_snd c3 n x) ∧ (∀ v, v < n → ne_r c3 v ≤ ne_r c v) ∧ ((∃ x, nt_zol m n fr to ln Z x) → i ≤ nt_cnt (nt_S m n fr to ln Z (ne_r c3)) n)) → ∃ mv c4, fx_Net_shortens c3 = some (mv, c4) ∧ ((mv = true ∧ ((∃ x, nt_zol m n fr to ln Z x) → i < n) ∧ (∀ q, q ≠ 72 → c4 q = c q) ∧ ne_b c4 n (124 * ((i + 1 : Nat) : Int)) ∧ (∀ x, nt_zol m n fr to ln Z x → ne_snd c4 n x) ∧ (∀ v, v < n → ne_r c4 v ≤ ne_r c v) ∧ ((∃ x, nt_zol m n fr to ln Z x) → i + 1 ≤ nt_cnt (nt_S m n fr to ln Z (ne_r c4)) n)) ∨ (mv = false ∧ (∀ q, q ≠ 72 → c4 q = c q) ∧ ne_set c4 m fr to ln ∧ (∀ x, nt_zol m n fr to ln Z x → ne_snd c4 n x) ∧ (∀ v, v < n → ne_r c4 v ≤ ne_r c v))) := by
    rintro i c3 hi ⟨j1, j2, j3, j4, j5⟩
    obtain ⟨mv, c4, h1, h2, h3, h4, h5, h6, h7, h8⟩ := ne_round (ne_E_fr hE j1) (s := 124 * (i : Int)) (by omega) (by omega) j2
    refine ⟨mv, c4, h1, ?_⟩
    cases mv with
    | false =>
      refine Or.inr ⟨rfl, fun q hq => by rw [h2 q hq, j1 q hq], ?_, fun x hx => h5 x hx.1 (j3 x hx), fun v hv => by have := h4 v hv; have := j4 v hv; omega⟩
      intro e he hne
      have e1 : ne_r c4 (fr e) = ne_r c3 (fr e) := by unfold ne_r; rw [h7 rfl _ (hn e he).1]
      rw [e1] at hne ⊢
      exact h6 e he hne
    | true =>
      have ns : (∃ x, nt_zol m n fr to ln Z x) → ∃ v, v < n ∧ ¬ nt_S m n fr to ln Z (ne_r c3) v := by
        intro hf
        by_cases w : ∃ v, v < n ∧ ¬ nt_S m n fr to ln Z (ne_r c3) v
        · exact w
        · refine absurd (nt_settled hn hf (fun v hv => ?_)) (h8 rfl)
          by_cases w2 : nt_S m n fr to ln Z (ne_r c3) v
          · exact w2
          · exact absurd ⟨v, hv, w2⟩ w
      refine Or.inl ⟨rfl, fun hf => ?_, fun q hq => by rw [h2 q hq, j1 q hq], fun v hv => by have := h3 v hv; omega, fun x hx => h5 x hx.1 (j3 x hx), fun v hv => by have := h4 v hv; have := j4 v hv; omega, fun hf => ?_⟩
      · obtain ⟨v, q1, q2⟩ := ns hf
        by_cases w : i < n
        · exact w
        · exact absurd (nt_cnt_all n (by have := j5 hf; omega) v q1) q2
      · obtain ⟨v, q1, q2⟩ := ns hf
        have hF : ∀ v, v < n → ne_r c3 v ≤ 2147483647 := fun v hv => by
          have := j2 v hv
          omega
        have := nt_prog hn hf (fun x hx => j3 x hx) (fun x hx => h5 x hx.1 (j3 x hx)) h4 hF (fun v hv hZ => by have := hz v hv hZ; have := j4 v hv; omega) h6 q1 q2
        have := j5 hf
        omega
  have key := kp_inv (kv_u2 fb_Net_settles_2) (fun i st => ∃ c3, st = (nI i, c3) ∧ ((∀ q, q ≠ 72 → c3 q = c q) ∧ ne_b c3 n (124 * (i : Int)) ∧ (∀ x, nt_zol m n fr to ln Z x → ne_snd c3 n x) ∧ (∀ v, v < n → ne_r c3 v ≤ ne_r c v) ∧ ((∃ x, nt_zol m n fr to ln Z x) → i ≤ nt_cnt (nt_S m n fr to ln Z (ne_r c3)) n)))
    (fun z => Sum.elim (fun c4 => (∀ q, q ≠ 72 → c4 q = c q) ∧ ne_set c4 m fr to ln ∧ (∀ x, nt_zol m n fr to ln Z x → ne_snd c4 n x) ∧ (∀ v, v < n → ne_r c4 v ≤ ne_r c v)) (fun c3 => (∀ q, q ≠ 72 → c3 q = c q) ∧ ne_b c3 n (124 * (n : Int)) ∧ (∀ x, nt_zol m n fr to ln Z x → ne_snd c3 n x) ∧ (∀ v, v < n → ne_r c3 v ≤ ne_r c v) ∧ ((∃ x, nt_zol m n fr to ln Z x) → n ≤ nt_cnt (nt_S m n fr to ln Z (ne_r c3)) n)) z) n ?_ ?_ ((0 : Int32), c) ⟨c, rfl, fun _ _ => rfl, fun v hv => by have := h0 v hv; omega, fun x hx v hv hne => ?_, fun _ _ => Int.le_refl _, fun _ => Nat.zero_le _⟩
  · obtain ⟨z, h1, h2⟩ := key
    unfold fx_Net_settles
    rw [h1]
    cases z with
    | inl c4 =>
      exact ⟨true, c4, rfl, h2.1, fun _ => ⟨h2.2.1, h2.2.2.1, h2.2.2.2⟩, fun _ => rfl⟩
    | inr c3 =>
      obtain ⟨mv, c4, g1, g2⟩ := T n c3 (Nat.le_refl _) h2
      have e : ((some (Sum.inr c3) : Option ((Nat → Nat → Int32) ⊕ (Nat → Nat → Int32))).bind (Sum.elim (kv_u1 (fun c3 => some (true, c3))) (kv_u1 (fun c4 => kv_bind2 (fx_Net_shortens c4) (fun b7 c8 => if b7 = true then some (false, c8) else some (true, c8)))))) = some (!mv, c4) := by
        simp only [Option.bind_some, Sum.elim_inr, kv_u1, g1, kp_b2]
        cases mv <;> rfl
      refine ⟨!mv, c4, e, ?_⟩
      rcases g2 with ⟨rfl, k1, k2, k3, k4, k5, k6⟩ | ⟨rfl, k2, k3, k4, k5⟩
      · exact ⟨k2, fun w => absurd w (by decide), fun hf => absurd (k1 hf) (Nat.lt_irrefl _)⟩
      · exact ⟨k2, fun _ => ⟨k3, k4, k5⟩, fun _ => rfl⟩
  · rintro i st hi ⟨c3, rfl, h3⟩
    obtain ⟨mv, c4, g1, g2⟩ := T i c3 (by omega) h3
    have d4 : c3 68 4 = nI n := by rw [h3.1 68 (by omega)]; exact hE.2.2.1
    rcases g2 with ⟨rfl, k1, k2⟩ | ⟨rfl, k2⟩
    · refine Or.inl ⟨(nI (i + 1), c4), ?_, c4, rfl, k2⟩
      show fb_Net_settles_2 (nI i) c3 = _
      unfold fb_Net_settles_2
      rw [d4, if_neg (nI_ge hi (by omega)), g1, kp_b2, if_pos rfl, nI_1]
    · refine Or.inr ⟨.inl c4, ?_, k2⟩
      show fb_Net_settles_2 (nI i) c3 = _
      unfold fb_Net_settles_2
      rw [d4, if_neg (nI_ge hi (by omega)), g1, kp_b2, if_neg (by decide)]
  · rintro st ⟨c3, rfl, h3⟩
    have d4 : c3 68 4 = nI n := by rw [h3.1 68 (by omega)]; exact hE.2.2.1
    refine ⟨.inr c3, ?_, h3⟩
    show fb_Net_settles_2 (nI n) c3 = _
    unfold fb_Net_settles_2
    rw [d4, if_pos (nI_le (Nat.le_refl _) (by omega))]
  · have := h0 v hv
    have hv0 := hx.2 v hv (hz2 v hv hne)
    omega
theorem ne_fill (p : Int32) (c : Nat → Nat → Int32) : ∃ c3, fx_Arr_fill p c = some c3 ∧ (∀ q, q ≠ 72 → c3 q = c q) ∧ ∀ j, j < 42 → c3 72 j = p := by
  have key := kp_inv (kv_u2 (fb_Arr_fill_5 p)) (fun i st => ∃ c3, st = (nI i, c3) ∧ (∀ q, q ≠ 72 → c3 q = c q) ∧ ∀ j, j < i → c3 72 j = p) (fun c3 => (∀ q, q ≠ 72 → c3 q = c q) ∧ ∀ j, j < 42 → c3 72 j = p) 42 ?_ ?_ ((0 : Int32), c) ⟨c, rfl, fun _ _ => rfl, fun j h => absurd h (Nat.not_lt_zero _)⟩
  · obtain ⟨c3, h1, h2⟩ := key
    exact ⟨c3, by unfold fx_Arr_fill; rw [h1]; rfl, h2⟩
  · rintro i st hi ⟨c3, rfl, h3, h4⟩
    refine Or.inl ⟨(nI (i + 1), kv_st c3 72 i p), ?_, _, rfl, fun q hq => by rw [kp_st_ne hq]; exact h3 q hq, fun j hj => ?_⟩
    · show fb_Arr_fill_5 p (nI i) c3 = _
      unfold fb_Arr_fill_5
      have b2 : ¬ (42 : Int32) ≤ nI i := nI_ge (b := 42) hi (by omega)
      rw [if_neg b2, kp_gd _ (kp_in_nI (by omega) (by omega)), nI_clamp (by omega), kp_let, nI_1]
    · rw [kp_st]
      by_cases z : j = i
      · rw [if_pos ⟨rfl, z⟩]
      · rw [if_neg (fun w => z w.2)]; exact h4 j (by omega)
  · rintro st ⟨c3, rfl, h3⟩
    exact ⟨c3, rfl, h3⟩
/-- a net at hand with n knots and m edges: what it asks is Sat -/
def ne_N (c : Nat → Nat → Int32) (n m : Nat) (Sat : (Nat → Int) → Prop) : Prop := ∃ fr to ln, ne_E c n m fr to ln ∧ ∀ x, nt_sol m fr to ln x ↔ Sat x
theorem ne_holds {Sat : (Nat → Int) → Prop} (h : ne_N c n m Sat) : ∃ b c2, fx_Net_holds c = some (b, c2) ∧ (∀ q, q ≠ 72 → c2 q = c q) ∧ (b = true ↔ ∃ x, Sat x) := by
  obtain ⟨fr, to, ln, hE, hS⟩ := h
  obtain ⟨c3, h1, h2, h3⟩ := ne_fill 0 c
  have hn := hE.1
  have r0 : ∀ v, v < n → ne_r c3 v = 0 := fun v hv => by unfold ne_r; rw [h3 v (by omega)]; rfl
  obtain ⟨b, c2, g1, g2, g3, g4⟩ := ne_settles (Z := fun _ => True) (ne_E_fr hE h2) (fun v hv => Or.inr (r0 v hv)) (fun v hv _ => r0 v hv) (fun _ _ _ => trivial)
  refine ⟨b, c2, by unfold fx_Net_holds; rw [h1, kp_b1, g1, kp_b2], fun q hq => by rw [g2 q hq, h2 q hq], fun hb => ?_, fun ⟨x, hx⟩ => g4 ?_⟩
  · obtain ⟨k1, k2, k3⟩ := g3 hb
    refine ⟨ne_r c2, (hS _).mp (fun e he => ?_)⟩
    have f1 := (hE.2.2.2.2 e he).2.2.2.1
    have := k3 _ f1
    rw [r0 _ f1] at this
    exact (k1 e he (by omega)).1
  · have hx := (hS x).mpr hx
    obtain ⟨M, hM⟩ := nt_top x n
    refine ⟨fun v => x v - M, fun e he => ?_, fun v hv _ => ?_⟩
    · have := hx e he
      show x (to e) - M ≤ x (fr e) - M + ln e
      omega
    · have := hM v hv
      show x v - M ≤ 0
      omega
theorem ne_isKnot {a : Nat} (h4 : c 68 4 = nI n) (hn : n ≤ 42) (ha : a < n) : fx_Net_isKnot (nI a) c = some true := by
  unfold fx_Net_isKnot
  have b2 : ¬ (42 : Int32) ≤ nI a := nI_ge (b := 42) (by omega) (by omega)
  rw [if_neg (nI_pos (by omega)), h4, if_neg (nI_ge ha (by omega)), if_neg b2]
theorem nt_g_congr {S1 S2 : (Nat → Int) → Prop} (h : ∀ x, S1 x ↔ S2 x) {a b : Nat} : (∀ g, nt_g S1 a b g → nt_g S2 a b g) ∧ (nt_u S1 a b → nt_u S2 a b) :=
  ⟨fun g ⟨⟨x, h1, h2⟩, h3⟩ => ⟨⟨x, (h x).mp h1, h2⟩, fun y hy => h3 y ((h y).mpr hy)⟩, fun hu M => by
    obtain ⟨x, h1, h2⟩ := hu M
    exact ⟨x, (h x).mp h1, h2⟩⟩
theorem ne_great {Sat : (Nat → Int) → Prop} (h : ne_N c n m Sat) (hf : ∃ x, Sat x) {a b : Nat} (ha : a < n) (hb : b < n) : ∃ g c2, fx_Net_greatestOf (nI a) (nI b) c = some (g, c2) ∧ (∀ q, q ≠ 72 → c2 q = c q) ∧ (g.toInt ≠ 2147483647 → nt_g Sat a b g.toInt) ∧ (g.toInt = 2147483647 → nt_u Sat a b) := by
  obtain ⟨fr, to, ln, hE, hS⟩ := h
  obtain ⟨c3, h1, h2, h3⟩ := ne_fill 2147483647 c
  have hn := hE.1
  have h4 : ∀ q, q ≠ 72 → kv_st c3 72 b 0 q = c q := fun q hq => by rw [kp_st_ne hq]; exact h2 q hq
  have rb : ne_r (kv_st c3 72 b 0) b = 0 := by unfold ne_r; rw [kp_st, if_pos ⟨rfl, rfl⟩]; rfl
  have ro : ∀ v, v < n → v ≠ b → ne_r (kv_st c3 72 b 0) v = 2147483647 := fun v hv hne => by
    unfold ne_r
    rw [kp_st, if_neg (fun w => hne w.2), h3 v (by omega)]
    exact ki_F
  obtain ⟨r, c2, g1, g2, g3, g4⟩ := ne_settles (Z := fun v => v = b) (ne_E_fr hE h4) (fun v hv => by
    by_cases z : v = b
    · exact Or.inr (by rw [z]; exact rb)
    · exact Or.inl (ro v hv z)) (fun v _ z => by rw [z]; exact rb) (fun v hv hne => by
    by_cases z : v = b
    · exact z
    · exact absurd (ro v hv z) hne)
  obtain ⟨p, hp⟩ := hf
  have hp := (hS p).mpr hp
  have hr := g4 ⟨fun v => p v - p b, fun e he => by
    have := hp e he
    show p (to e) - p b ≤ p (fr e) - p b + ln e
    omega, fun v _ z => by
    show p v - p b ≤ 0
    rw [z]; omega⟩
  obtain ⟨k1, k2, k3⟩ := g3 hr
  have hfin := nt_final (r := ne_r c2) ha hb ⟨p, hp⟩ k1 k2 (by have := k3 b hb; omega)
  have cg := nt_g_congr hS (a := a) (b := b)
  refine ⟨c2 72 a, c2, ?_, fun q hq => by rw [g2 q hq, h4 q hq], fun hne => cg.1 _ (hfin.1 hne), fun he => cg.2 (hfin.2 he)⟩
  unfold fx_Net_greatestOf
  rw [ne_isKnot hE.2.2.1 hn ha, ne_isKnot hE.2.2.1 hn hb, kp_b1, if_pos rfl, kp_b1, if_pos rfl, h1, kp_b1, kp_gd _ (kp_in_nI (show b < 42 by omega) (by omega)), nI_clamp (show b < 2 ^ 31 by omega), kp_let, g1, kp_b2, kp_gd _ (kp_in_nI (show a < 42 by omega) (by omega)), nI_clamp (show a < 2 ^ 31 by omega)]
end NE
