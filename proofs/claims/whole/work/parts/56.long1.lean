/-! ===== the long net: its knots ===== -/
section LK
variable {n : Nat} {c m : Nat → Nat → Int32} {kc lm ym : Nat → Nat} {K : Nat → Prop}
def lk_C (c : Nat → Nat → Int32) (n : Nat) (kc : Nat → Nat) (K : Nat → Prop) : Prop := c 73 1 = nI n ∧ (∀ i, i < n → c 74 i = nI (kc i)) ∧ (∀ i j, i < j → j < n → kc i < kc j) ∧ (∀ q, K q ↔ ∃ i, i < n ∧ kc i = q) ∧ ∀ i, i < n → kc i < 1410
def lk_M (m : Nat → Nat → Int32) (n : Nat) (lm ym : Nat → Nat) (K : Nat → Prop) : Prop := m 84 13 = nI n ∧ (∀ i, i < n → m 94 i = nI (lm i) ∧ m 95 i = nI (ym i) ∧ lm i < 10 ∧ ym i < 141) ∧ (∀ i j, i < n → j < n → 141 * lm i + ym i = 141 * lm j + ym j → i = j) ∧ ∀ q, K q ↔ ∃ i, i < n ∧ 141 * lm i + ym i = q
theorem lk_place (h : lk_C c n kc K) (hn : n ≤ 42) {q : Nat} (hq : q < 1410) : ∃ p, p ≤ n ∧ fx_LongNet_placeOf (nI q) c = some (nI p) ∧ (∀ i, i < p → kc i < q) ∧ (p < n → q ≤ kc p) := by
  obtain ⟨h1, h2, h3, h4, h5⟩ := h
  have key := kp_inv (kv_u1 (fb_LongNet_placeOf_2 c (nI q))) (fun i st => st = nI i ∧ ∀ j, j < i → kc j < q) (fun z => Sum.elim (fun x => ∃ p, p < n ∧ x = nI p ∧ (∀ i, i < p → kc i < q) ∧ q ≤ kc p) (fun _ => ∀ j, j < n → kc j < q) z) n ?_ ?_ (0 : Int32) ⟨rfl, fun j hj => absurd hj (Nat.not_lt_zero _)⟩
  · obtain ⟨z, z1, z2⟩ := key
    unfold fx_LongNet_placeOf
    rw [z1]
    cases z with
    | inl x =>
      obtain ⟨p, p1, p2, p3, p4⟩ := z2
      exact ⟨p, by omega, by rw [p2]; rfl, p3, fun _ => p4⟩
    | inr _ =>
      exact ⟨n, Nat.le_refl _, by rw [h1]; rfl, z2, fun w => absurd w (Nat.lt_irrefl _)⟩
  · rintro i st hi ⟨rfl, hu⟩
    show (∃ s2, fb_LongNet_placeOf_2 c (nI q) (nI i) = some (.inl s2) ∧ _) ∨ ∃ r, fb_LongNet_placeOf_2 c (nI q) (nI i) = some (.inr r) ∧ _
    unfold fb_LongNet_placeOf_2
    have := h5 i hi
    rw [h1, if_neg (nI_ge hi (by omega)), kp_gd _ (kp_in_nI (by omega) (by omega)), nI_clamp (by omega), h2 i hi]
    by_cases z : kc i < q
    · rw [if_pos (nI_lt z (by omega))]
      refine Or.inl ⟨nI (i + 1), by rw [nI_1], rfl, fun j hj => ?_⟩
      by_cases w : j = i
      · rw [w]; exact z
      · exact hu j (by omega)
    · rw [if_neg (nI_nlt (by omega) (by omega))]
      exact Or.inr ⟨.inl (nI i), rfl, i, hi, rfl, hu, by omega⟩
  · rintro st ⟨rfl, hu⟩
    refine ⟨.inr (), ?_, hu⟩
    show fb_LongNet_placeOf_2 c (nI q) (nI n) = _
    unfold fb_LongNet_placeOf_2
    rw [h1, if_pos (nI_le (Nat.le_refl _) (by omega))]
theorem lk_key (l y : Nat) : (nI l * (141 : Int32)) + nI y = nI (141 * l + y) := by
  have : nI l * (141 : Int32) = nI (l * 141) := pk_mul l 141
  rw [this, nI_add, Nat.mul_comm]
theorem lk_add (h : lk_C c n kc K) (hn : n < 42) {l y : Nat} (hl : l < 10) (hy : y < 141) : ∃ c2 n2 kc2, fx_LongNet_addKnot (nI l) (nI y) c = some c2 ∧ (n ≤ n2 ∧ n2 ≤ n + 1) ∧ lk_C c2 n2 kc2 (fun q => K q ∨ q = 141 * l + y) ∧ (∀ q, q ≠ 73 → q ≠ 74 → c2 q = c q) ∧ ∀ j, j ≠ 1 → c2 73 j = c 73 j := by
  have hq : 141 * l + y < 1410 := by omega
  obtain ⟨p, p1, p2, p3, p4⟩ := lk_place h (by omega) hq
  obtain ⟨h1, h2, h3, h4, h5⟩ := h
  have b42 : ¬ (42 : Int32) ≤ nI n := nI_ge (b := 42) hn (by omega)
  by_cases z : p < n ∧ kc p = 141 * l + y
  · refine ⟨c, n, kc, ?_, ⟨Nat.le_refl _, by omega⟩, ⟨h1, h2, h3, fun q => ?_, h5⟩, fun _ _ _ => rfl, fun _ _ => rfl⟩
    · unfold fx_LongNet_addKnot
      rw [lk_key, kp_let, p2, kp_b1, h1, if_neg b42, if_neg (nI_ge z.1 (by omega)), kp_gd _ (kp_in_nI (by omega) (by omega)), nI_clamp (by omega), h2 p z.1, z.2, if_pos rfl]
    · constructor
      · rintro (w | w)
        · exact (h4 q).mp w
        · exact ⟨p, z.1, by rw [z.2, w]⟩
      · exact fun w => Or.inl ((h4 q).mpr w)
  have nk : ∀ i, i < n → kc i ≠ 141 * l + y := by
    intro i hi e
    rcases Nat.lt_trichotomy i p with w | w | w
    · have := p3 i w; omega
    · subst w; exact z ⟨hi, e⟩
    · have := h3 p i w hi
      have := p4 (by omega)
      omega
  have body : fx_LongNet_addKnot (nI l) (nI y) c = fj_LongNet_addKnot_45 (nI p) c (nI (141 * l + y)) := by
    unfold fx_LongNet_addKnot
    rw [lk_key, kp_let, p2, kp_b1, h1, if_neg b42]
    by_cases w : p < n
    · rw [if_neg (nI_ge w (by omega)), kp_gd _ (kp_in_nI (by omega) (by omega)), nI_clamp (by omega), h2 p w, if_neg]
      intro e
      have := h5 p w
      exact nk p w ((nI_eq (by omega) (by omega)).mp e)
    · rw [if_pos (nI_le (by omega) (by omega))]
  have cp : kv_cp (nI p) (nI (p + 1)) (nI (n - p)) 42 42 = true := by
    unfold kv_cp
    rw [nI_toInt (by omega), nI_toInt (by omega), nI_toInt (by omega), nI_clamp (by omega), nI_clamp (by omega), nI_clamp (by omega)]
    simp
    omega
  refine ⟨kv_st (kv_st (va_up c 74 (va_cpy (c 74) (c 74) p (p + 1) (n - p))) 74 p (nI (141 * l + y))) 73 1 (nI (n + 1)), n + 1, fun j => if j < p then kc j else if j = p then 141 * l + y else kc (j - 1), ?_, ⟨by omega, by omega⟩, ⟨by rw [kp_st, if_pos ⟨rfl, rfl⟩], fun i hi => ?_, fun i j hij hj => ?_, fun q => ?_, fun i hi => ?_⟩, fun q q1 q2 => ?_, fun j hj => ?_⟩
  · rw [body]
    unfold fj_LongNet_addKnot_45
    rw [h1, pk_sub p1, nI_1, kp_gd _ cp, nI_clamp (by omega), nI_clamp (by omega), nI_clamp (by omega), kp_let, kp_gd _ (kp_in_nI (by omega) (by omega)), kp_let, kp_let]
    have e : kv_st (va_up c 74 (va_cpy (c 74) (c 74) p (p + 1) (n - p))) 74 p (nI (141 * l + y)) 73 1 = nI n := by
      rw [kp_st, if_neg (by omega)]
      show (if (73 : Nat) = 74 then _ else c 73) 1 = _
      rw [if_neg (by omega)]; exact h1
    rw [e, nI_1]
  · rw [kp_st, if_neg (by omega), kp_st]
    show _ = nI (if i < p then kc i else if i = p then 141 * l + y else kc (i - 1))
    by_cases w : i = p
    · rw [if_pos ⟨rfl, w⟩, if_neg (by omega), if_pos w]
    · rw [if_neg (fun x => w x.2)]
      show (if (74 : Nat) = 74 then _ else c 74) i = _
      rw [if_pos rfl]
      by_cases w2 : i < p
      · rw [pk_cpy_out (Or.inl (by omega)), if_pos w2]
        exact h2 i (by omega)
      · rw [pk_cpy_in (by omega) (by omega), if_neg w2, if_neg w, show p + (i - (p + 1)) = i - 1 by omega]
        exact h2 (i - 1) (by omega)
  · show (if i < p then kc i else if i = p then 141 * l + y else kc (i - 1)) < (if j < p then kc j else if j = p then 141 * l + y else kc (j - 1))
    by_cases a1 : i < p
    · rw [if_pos a1]
      by_cases b1 : j < p
      · rw [if_pos b1]; exact h3 i j hij (by omega)
      · rw [if_neg b1]
        by_cases b2 : j = p
        · rw [if_pos b2]; exact p3 i a1
        · rw [if_neg b2]; exact h3 i (j - 1) (by omega) (by omega)
    · rw [if_neg a1, if_neg (show ¬ j < p by omega), if_neg (show ¬ j = p by omega)]
      by_cases a2 : i = p
      · rw [if_pos a2]
        have g1 := p4 (by omega)
        have g2 := nk p (by omega)
        by_cases b3 : j - 1 = p
        · rw [b3]; omega
        · have := h3 p (j - 1) (by omega) (by omega)
          omega
      · rw [if_neg a2]
        exact h3 (i - 1) (j - 1) (by omega) (by omega)
  · constructor
    · rintro (w | w)
      · obtain ⟨i, i1, i2⟩ := (h4 q).mp w
        by_cases a1 : i < p
        · refine ⟨i, by omega, ?_⟩
          show (if i < p then kc i else _) = q
          rw [if_pos a1]; exact i2
        · refine ⟨i + 1, by omega, ?_⟩
          show (if i + 1 < p then kc (i + 1) else if i + 1 = p then 141 * l + y else kc (i + 1 - 1)) = q
          rw [if_neg (by omega), if_neg (by omega), show i + 1 - 1 = i by omega]; exact i2
      · refine ⟨p, by omega, ?_⟩
        show (if p < p then kc p else if p = p then 141 * l + y else kc (p - 1)) = q
        rw [if_neg (by omega), if_pos rfl, w]
    · rintro ⟨i, i1, i2⟩
      have i2 : (if i < p then kc i else if i = p then 141 * l + y else kc (i - 1)) = q := i2
      by_cases a1 : i < p
      · rw [if_pos a1] at i2
        exact Or.inl ((h4 q).mpr ⟨i, by omega, i2⟩)
      · rw [if_neg a1] at i2
        by_cases a2 : i = p
        · rw [if_pos a2] at i2
          exact Or.inr i2.symm
        · rw [if_neg a2] at i2
          exact Or.inl ((h4 q).mpr ⟨i - 1, by omega, i2⟩)
  · show (if i < p then kc i else if i = p then 141 * l + y else kc (i - 1)) < 1410
    by_cases a1 : i < p
    · rw [if_pos a1]; exact h5 i (by omega)
    · rw [if_neg a1]
      by_cases a2 : i = p
      · rw [if_pos a2]; exact hq
      · rw [if_neg a2]; exact h5 (i - 1) (by omega)
  · rw [kp_st_ne q1, kp_st_ne q2]
    exact if_neg q2
  · rw [kp_st, if_neg (fun w => hj w.2), kp_st, if_neg (by omega)]
    show (if (73 : Nat) = 74 then _ else c 73) j = _
    rw [if_neg (by omega)]
theorem lk_at (h : lk_C c n kc K) (hn : n ≤ 42) {l y : Nat} (hl : l < 10) (hy : y < 141) (hK : K (141 * l + y)) : ∃ p, p < n ∧ kc p = 141 * l + y ∧ fx_LongNet_knotAt (nI l) (nI y) c = some (nI p) := by
  obtain ⟨p, p1, p2, p3, p4⟩ := lk_place h hn (show 141 * l + y < 1410 by omega)
  obtain ⟨h1, h2, h3, h4, h5⟩ := h
  obtain ⟨i, i1, i2⟩ := (h4 _).mp hK
  have hip : i = p := by
    rcases Nat.lt_trichotomy i p with w | w | w
    · have := p3 i w; omega
    · exact w
    · have := h3 p i w i1
      have := p4 (by omega)
      omega
  subst hip
  exact ⟨i, i1, i2, by unfold fx_LongNet_knotAt; rw [lk_key, p2, kp_b1]⟩
theorem lm_find (h : lk_M m n lm ym K) (hn : n ≤ 44) {l y : Nat} (hl : l < 10) (hy : y < 141) : (∃ i, i < n ∧ lm i = l ∧ ym i = y ∧ fx_D_nodeOf (nI l) (nI y) m = some (nI i, m)) ∨ ((∀ i, i < n → ¬ (lm i = l ∧ ym i = y)) ∧ (n < 44 → fx_D_nodeOf (nI l) (nI y) m = some (nI n, kv_st (kv_st (kv_st m 94 n (nI l)) 95 n (nI y)) 84 13 (nI (n + 1))))) := by
  obtain ⟨h1, h2, h3, h4⟩ := h
  have key := kp_inv (kv_u1 (fb_D_nodeOf_2 m (nI l) (nI y))) (fun i st => st = nI i ∧ ∀ j, j < i → ¬ (lm j = l ∧ ym j = y)) (fun z => Sum.elim (fun x => ∃ p, p < n ∧ x = nI p ∧ lm p = l ∧ ym p = y) (fun _ => ∀ j, j < n → ¬ (lm j = l ∧ ym j = y)) z) n ?_ ?_ (0 : Int32) ⟨rfl, fun j hj => absurd hj (Nat.not_lt_zero _)⟩
  · obtain ⟨z, z1, z2⟩ := key
    unfold fx_D_nodeOf
    rw [z1]
    cases z with
    | inl x =>
      obtain ⟨p, p1, p2, p3, p4⟩ := z2
      exact Or.inl ⟨p, p1, p3, p4, by rw [p2]; rfl⟩
    | inr _ =>
      refine Or.inr ⟨z2, fun hlt => ?_⟩
      show kv_gd _ _ = _
      rw [h1, kp_gd _ (kp_in_nI hlt (by omega)), nI_clamp (by omega)]
      simp only [kp_let]
      have e1 : kv_st m 94 n (nI l) 84 13 = nI n := by rw [kp_st_ne (by omega)]; exact h1
      have e2 : kv_st (kv_st m 94 n (nI l)) 95 n (nI y) 84 13 = nI n := by rw [kp_st_ne (by omega)]; exact e1
      rw [e1, kp_gd _ (kp_in_nI hlt (by omega)), nI_clamp (by omega), e2]
      have e3 : kv_st (kv_st (kv_st m 94 n (nI l)) 95 n (nI y)) 84 13 (nI n + 1) 84 13 = nI n + 1 := by rw [kp_st, if_pos ⟨rfl, rfl⟩]
      rw [e3, nI_1, nI_pred]
  · rintro i st hi ⟨rfl, hu⟩
    show (∃ s2, fb_D_nodeOf_2 m (nI l) (nI y) (nI i) = some (.inl s2) ∧ _) ∨ ∃ r, fb_D_nodeOf_2 m (nI l) (nI y) (nI i) = some (.inr r) ∧ _
    obtain ⟨a1, a2, a3, a4⟩ := h2 i hi
    have go : ¬ (lm i = l ∧ ym i = y) → ∃ s2, fj_D_nodeOf_32 (nI i) = some (.inl s2) ∧ s2 = nI (i + 1) ∧ ∀ j, j < i + 1 → ¬ (lm j = l ∧ ym j = y) := by
      intro w
      refine ⟨nI (i + 1), by unfold fj_D_nodeOf_32; rw [nI_1], rfl, fun j hj => ?_⟩
      by_cases w2 : j = i
      · rw [w2]; exact w
      · exact hu j (by omega)
    unfold fb_D_nodeOf_2
    rw [h1, if_neg (nI_ge hi (by omega)), kp_gd _ (kp_in_nI (by omega) (by omega)), nI_clamp (by omega), a1, a2]
    by_cases z1 : lm i = l
    · rw [if_pos (by rw [z1])]
      by_cases z2 : ym i = y
      · rw [if_pos (by rw [z2])]
        exact Or.inr ⟨.inl (nI i), rfl, i, hi, rfl, z1, z2⟩
      · rw [if_neg (fun w => z2 ((nI_eq (by omega) (by omega)).mp w))]
        exact Or.inl (go (fun w => z2 w.2))
    · rw [if_neg (fun w => z1 ((nI_eq (by omega) (by omega)).mp w))]
      exact Or.inl (go (fun w => z1 w.1))
  · rintro st ⟨rfl, hu⟩
    refine ⟨.inr (), ?_, hu⟩
    show fb_D_nodeOf_2 m (nI l) (nI y) (nI n) = _
    unfold fb_D_nodeOf_2
    rw [h1, if_pos (nI_le (Nat.le_refl _) (by omega))]
/-- what stays when nodes come -/
def lm_fr (m m2 : Nat → Nat → Int32) : Prop := (∀ q, q ≠ 84 → q ≠ 94 → q ≠ 95 → m2 q = m q) ∧ ∀ j, j ≠ 13 → m2 84 j = m 84 j
theorem lm_fr_trans {m2 m3 : Nat → Nat → Int32} (h1 : lm_fr m m2) (h2 : lm_fr m2 m3) : lm_fr m m3 := ⟨fun q a b d => by rw [h2.1 q a b d, h1.1 q a b d], fun j hj => by rw [h2.2 j hj, h1.2 j hj]⟩
theorem lm_add (h : lk_M m n lm ym K) (hn : n < 44) {l y : Nat} (hl : l < 10) (hy : y < 141) : ∃ i m2 n2 lm2 ym2, fx_D_nodeOf (nI l) (nI y) m = some (nI i, m2) ∧ (n ≤ n2 ∧ n2 ≤ n + 1) ∧ lk_M m2 n2 lm2 ym2 (fun q => K q ∨ q = 141 * l + y) ∧ lm_fr m m2 := by
  rcases lm_find h (by omega) hl hy with ⟨i, i1, i2, i3, i4⟩ | ⟨g1, g2⟩
  · obtain ⟨h1, h2, h3, h4⟩ := h
    refine ⟨i, m, n, lm, ym, i4, ⟨Nat.le_refl _, by omega⟩, ⟨h1, h2, h3, fun q => ?_⟩, fun _ _ _ _ => rfl, fun _ _ => rfl⟩
    constructor
    · rintro (w | w)
      · exact (h4 q).mp w
      · exact ⟨i, i1, by rw [i2, i3, w]⟩
    · exact fun w => Or.inl ((h4 q).mpr w)
  · obtain ⟨h1, h2, h3, h4⟩ := h
    refine ⟨n, _, n + 1, fun j => if j = n then l else lm j, fun j => if j = n then y else ym j, g2 hn, ⟨by omega, by omega⟩, ⟨by rw [kp_st, if_pos ⟨rfl, rfl⟩], fun i hi => ?_, fun i j hi hj e => ?_, fun q => ?_⟩, fun q q1 q2 q3 => by rw [kp_st_ne q1, kp_st_ne q3, kp_st_ne q2], fun j hj => by rw [kp_st, if_neg (fun w => hj w.2), kp_st_ne (by omega), kp_st_ne (by omega)]⟩
    · have e98 : kv_st (kv_st (kv_st m 94 n (nI l)) 95 n (nI y)) 84 13 (nI (n + 1)) 94 i = if i = n then nI l else m 94 i := by
        rw [kp_st_ne (by omega), kp_st_ne (by omega), kp_st]
        by_cases w : i = n
        · rw [if_pos ⟨rfl, w⟩, if_pos w]
        · rw [if_neg (fun x => w x.2), if_neg w]
      have e99 : kv_st (kv_st (kv_st m 94 n (nI l)) 95 n (nI y)) 84 13 (nI (n + 1)) 95 i = if i = n then nI y else m 95 i := by
        rw [kp_st_ne (by omega), kp_st, kp_st_ne (by omega)]
        by_cases w : i = n
        · rw [if_pos ⟨rfl, w⟩, if_pos w]
        · rw [if_neg (fun x => w x.2), if_neg w]
      rw [e98, e99]
      by_cases w : i = n
      · simp only [if_pos w]
        exact ⟨trivial, trivial, hl, hy⟩
      · simp only [if_neg w]
        exact h2 i (by omega)
    · simp only at e
      by_cases w : i = n
      · by_cases w2 : j = n
        · rw [w, w2]
        · rw [if_pos w, if_pos w, if_neg w2, if_neg w2] at e
          have := (h2 j (by omega)).2.2.2
          exact absurd ⟨by omega, by omega⟩ (g1 j (by omega))
      · by_cases w2 : j = n
        · rw [if_neg w, if_neg w, if_pos w2, if_pos w2] at e
          have := (h2 i (by omega)).2.2.2
          exact absurd ⟨by omega, by omega⟩ (g1 i (by omega))
        · rw [if_neg w, if_neg w, if_neg w2, if_neg w2] at e
          exact h3 i j (by omega) (by omega) e
    · constructor
      · rintro (w | w)
        · obtain ⟨i, i1, i2⟩ := (h4 q).mp w
          refine ⟨i, by omega, ?_⟩
          simp only [if_neg (show ¬ i = n by omega)]
          exact i2
        · refine ⟨n, by omega, ?_⟩
          simp only [if_true]
          exact w.symm
      · rintro ⟨i, i1, i2⟩
        simp only at i2
        by_cases w : i = n
        · rw [if_pos w, if_pos w] at i2
          exact Or.inr i2.symm
        · rw [if_neg w, if_neg w] at i2
          exact Or.inl ((h4 q).mpr ⟨i, by omega, i2⟩)
theorem lm_at (h : lk_M m n lm ym K) (hn : n ≤ 44) {l y : Nat} (hl : l < 10) (hy : y < 141) (hK : K (141 * l + y)) : ∃ i, i < n ∧ lm i = l ∧ ym i = y ∧ fx_D_nodeOf (nI l) (nI y) m = some (nI i, m) := by
  rcases lm_find h hn hl hy with g | ⟨g1, -⟩
  · exact g
  · obtain ⟨h1, h2, h3, h4⟩ := h
    obtain ⟨i, i1, i2⟩ := (h4 _).mp hK
    have := (h2 i i1).2.2.2
    exact absurd ⟨by omega, by omega⟩ (g1 i i1)
theorem lk_congr {K2 : Nat → Prop} (h : lk_C c n kc K) (e : ∀ q, K q ↔ K2 q) : lk_C c n kc K2 := by
  obtain ⟨h1, h2, h3, h4, h5⟩ := h
  exact ⟨h1, h2, h3, fun q => (e q).symm.trans (h4 q), h5⟩
theorem lm_congr {K2 : Nat → Prop} (h : lk_M m n lm ym K) (e : ∀ q, K q ↔ K2 q) : lk_M m n lm ym K2 := by
  obtain ⟨h1, h2, h3, h4⟩ := h
  exact ⟨h1, h2, h3, fun q => (e q).symm.trans (h4 q)⟩
end LK
