/-! ===== plans: the class's table ===== -/
/-- the class's two ways of narrowing (over the rows 78 and 79) are one text over a row r1 -/
noncomputable def pz_short_60 (x1 : Int32) (c6 : (Nat → Nat → Int32)) : Option ((Int32 × (Nat → Nat → Int32)) ⊕ (Nat → Nat → Int32)) :=
  some (.inl ((x1 + (1 : Int32)), c6))
noncomputable def pz_short_3 (p4 : Int32) (r1 : Nat) (p2 : Int32) (p3 : Int32) (x1 : Int32) (c2 : (Nat → Nat → Int32)) : Option ((Int32 × (Nat → Nat → Int32)) ⊕ (Nat → Nat → Int32)) :=
  if (c2 77 7) ≤ x1 then
    some (.inr c2)
  else
    kv_gd (kv_in ((p4 * (10 : Int32)) + x1) 100) (
    kv_let (c2 r1 ((p4 * (10 : Int32)) + x1).toNatClampNeg) (fun v5 =>
    if v5 = (2147483647 : Int32) then
      pz_short_60 x1 c2
    else
      kv_gd (kv_in ((p2 * (10 : Int32)) + x1) 100) (
      if (c2 r1 ((p2 * (10 : Int32)) + x1).toNatClampNeg) ≤ (p3 + v5) then
        pz_short_60 x1 c2
      else
        kv_let (kv_st c2 r1 ((p2 * (10 : Int32)) + x1).toNatClampNeg (p3 + v5)) (fun c8 =>
        pz_short_60 x1 c8))))
noncomputable def pz_short (r1 : Nat) (p2 : Int32) (p3 : Int32) (p4 : Int32) (c : (Nat → Nat → Int32)) : Option (Nat → Nat → Int32) :=
  (kv_loop (kv_u2 (pz_short_3 p4 r1 p2 p3)) ((0 : Int32), c)).bind (kv_u1 (fun c3 =>
  some c3))
noncomputable def pz_narrow_85 (x4 : Int32) (c9 : (Nat → Nat → Int32)) : Option ((Int32 × (Nat → Nat → Int32)) ⊕ (Nat → Nat → Int32)) :=
  some (.inl ((x4 + (1 : Int32)), c9))
noncomputable def pz_narrow_45 (p2 : Int32) (r1 : Nat) (p4 : Int32) (p3 : Int32) (x4 : Int32) (c5 : (Nat → Nat → Int32)) : Option ((Int32 × (Nat → Nat → Int32)) ⊕ (Nat → Nat → Int32)) :=
  if (c5 77 7) ≤ x4 then
    some (.inr c5)
  else
    kv_gd (kv_in ((x4 * (10 : Int32)) + p2) 100) (
    kv_let (c5 r1 ((x4 * (10 : Int32)) + p2).toNatClampNeg) (fun v8 =>
    if v8 = (2147483647 : Int32) then
      pz_narrow_85 x4 c5
    else
      kv_bind1 (pz_short r1 x4 (v8 + p4) p3 c5) (fun c10 =>
      pz_narrow_85 x4 c10)))
noncomputable def pz_narrow_27 (p2 : Int32) (p3 : Int32) (r1 : Nat) (p4 : Int32) (c : (Nat → Nat → Int32)) : Option (Bool × (Nat → Nat → Int32)) :=
  kv_gd (kv_in ((p2 * (10 : Int32)) + p3) 100) (
  if p4 < (c r1 ((p2 * (10 : Int32)) + p3).toNatClampNeg) then
    (kv_loop (kv_u2 (pz_narrow_45 p2 r1 p4 p3)) ((0 : Int32), c)).bind (kv_u1 (fun c6 =>
    some (true, c6)))
  else
    some (true, c))
noncomputable def pz_narrow (r1 : Nat) (p2 : Int32) (p3 : Int32) (p4 : Int32) (c : (Nat → Nat → Int32)) : Option (Bool × (Nat → Nat → Int32)) :=
  kv_gd (kv_in ((p3 * (10 : Int32)) + p2) 100) (
  kv_let (c r1 ((p3 * (10 : Int32)) + p2).toNatClampNeg) (fun v2 =>
  if v2 = (2147483647 : Int32) then
    pz_narrow_27 p2 p3 r1 p4 c
  else
    if 0 ≤ (v2 + p4) then
      pz_narrow_27 p2 p3 r1 p4 c
    else
      some (false, c)))
section PT
variable {c : Nat → Nat → Int32} {r n : Nat}
def pn_t (c : Nat → Nat → Int32) (r i j : Nat) : Int := if c r (10 * i + j) = (2147483647 : Int32) then 1000000000000 else (c r (10 * i + j)).toInt
theorem pn_ix (a b : Nat) : (nI a * (10 : Int32)) + nI b = nI (10 * a + b) := by
  simp only [kp_lit]
  rw [pk_mul, nI_add, Nat.mul_comm]
theorem pn_t_or (c : Nat → Nat → Int32) (r i j : Nat) : (c r (10 * i + j) = (2147483647 : Int32) ∧ pn_t c r i j = 1000000000000) ∨ (c r (10 * i + j) ≠ (2147483647 : Int32) ∧ pn_t c r i j = (c r (10 * i + j)).toInt ∧ pn_t c r i j ≠ 1000000000000 ∧ -2147483648 ≤ pn_t c r i j ∧ pn_t c r i j < 2147483647) := by
  unfold pn_t
  by_cases q : c r (10 * i + j) = (2147483647 : Int32)
  · exact Or.inl ⟨q, if_pos q⟩
  · rw [if_neg q]
    have h1 := kp_rng (c r (10 * i + j))
    have h2 : (c r (10 * i + j)).toInt ≠ 2147483647 := fun z => q ((kp_eq _ _).mpr (z.trans ki_F.symm))
    exact Or.inr ⟨q, rfl, by omega, by omega, by omega⟩
theorem pn_t_st (c : Nat → Nat → Int32) (r i j : Nat) (v : Int32) (hv : v.toInt ≠ 2147483647) (hj : j < 10) (x y : Nat) (hy : y < 10) : pn_t (kv_st c r (10 * i + j) v) r x y = if x = i ∧ y = j then v.toInt else pn_t c r x y := by
  unfold pn_t
  rw [kp_st]
  by_cases q : x = i ∧ y = j
  · rw [if_pos q, if_pos (show r = r ∧ 10 * x + y = 10 * i + j from ⟨rfl, by rw [q.1, q.2]⟩), if_neg (fun z => hv (by rw [z]; exact ki_F))]
  · rw [if_neg q, if_neg (show ¬ (r = r ∧ 10 * x + y = 10 * i + j) by omega)]
theorem pn_short (hr7 : r ≠ 77) (hn : n ≤ 10) (h6 : c 77 7 = nI n) {i v : Nat} (hi : i < n) (hv : v < n) {d : Int32} (hd1 : -30000000 ≤ d.toInt) (hd2 : d.toInt ≤ 30000000) (hB : ∀ j, j < n → pn_t c r v j = 1000000000000 ∨ (-30000000 ≤ pn_t c r v j ∧ pn_t c r v j ≤ 30000000)) : ∃ c2, pz_short r (nI i) d (nI v) c = some c2 ∧ (∀ q, q ≠ r → c2 q = c q) ∧ ∀ x y, x < n → y < n → pn_t c2 r x y = if x = i ∧ pn_t c r v y ≠ 1000000000000 ∧ d.toInt + pn_t c r v y < pn_t c r x y then d.toInt + pn_t c r v y else pn_t c r x y := by
  have key := kp_inv (kv_u2 (pz_short_3 (nI v) r (nI i) d)) (fun j st => ∃ c3, st = (nI j, c3) ∧ (∀ q, q ≠ r → c3 q = c q) ∧ ∀ x y, x < n → y < n → pn_t c3 r x y = if y < j ∧ x = i ∧ pn_t c r v y ≠ 1000000000000 ∧ d.toInt + pn_t c r v y < pn_t c r x y then d.toInt + pn_t c r v y else pn_t c r x y) (fun c3 => (∀ q, q ≠ r → c3 q = c q) ∧ ∀ x y, x < n → y < n → pn_t c3 r x y = if y < n ∧ x = i ∧ pn_t c r v y ≠ 1000000000000 ∧ d.toInt + pn_t c r v y < pn_t c r x y then d.toInt + pn_t c r v y else pn_t c r x y) n ?_ ?_ ((0 : Int32), c) ⟨c, rfl, fun _ _ => rfl, fun x y _ _ => by rw [if_neg (by omega)]⟩
  · obtain ⟨c2, h1, h2, h3⟩ := key
    refine ⟨c2, ?_, h2, fun x y hx hy => ?_⟩
    · unfold pz_short
      rw [h1]; rfl
    · rw [h3 x y hx hy]
      by_cases z : x = i ∧ pn_t c r v y ≠ 1000000000000 ∧ d.toInt + pn_t c r v y < pn_t c r x y
      · rw [if_pos z, if_pos ⟨hy, z⟩]
      · rw [if_neg z, if_neg (fun w => z w.2)]
  · rintro j st hj ⟨c3, rfl, i1, i2⟩
    refine Or.inl ?_
    have e6 : c3 77 7 = nI n := by rw [i1 77 (fun z => hr7 z.symm)]; exact h6
    have ev : pn_t c3 r v j = pn_t c r v j := by rw [i2 v j hv hj, if_neg (by omega)]
    have ei : pn_t c3 r i j = pn_t c r i j := by rw [i2 i j hi hj, if_neg (by omega)]
    -- where nothing is written
    have stay : ¬ (pn_t c r v j ≠ 1000000000000 ∧ d.toInt + pn_t c r v j < pn_t c r i j) → ∀ x y, x < n → y < n → pn_t c3 r x y = if y < j + 1 ∧ x = i ∧ pn_t c r v y ≠ 1000000000000 ∧ d.toInt + pn_t c r v y < pn_t c r x y then d.toInt + pn_t c r v y else pn_t c r x y := by
      intro q x y hx hy
      rw [i2 x y hx hy]
      by_cases z : y = j
      · subst z
        rw [if_neg (by omega)]
        by_cases z2 : x = i
        · subst z2
          rw [if_neg (fun w => q w.2.2)]
        · rw [if_neg (fun w => z2 w.2.1)]
      · by_cases z2 : y < j ∧ x = i ∧ pn_t c r v y ≠ 1000000000000 ∧ d.toInt + pn_t c r v y < pn_t c r x y
        · rw [if_pos z2, if_pos ⟨by omega, z2.2⟩]
        · rw [if_neg z2, if_neg (fun w => z2 ⟨by omega, w.2⟩)]
    have T1 : kv_u2 (pz_short_3 (nI v) r (nI i) d) (nI j, c3) = pz_short_3 (nI v) r (nI i) d (nI j) c3 := rfl
    rw [T1]
    unfold pz_short_3
    rw [e6, if_neg (nI_ge hj (by omega)), pn_ix, pn_ix, kp_gd _ (kp_in_nI (show 10 * v + j < 100 by omega) (by omega)), nI_clamp (show 10 * v + j < 2 ^ 31 by omega), nI_clamp (show 10 * i + j < 2 ^ 31 by omega), kp_let]
    rcases pn_t_or c3 r v j with ⟨a1, a2⟩ | ⟨a1, a2, a3, a4, a5⟩
    · rw [if_pos a1]
      exact ⟨(nI (j + 1), c3), by unfold pz_short_60; rw [nI_1], c3, rfl, i1, stay (fun w => w.1 (by rw [← ev]; exact a2))⟩
    · rw [if_neg a1, kp_gd _ (kp_in_nI (show 10 * i + j < 100 by omega) (by omega))]
      have hb := hB j hj
      have hadd : (d + c3 r (10 * v + j)).toInt = d.toInt + pn_t c r v j := by
        rw [kp_add (by omega) (by omega)]
        omega
      by_cases q : c3 r (10 * i + j) ≤ d + c3 r (10 * v + j)
      · rw [if_pos q]
        refine ⟨(nI (j + 1), c3), by unfold pz_short_60; rw [nI_1], c3, rfl, i1, stay (fun w => ?_)⟩
        rw [kp_le, hadd] at q
        rcases pn_t_or c3 r i j with ⟨b1, b2⟩ | ⟨b1, b2, -⟩
        · rw [b1, ki_F] at q; omega
        · omega
      · rw [if_neg q, kp_let]
        rw [kp_le, hadd] at q
        refine ⟨(nI (j + 1), _), by unfold pz_short_60; rw [nI_1], _, rfl, fun z hz => by rw [kp_st_ne hz]; exact i1 z hz, fun x y hx hy => ?_⟩
        rw [pn_t_st _ _ _ _ _ (by omega) (by omega) _ _ (by omega), hadd]
        by_cases z : x = i ∧ y = j
        · obtain ⟨rfl, rfl⟩ := z
          have hlt : d.toInt + pn_t c r v y < pn_t c r x y := by
            rcases pn_t_or c3 r x y with ⟨b1, b2⟩ | ⟨b1, b2, -⟩ <;> omega
          rw [if_pos ⟨rfl, rfl⟩, if_pos ⟨by omega, rfl, by omega, hlt⟩]
        · rw [if_neg z, i2 x y hx hy]
          by_cases z2 : y < j ∧ x = i ∧ pn_t c r v y ≠ 1000000000000 ∧ d.toInt + pn_t c r v y < pn_t c r x y
          · rw [if_pos z2, if_pos ⟨by omega, z2.2⟩]
          · rw [if_neg z2, if_neg (fun w => z2 ⟨by omega, w.2⟩)]
  · rintro st ⟨c3, rfl, i1, i2⟩
    have e6 : c3 77 7 = nI n := by rw [i1 77 (fun z => hr7 z.symm)]; exact h6
    refine ⟨c3, ?_, i1, i2⟩
    show pz_short_3 (nI v) r (nI i) d (nI n) c3 = _
    unfold pz_short_3
    rw [e6, if_pos (nI_le (Nat.le_refl _) (by omega))]
theorem pn_narrow (hr7 : r ≠ 77) (hn : n ≤ 10) (h6 : c 77 7 = nI n) {u v : Nat} (hu : u < n) (hv : v < n) {w : Int32} (hw1 : -250000 ≤ w.toInt) (hw2 : w.toInt ≤ 250000) (hB : ∀ i j, i < n → j < n → pn_t c r i j = 1000000000000 ∨ (-25000000 ≤ pn_t c r i j ∧ pn_t c r i j ≤ 12000000)) (hsame : pn_t c r u v ≤ w.toInt → ∀ i j, i < n → j < n → pn_1 u v w.toInt (pn_t c r) i j = pn_t c r i j) : (pn_t c r v u ≠ 1000000000000 ∧ pn_t c r v u + w.toInt < 0 ∧ pz_narrow r (nI u) (nI v) w c = some (false, c)) ∨ ((pn_t c r v u = 1000000000000 ∨ 0 ≤ pn_t c r v u + w.toInt) ∧ ∃ c2, pz_narrow r (nI u) (nI v) w c = some (true, c2) ∧ (∀ q, q ≠ r → c2 q = c q) ∧ ∀ x y, x < n → y < n → pn_t c2 r x y = pn_1 u v w.toInt (pn_t c r) x y) := by
  -- the loop
  have L : (pn_t c r v u = 1000000000000 ∨ 0 ≤ pn_t c r v u + w.toInt) → ∃ c2, pz_narrow_27 (nI u) (nI v) r w c = some (true, c2) ∧ (∀ q, q ≠ r → c2 q = c q) ∧ ∀ x y, x < n → y < n → pn_t c2 r x y = pn_1 u v w.toInt (pn_t c r) x y := by
    intro ok
    unfold pz_narrow_27
    rw [pn_ix, kp_gd _ (kp_in_nI (show 10 * u + v < 100 by omega) (by omega)), nI_clamp (show 10 * u + v < 2 ^ 31 by omega)]
    by_cases q : w < c r (10 * u + v)
    · rw [if_pos q]
      have vrow : ∀ y, y < n → pn_1 u v w.toInt (pn_t c r) v y = pn_t c r v y := fun y hy => by
        rcases pn_1_or (u := u) (v := v) (w := w.toInt) (T := pn_t c r) v y with e | ⟨a1, a2, a3⟩
        · exact e
        · have := pn_1_le (u := u) (v := v) (w := w.toInt) (T := pn_t c r) v y
          omega
      have key := kp_inv (kv_u2 (pz_narrow_45 (nI u) r w (nI v))) (fun i st => ∃ c3, st = (nI i, c3) ∧ (∀ q, q ≠ r → c3 q = c q) ∧ ∀ x y, x < n → y < n → pn_t c3 r x y = if x < i then pn_1 u v w.toInt (pn_t c r) x y else pn_t c r x y) (fun c3 => (∀ q, q ≠ r → c3 q = c q) ∧ ∀ x y, x < n → y < n → pn_t c3 r x y = pn_1 u v w.toInt (pn_t c r) x y) n ?_ ?_ ((0 : Int32), c) ⟨c, rfl, fun _ _ => rfl, fun x y _ _ => by rw [if_neg (by omega)]⟩
      · obtain ⟨c2, h1, h2⟩ := key
        exact ⟨c2, by rw [h1]; rfl, h2⟩
      · rintro i st hi ⟨c3, rfl, i1, i2⟩
        refine Or.inl ?_
        have e6 : c3 77 7 = nI n := by rw [i1 77 (fun z => hr7 z.symm)]; exact h6
        have ev : ∀ y, y < n → pn_t c3 r v y = pn_t c r v y := fun y hy => by
          rw [i2 v y hv hy]
          split
          · exact vrow y hy
          · rfl
        have ei : ∀ y, y < n → pn_t c3 r i y = pn_t c r i y := fun y hy => by rw [i2 i y hi hy, if_neg (by omega)]
        have T1 : kv_u2 (pz_narrow_45 (nI u) r w (nI v)) (nI i, c3) = pz_narrow_45 (nI u) r w (nI v) (nI i) c3 := rfl
        rw [T1]
        unfold pz_narrow_45
        rw [e6, if_neg (nI_ge hi (by omega)), pn_ix, kp_gd _ (kp_in_nI (show 10 * i + u < 100 by omega) (by omega)), nI_clamp (show 10 * i + u < 2 ^ 31 by omega), kp_let]
        have hiu := ei u hu
        rcases pn_t_or c3 r i u with ⟨a1, a2⟩ | ⟨a1, a2, a3, a4, a5⟩
        · rw [if_pos a1]
          refine ⟨(nI (i + 1), c3), by unfold pz_narrow_85; rw [nI_1], c3, rfl, i1, fun x y hx hy => ?_⟩
          rw [i2 x y hx hy]
          by_cases z : x = i
          · subst z
            rw [if_neg (Nat.lt_irrefl _), if_pos (Nat.lt_succ_self _)]
            unfold pn_1
            rw [if_neg (fun z => z.1 (by omega))]
          · by_cases z2 : x < i
            · rw [if_pos z2, if_pos (by omega)]
            · rw [if_neg z2, if_neg (by omega)]
        · rw [if_neg a1]
          have hb := hB i u hi hu
          have hadd : (c3 r (10 * i + u) + w).toInt = pn_t c r i u + w.toInt := by
            rw [kp_add (by omega) (by omega)]
            omega
          obtain ⟨c4, g1, g2, g3⟩ := pn_short (c := c3) hr7 hn e6 hi hv (d := c3 r (10 * i + u) + w) (by omega) (by omega) (fun j hj => by rw [ev j hj]; have := hB v j hv hj; omega)
          rw [g1, kp_b1]
          refine ⟨(nI (i + 1), c4), by unfold pz_narrow_85; rw [nI_1], c4, rfl, fun z hz => by rw [g2 z hz, i1 z hz], fun x y hx hy => ?_⟩
          rw [g3 x y hx hy, hadd, ev y hy]
          by_cases z : x = i
          · subst z
            rw [ei y hy, if_pos (Nat.lt_succ_self _)]
            unfold pn_1
            by_cases z2 : pn_t c r v y ≠ 1000000000000 ∧ pn_t c r x u + w.toInt + pn_t c r v y < pn_t c r x y
            · rw [if_pos ⟨rfl, z2⟩, if_pos ⟨by omega, z2⟩]
            · rw [if_neg (fun z => z2 z.2), if_neg (fun z => z2 z.2)]
          · rw [if_neg (fun w => z w.1), i2 x y hx hy]
            by_cases z2 : x < i
            · rw [if_pos z2, if_pos (by omega)]
            · rw [if_neg z2, if_neg (by omega)]
      · rintro st ⟨c3, rfl, i1, i2⟩
        have e6 : c3 77 7 = nI n := by rw [i1 77 (fun z => hr7 z.symm)]; exact h6
        refine ⟨c3, ?_, i1, fun x y hx hy => by rw [i2 x y hx hy, if_pos hx]⟩
        show pz_narrow_45 (nI u) r w (nI v) (nI n) c3 = _
        unfold pz_narrow_45
        rw [e6, if_pos (nI_le (Nat.le_refl _) (by omega))]
    · rw [if_neg q]
      refine ⟨c, rfl, fun _ _ => rfl, fun x y hx hy => (hsame ?_ x y hx hy).symm⟩
      rw [kp_lt] at q
      rcases pn_t_or c r u v with ⟨b1, b2⟩ | ⟨b1, b2, -⟩
      · rw [b1, ki_F] at q; omega
      · omega
  unfold pz_narrow
  rw [pn_ix, kp_gd _ (kp_in_nI (show 10 * v + u < 100 by omega) (by omega)), nI_clamp (show 10 * v + u < 2 ^ 31 by omega), kp_let]
  rcases pn_t_or c r v u with ⟨a1, a2⟩ | ⟨a1, a2, a3, a4, a5⟩
  · rw [if_pos a1]
    exact Or.inr ⟨Or.inl a2, L (Or.inl a2)⟩
  · rw [if_neg a1]
    have hb := hB v u hv hu
    have hadd : (c r (10 * v + u) + w).toInt = pn_t c r v u + w.toInt := by
      rw [kp_add (by omega) (by omega)]
      omega
    have h0 : ((0 : Int32) ≤ c r (10 * v + u) + w) ↔ 0 ≤ pn_t c r v u + w.toInt := by
      rw [kp_le, hadd]
      exact Iff.rfl
    by_cases q : (0 : Int32) ≤ c r (10 * v + u) + w
    · rw [if_pos q]
      exact Or.inr ⟨Or.inr (h0.mp q), L (Or.inr (h0.mp q))⟩
    · rw [if_neg q]
      exact Or.inl ⟨a3, Int.not_le.mp (fun z => q (h0.mpr z)), rfl⟩
/-- both rows' ways are that text -/
theorem pn_short78 (p2 p3 p4 : Int32) (c : Nat → Nat → Int32) : fx_Planner_shortenFrom p2 p3 p4 c = pz_short 78 p2 p3 p4 c := rfl
theorem pn_narrow78 (p2 p3 p4 : Int32) (c : Nat → Nat → Int32) : fx_Planner_narrow p2 p3 p4 c = pz_narrow 78 p2 p3 p4 c := rfl
theorem pn_short79 (p2 p3 p4 : Int32) (c : Nat → Nat → Int32) : fx_Planner_shortenFrom_77_79 p2 p3 p4 c = pz_short 79 p2 p3 p4 c := rfl
theorem pn_narrow79 (p2 p3 p4 : Int32) (c : Nat → Nat → Int32) : fx_Planner_narrow_77_79 p2 p3 p4 c = pz_narrow 79 p2 p3 p4 c := rfl
end PT
