/-! ===== nets: how they are built ===== -/
section NB
variable {c m : Nat → Nat → Int32} {n e : Nat} {Sat : (Nat → Int) → Prop}
theorem ne_congr {S2 : (Nat → Int) → Prop} (h : ne_N c n e Sat) (hS : ∀ x, Sat x ↔ S2 x) : ne_N c n e S2 := by
  obtain ⟨fr, to, ln, h1, h2⟩ := h
  exact ⟨fr, to, ln, h1, fun x => (h2 x).trans (hS x)⟩
theorem md_congr {f : Nat → Int64} {S2 : (Nat → Int) → Prop} (h : md_N m f n Sat) (hS : ∀ x, Sat x ↔ S2 x) : md_N m f n S2 := by
  obtain ⟨h1, h2, h3, h4, h5⟩ := h
  exact ⟨h1, h2, h3, h4, fun x => (h5 x).trans (hS x)⟩
/-- what changes when an edge comes -/
def ne_fr (c c2 : Nat → Nat → Int32) (e0 : Nat) : Prop := (∀ q, q < 68 ∨ 71 < q → c2 q = c q) ∧ (∀ j, j ≠ 5 → c2 68 j = c 68 j) ∧ ∀ q j, 69 ≤ q → q ≤ 71 → j < e0 → c2 q j = c q j
theorem ne_fr_refl (e0 : Nat) : ne_fr c c e0 := ⟨fun _ _ => rfl, fun _ _ => rfl, fun _ _ _ _ _ => rfl⟩
theorem ne_fr_trans {c2 c3 : Nat → Nat → Int32} {e0 e1 : Nat} (he : e0 ≤ e1) (h1 : ne_fr c c2 e0) (h2 : ne_fr c2 c3 e1) : ne_fr c c3 e0 :=
  ⟨fun q hq => by rw [h2.1 q hq, h1.1 q hq], fun j hj => by rw [h2.2.1 j hj, h1.2.1 j hj], fun q j a b d => by rw [h2.2.2 q j a b (by omega), h1.2.2 q j a b d]⟩
theorem ne_addE {fr to : Nat → Nat} {ln : Nat → Int} (h : ne_E c n e fr to ln) (he : e < 124) {a b : Nat} (ha : a < n) (hb : b < n) {w : Int32} (hw1 : -250000 ≤ w.toInt) (hw2 : w.toInt ≤ 250000) : ∃ c2, fx_Net_addEdge (nI a) (nI b) w c = some c2 ∧ ne_fr c c2 e ∧ ne_E c2 n (e + 1) (fun i => if i = e then a else fr i) (fun i => if i = e then b else to i) (fun i => if i = e then w.toInt else ln i) := by
  obtain ⟨n42, m124, en, em, hed⟩ := h
  refine ⟨kv_st (kv_st (kv_st (kv_st c 69 e (nI a)) 70 e (nI b)) 71 e w) 68 5 (nI (e + 1)), ?_, ⟨fun q hq => ?_, fun j hj => ?_, fun q j a1 a2 a3 => ?_⟩, n42, by omega, ?_, ?_, fun i hi => ?_⟩
  · unfold fx_Net_addEdge
    have b2 : ¬ (124 : Int32) ≤ nI e := nI_ge (b := 124) he (by omega)
    rw [em, if_neg b2, ne_isKnot en n42 ha, ne_isKnot en n42 hb, kp_b1, if_pos rfl, kp_b1, if_pos rfl, kp_gd _ (kp_in_nI he (by omega)), nI_clamp (by omega)]
    simp only [kp_let]
    have e1 : kv_st c 69 e (nI a) 68 5 = nI e := by rw [kp_st_ne (by omega)]; exact em
    have e2 : kv_st (kv_st c 69 e (nI a)) 70 e (nI b) 68 5 = nI e := by rw [kp_st_ne (by omega)]; exact e1
    have e3 : kv_st (kv_st (kv_st c 69 e (nI a)) 70 e (nI b)) 71 e w 68 5 = nI e := by rw [kp_st_ne (by omega)]; exact e2
    rw [e1, kp_gd _ (kp_in_nI he (by omega)), nI_clamp (by omega), e2, kp_gd _ (kp_in_nI he (by omega)), nI_clamp (by omega), e3, nI_1]
  · rw [kp_st_ne (by omega), kp_st_ne (by omega), kp_st_ne (by omega), kp_st_ne (by omega)]
  · rw [kp_st, if_neg (by omega), kp_st_ne (by omega), kp_st_ne (by omega), kp_st_ne (by omega)]
  · rw [kp_st, if_neg (by omega), kp_st, if_neg (by omega), kp_st, if_neg (by omega), kp_st, if_neg (by omega)]
  · rw [kp_st, if_neg (by omega), kp_st_ne (by omega), kp_st_ne (by omega), kp_st_ne (by omega)]; exact en
  · rw [kp_st, if_pos ⟨rfl, rfl⟩]
  · simp only [kp_st]
    by_cases z : i = e
    · subst z
      simp
      exact ⟨ha, hb, hw1, hw2⟩
    · simp [z]
      exact hed i (by omega)
theorem nt_sol_add {fr to : Nat → Nat} {ln : Nat → Int} {a b : Nat} {w : Int} (x : Nat → Int) : nt_sol (e + 1) (fun i => if i = e then a else fr i) (fun i => if i = e then b else to i) (fun i => if i = e then w else ln i) x ↔ nt_sol e fr to ln x ∧ x b ≤ x a + w := by
  constructor
  · intro h
    refine ⟨fun i hi => ?_, ?_⟩
    · have := h i (by omega)
      simp only [if_neg (show ¬ i = e by omega)] at this
      exact this
    · have := h e (by omega)
      simp only [if_true] at this
      exact this
  · rintro ⟨h1, h2⟩ i hi
    by_cases z : i = e
    · simp only [z, if_true]; exact h2
    · simp only [if_neg z]; exact h1 i (by omega)
/-- a less b is lo .. hi -/
theorem ne_bound (h : ne_N c n e Sat) (he : e + 2 ≤ 124) {a b : Nat} (ha : a < n) (hb : b < n) {lo hi : Int32} (l1 : -250000 ≤ lo.toInt) (l2 : lo.toInt ≤ 250000) (g1 : -250000 ≤ hi.toInt) (g2 : hi.toInt ≤ 250000) : ∃ c2, fx_Net_bound (nI a) (nI b) lo hi c = some c2 ∧ ne_fr c c2 e ∧ ne_N c2 n (e + 2) (fun x => Sat x ∧ lo.toInt ≤ x a - x b ∧ x a - x b ≤ hi.toInt) := by
  obtain ⟨fr, to, ln, hE, hS⟩ := h
  have hneg : (-lo).toInt = -lo.toInt := by
    rw [Int32.toInt_neg, kp_bmod (by omega) (by omega)]
  obtain ⟨c1, a1, a2, a3⟩ := ne_addE hE (by omega) hb ha g1 g2
  obtain ⟨c2, b1, b2, b3⟩ := ne_addE (w := -lo) a3 (by omega) ha hb (by rw [hneg]; omega) (by rw [hneg]; omega)
  refine ⟨c2, by unfold fx_Net_bound; rw [a1, kp_b1, b1, kp_b1], ne_fr_trans (by omega) a2 b2, _, _, _, b3, fun x => ?_⟩
  rw [nt_sol_add, nt_sol_add, hS, hneg]
  constructor
  · rintro ⟨⟨q1, q2⟩, q3⟩
    exact ⟨q1, by omega, by omega⟩
  · rintro ⟨q1, q2, q3⟩
    exact ⟨⟨q1, by omega⟩, by omega⟩
theorem ne_start (hn : n ≤ 42) : ∃ c2, fx_Net_start (nI n) c = some c2 ∧ (∀ q, q ≠ 68 → c2 q = c q) ∧ ne_N c2 n 0 (fun _ => True) := by
  refine ⟨kv_st (kv_st c 68 4 (nI n)) 68 5 0, rfl, fun q hq => by rw [kp_st_ne hq, kp_st_ne hq], fun _ => 0, fun _ => 0, fun _ => 0, ⟨hn, by omega, ?_, ?_, fun i hi => absurd hi (Nat.not_lt_zero _)⟩, fun x => ⟨fun _ => trivial, fun _ i hi => absurd hi (Nat.not_lt_zero _)⟩⟩
  · rw [kp_st, if_neg (by omega), kp_st, if_pos ⟨rfl, rfl⟩]
  · rw [kp_st, if_pos ⟨rfl, rfl⟩]; rfl
theorem md_begins (hn : n ≤ 44) (f : Nat → Int64) : ∃ f2, fx_D_begins (nI n) m f = some (kv_st m 84 13 (nI n), f2) ∧ md_N (kv_st m 84 13 (nI n)) f2 n (fun _ => True) := by
  have inner : ∀ i, i < n → ∀ f0 : Nat → Int64, (∀ u v, u < i → v < n → md_t f0 u v = if u = v then 0 else 1000000000000) → ∃ f2, kv_loop (kv_u2 (fb_D_begins_14 (nI n) (nI i))) ((0 : Int32), f0) = some f2 ∧ ∀ u v, u < i + 1 → v < n → md_t f2 u v = if u = v then 0 else 1000000000000 := by
    intro i hi f0 h0
    refine kp_inv (kv_u2 (fb_D_begins_14 (nI n) (nI i))) (fun j st => ∃ f3, st = (nI j, f3) ∧ (∀ u v, u < i → v < n → md_t f3 u v = if u = v then 0 else 1000000000000) ∧ ∀ v, v < j → md_t f3 i v = if i = v then 0 else 1000000000000) _ n ?_ ?_ ((0 : Int32), f0) ⟨f0, rfl, h0, fun v hv => absurd hv (Nat.not_lt_zero _)⟩
    · rintro j st hj ⟨f3, rfl, h3, h4⟩
      refine Or.inl ?_
      show ∃ s2, fb_D_begins_14 (nI n) (nI i) (nI j) f3 = some (.inl s2) ∧ _
      have go : ∀ x : Int64, x.toInt = (if i = j then 0 else 1000000000000) → ∃ s2, fj_D_begins_41 (nI i) (nI j) f3 x = some (.inl s2) ∧ ∃ f4, s2 = (nI (j + 1), f4) ∧ (∀ u v, u < i → v < n → md_t f4 u v = if u = v then 0 else 1000000000000) ∧ ∀ v, v < j + 1 → md_t f4 i v = if i = v then 0 else 1000000000000 := by
        intro x hx
        unfold fj_D_begins_41
        rw [md_ix, kp_gd _ (kp_in_nI (by omega) (by omega)), nI_clamp (by omega), kp_let, nI_1]
        refine ⟨_, rfl, _, rfl, fun u v hu hv => ?_, fun v hv => ?_⟩
        · rw [md_up _ _ _ _ (by omega) (by omega), if_neg (by omega)]
          exact h3 u v hu hv
        · rw [md_up _ _ _ _ (by omega) (by omega)]
          by_cases z : v = j
          · rw [if_pos ⟨rfl, z⟩, hx, z]
          · rw [if_neg (fun w => z w.2)]
            exact h4 v (by omega)
      unfold fb_D_begins_14
      rw [if_neg (nI_ge hj (by omega))]
      by_cases z : i = j
      · rw [if_pos (by rw [z])]
        exact go 0 (by rw [if_pos z]; exact kl_zz)
      · rw [if_neg (fun w => z ((nI_eq (by omega) (by omega)).mp w))]
        exact go 1000000000000 (by rw [if_neg z]; exact kl_O)
    · rintro st ⟨f3, rfl, h3, h4⟩
      refine ⟨f3, ?_, fun u v hu hv => ?_⟩
      · show fb_D_begins_14 (nI n) (nI i) (nI n) f3 = _
        unfold fb_D_begins_14
        rw [if_pos (nI_le (Nat.le_refl _) (by omega))]
      · by_cases z : u = i
        · rw [z]; exact h4 v hv
        · exact h3 u v (by omega) hv
  have key := kp_inv (kv_u2 (fb_D_begins_7 (nI n))) (fun i st => ∃ f3, st = (nI i, f3) ∧ ∀ u v, u < i → v < n → md_t f3 u v = if u = v then 0 else 1000000000000) (fun f2 => ∀ u v, u < n → v < n → md_t f2 u v = if u = v then 0 else 1000000000000) n ?_ ?_ ((0 : Int32), f) ⟨f, rfl, fun u v hu => absurd hu (Nat.not_lt_zero _)⟩
  · obtain ⟨f2, h1, h2⟩ := key
    refine ⟨f2, ?_, hn, by rw [kp_st, if_pos ⟨rfl, rfl⟩], ⟨fun i hi => by rw [h2 i i hi hi, if_pos rfl], fun i j hi hj => ?_⟩, fun i j hi hj hne => ?_, fun x => ⟨fun _ => trivial, fun _ i j hi hj hne => ?_⟩⟩
    · unfold fx_D_begins
      rw [kp_let, h1]; rfl
    · rw [h2 i j hi hj]
      split
      · exact Or.inr ⟨by omega, by omega⟩
      · exact Or.inl rfl
    · rw [h2 i j hi hj] at hne
      rw [h2 j i hj hi]
      split at hne
      · rename_i z; rw [if_pos z.symm]; omega
      · exact absurd rfl hne
    · rw [h2 i j hi hj] at hne ⊢
      split at hne
      · rename_i z; rw [if_pos z, z]; omega
      · exact absurd rfl hne
  · rintro i st hi ⟨f3, rfl, h3⟩
    refine Or.inl ?_
    obtain ⟨f4, g1, g2⟩ := inner i hi f3 h3
    refine ⟨(nI (i + 1), f4), ?_, f4, rfl, g2⟩
    show fb_D_begins_7 (nI n) (nI i) f3 = _
    unfold fb_D_begins_7
    rw [if_neg (nI_ge hi (by omega)), g1]
    show some _ = _
    rw [nI_1]
  · rintro st ⟨f3, rfl, h3⟩
    refine ⟨f3, ?_, h3⟩
    show fb_D_begins_7 (nI n) (nI n) f3 = _
    unfold fb_D_begins_7
    rw [if_pos (nI_le (Nat.le_refl _) (by omega))]
theorem md_binds {f : Nat → Int64} (h : md_N m f n Sat) {a b : Nat} (ha : a < n) (hb : b < n) (hab : a ≠ b) {lo hi : Int64} (l1 : -250000 ≤ lo.toInt) (l2 : lo.toInt ≤ 250000) (g1 : -250000 ≤ hi.toInt) (g2 : hi.toInt ≤ 250000) : ∃ f2, fx_D_binds (nI a) (nI b) lo hi f = some f2 ∧ md_N m f2 n (fun x => Sat x ∧ lo.toInt ≤ x a - x b ∧ x a - x b ≤ hi.toInt) := by
  obtain ⟨hn, hm, ⟨h0, h1⟩, hs, hS⟩ := h
  have hneg : (-lo).toInt = -lo.toInt := kl_neg (by omega) (by omega)
  have F : ∃ f2, fx_D_binds (nI a) (nI b) lo hi f = some f2 ∧ ∀ u v, u < n → v < n → md_t f2 u v = if u = a ∧ v = b then (if md_t f a b ≤ hi.toInt then md_t f a b else hi.toInt) else if u = b ∧ v = a then (if md_t f b a ≤ -lo.toInt then md_t f b a else -lo.toInt) else md_t f u v := by
    have J : ∀ f1 : Nat → Int64, md_t f1 b a = md_t f b a → ∃ f2, fj_D_binds_30 (nI b) (nI a) lo f1 = some f2 ∧ ∀ u v, u < n → v < n → md_t f2 u v = if u = b ∧ v = a then (if md_t f b a ≤ -lo.toInt then md_t f b a else -lo.toInt) else md_t f1 u v := by
      intro f1 e1
      unfold fj_D_binds_30
      rw [md_ix, kp_gd _ (kp_in_nI (by omega) (by omega)), nI_clamp (by omega)]
      have q : (f1 (44 * b + a) ≤ -lo) ↔ md_t f b a ≤ -lo.toInt := by rw [kl_le, hneg, ← e1]; rfl
      by_cases w : md_t f b a ≤ -lo.toInt
      · rw [if_pos (q.mpr w)]
        refine ⟨f1, rfl, fun u v hu hv => ?_⟩
        by_cases z : u = b ∧ v = a
        · rw [if_pos z, if_pos w, z.1, z.2, e1]
        · rw [if_neg z]
      · rw [if_neg (fun p => w (q.mp p)), kp_let]
        refine ⟨_, rfl, fun u v hu hv => ?_⟩
        rw [md_up _ _ _ _ (by omega) (by omega), hneg, if_neg w]
    unfold fx_D_binds
    rw [md_ix, kp_gd _ (kp_in_nI (by omega) (by omega)), nI_clamp (by omega)]
    have q : (f (44 * a + b) ≤ hi) ↔ md_t f a b ≤ hi.toInt := by rw [kl_le]; rfl
    by_cases w : md_t f a b ≤ hi.toInt
    · rw [if_pos (q.mpr w)]
      obtain ⟨f2, q1, q2⟩ := J f rfl
      refine ⟨f2, q1, fun u v hu hv => ?_⟩
      rw [q2 u v hu hv]
      by_cases z : u = a ∧ v = b
      · rw [if_pos z, if_neg (by omega), if_pos w, z.1, z.2]
      · rw [if_neg z]
    · rw [if_neg (fun p => w (q.mp p)), kp_let]
      obtain ⟨f2, q1, q2⟩ := J (vp_updL f (44 * a + b) hi) (by rw [md_up _ _ _ _ (by omega) (by omega), if_neg (by omega)])
      refine ⟨f2, q1, fun u v hu hv => ?_⟩
      rw [q2 u v hu hv, md_up _ _ _ _ (by omega) (by omega)]
      by_cases z : u = a ∧ v = b
      · rw [if_pos z, if_neg (by omega), if_neg w]; simp [z]
      · rw [if_neg z]; simp [z]
  obtain ⟨f2, q1, q2⟩ := F
  have tb : ∀ i j, i < n → j < n → md_t f i j ≤ 1000000000000 := fun i j hi hj => by
    rcases h1 i j hi hj with w | w <;> omega
  have le0 : ∀ i j, i < n → j < n → md_t f2 i j ≤ md_t f i j := fun i j hi hj => by
    rw [q2 i j hi hj]
    split
    · rename_i z; rw [z.1, z.2]; split <;> omega
    · split
      · rename_i z; rw [z.1, z.2]; split <;> omega
      · omega
  have ab2 : md_t f2 a b = if md_t f a b ≤ hi.toInt then md_t f a b else hi.toInt := by rw [q2 a b ha hb, if_pos ⟨rfl, rfl⟩]
  have ba2 : md_t f2 b a = if md_t f b a ≤ -lo.toInt then md_t f b a else -lo.toInt := by rw [q2 b a hb ha, if_neg (by omega), if_pos ⟨rfl, rfl⟩]
  have a1 := h1 a b ha hb
  have b1 := h1 b a hb ha
  have ab3 : md_t f2 a b ≤ 250000 := by rw [ab2]; split <;> omega
  have ba3 : md_t f2 b a ≤ 250000 := by rw [ba2]; split <;> omega
  refine ⟨f2, q1, hn, hm, ⟨fun i hi => ?_, fun i j hi hj => ?_⟩, fun i j hi hj hne => ?_, fun x => ?_⟩
  · rw [q2 i i hi hi, if_neg (by omega), if_neg (by omega)]
    exact h0 i hi
  · by_cases z : i = a ∧ j = b
    · rw [z.1, z.2, ab2]; refine Or.inr ?_; split <;> omega
    · by_cases z2 : i = b ∧ j = a
      · rw [z2.1, z2.2, ba2]; refine Or.inr ?_; split <;> omega
      · rw [q2 i j hi hj, if_neg z, if_neg z2]; exact h1 i j hi hj
  · by_cases z : i = a ∧ j = b
    · rw [z.1, z.2]; omega
    · by_cases z2 : i = b ∧ j = a
      · rw [z2.1, z2.2]; omega
      · rw [q2 i j hi hj, if_neg z, if_neg z2] at hne
        rw [q2 j i hj hi, if_neg (by omega), if_neg (by omega)]
        exact hs i j hi hj hne
  · show nt_sm n (md_t f2) x ↔ (Sat x ∧ lo.toInt ≤ x a - x b ∧ x a - x b ≤ hi.toInt)
    rw [← hS x]
    constructor
    · intro hx
      refine ⟨fun i j hi hj hne => ?_, ?_, ?_⟩
      · have h3 := le0 i j hi hj
        have h4 := hx i j hi hj (by
          rcases h1 i j hi hj with w | w
          · exact absurd w hne
          · omega)
        omega
      · have h4 := hx b a hb ha (by omega)
        rw [ba2] at h4
        split at h4 <;> omega
      · have h4 := hx a b ha hb (by omega)
        rw [ab2] at h4
        split at h4 <;> omega
    · rintro ⟨p1, p2, p3⟩ i j hi hj hne
      by_cases z : i = a ∧ j = b
      · rw [z.1, z.2, ab2]
        split
        · exact p1 a b ha hb (by omega)
        · omega
      · by_cases z2 : i = b ∧ j = a
        · rw [z2.1, z2.2, ba2]
          split
          · exact p1 b a hb ha (by omega)
          · omega
        · rw [q2 i j hi hj, if_neg z, if_neg z2] at hne ⊢
          exact p1 i j hi hj hne
/-- bounds asked of both sides -/
theorem bd_both {c : Nat → Nat → Int32} {f : Nat → Int64} {n2 : Nat} {S2 : (Nat → Int) → Prop} (hN : ne_N c n e Sat) (hM : md_N m f n2 S2) {a b a2 b2 : Nat} (ha : a < n) (hb : b < n) (ha2 : a2 < n2) (hb2 : b2 < n2) (hf : (∃ x, Sat x) ↔ ∃ x, S2 x) (g1 : ∀ g, nt_g Sat a b g → nt_g S2 a2 b2 g) (g2 : ∀ g, nt_g Sat b a g → nt_g S2 b2 a2 g) (u1 : nt_u Sat a b → nt_u S2 a2 b2) (u2 : nt_u Sat b a → nt_u S2 b2 a2) (w : Int32) (hw : w = 0 ∨ w = 1) : ∃ r c2, fx_K_bounded (nI a) (nI b) w c = some (r, c2) ∧ (∀ q, q ≠ 72 → c2 q = c q) ∧ ∃ b0 f2, fx_D_closes m f = some (b0, f2) ∧ (b0 = true → fx_D_answer (nI a2) (nI b2) w f2 = some r) ∧ (b0 = false → r = -1000000005) := by
  obtain ⟨bk, c3, k1, k2, k3⟩ := ne_holds hN
  obtain ⟨bd, f2, d1, d2, d3⟩ := md_closes hM
  have n44 := hM.1
  have hbb : bk = true ↔ bd = true := k3.trans (hf.trans d2.symm)
  unfold fx_K_bounded
  rw [k1, kp_b2]
  by_cases z : bk = true
  rotate_left
  · rw [if_neg z]
    exact ⟨_, _, rfl, k2, bd, f2, d1, fun q => absurd (hbb.mpr q) z, fun _ => rfl⟩
  rw [if_pos z]
  have zd := hbb.mp z
  obtain ⟨sy, dg, ub, tb⟩ := d3 zd
  have hN3 : ne_N c3 n e Sat := by
    obtain ⟨fr, to, ln, hE, hS⟩ := hN
    exact ⟨fr, to, ln, ne_E_fr hE k2, hS⟩
  have G : ∀ (p q p2 q2 : Nat), p < n → q < n → p2 < n2 → q2 < n2 → (∀ g, nt_g Sat p q g → nt_g S2 p2 q2 g) → (nt_u Sat p q → nt_u S2 p2 q2) → ∃ g c4, fx_Net_greatestOf (nI p) (nI q) c3 = some (g, c4) ∧ (∀ q, q ≠ 72 → c4 q = c q) ∧ (g.toInt ≠ 2147483647 → md_t f2 p2 q2 = g.toInt ∧ md_t f2 p2 q2 ≠ 1000000000000) ∧ (g.toInt = 2147483647 → md_t f2 p2 q2 = 1000000000000) := by
    intro p q p2 q2 hp hq hp2 hq2 hg hu
    obtain ⟨g, c4, e1, e2, e3, e4⟩ := ne_great hN3 (k3.mp z) hp hq
    have t := tb p2 q2 hp2 hq2
    refine ⟨g, c4, e1, fun q hq => by rw [e2 q hq, k2 q hq], fun hne => ?_, fun he => ?_⟩
    · have hs := hg _ (e3 hne)
      by_cases w : md_t f2 p2 q2 = 1000000000000
      · exact (nt_g_u hs (t.2 w)).elim
      · exact ⟨nt_g_inj (t.1 w).1 hs, w⟩
    · by_cases w : md_t f2 p2 q2 = 1000000000000
      · exact w
      · exact (nt_g_u (t.1 w).1 (hu (e4 he))).elim
  have rg : ∀ g : Int32, (g.toInt = 2147483647 ↔ g = 2147483647) := fun g => by rw [kp_eq, ki_F]
  have t32 : ∀ (x : Int64) (g : Int32), x.toInt = g.toInt → x.toInt32 = g := fun x g h => by
    rw [kp_eq, Int64.toInt_toInt32, h]
    have := kp_rng g
    exact kp_bmod (by omega) (by omega)
  rcases hw with rfl | rfl
  · rw [if_neg (by decide)]
    obtain ⟨g, c4, e1, e2, e3, e4⟩ := G b a b2 a2 hb ha hb2 ha2 g2 u2
    rw [e1, kp_b2]
    unfold fj_K_bounded_40
    unfold fx_D_answer
    by_cases q : g = 2147483647
    · rw [if_pos q]
      have t1 := e4 ((rg g).mpr q)
      have t2 : md_t f2 a2 b2 = 1000000000000 := by
        by_cases w : md_t f2 a2 b2 = 1000000000000
        · exact w
        · exact absurd t1 (sy a2 b2 ha2 hb2 w)
      refine ⟨_, _, rfl, e2, bd, f2, d1, fun _ => ?_, fun w => by rw [zd] at w; exact absurd w (by decide)⟩
      rw [md_ix, kp_gd _ (kp_in_nI (by omega) (by omega)), nI_clamp (by omega), if_pos ((kl_eq _ _).mpr (by rw [kl_O]; exact t2))]
    · rw [if_neg q, if_neg (by decide)]
      have t1 := e3 (fun w => q ((rg g).mp w))
      have t2 : md_t f2 a2 b2 ≠ 1000000000000 := sy b2 a2 hb2 ha2 t1.2
      refine ⟨_, _, rfl, e2, bd, f2, d1, fun _ => ?_, fun w => by rw [zd] at w; exact absurd w (by decide)⟩
      rw [md_ix, kp_gd _ (kp_in_nI (by omega) (by omega)), nI_clamp (by omega), if_neg (fun w => t2 (by have := (kl_eq _ _).mp w; rw [kl_O] at this; exact this)), if_pos rfl, md_ix, kp_gd _ (kp_in_nI (by omega) (by omega)), nI_clamp (by omega), Int64.toInt32_neg, t32 (f2 (44 * b2 + a2)) g t1.1]
  · rw [if_pos rfl]
    obtain ⟨g, c4, e1, e2, e3, e4⟩ := G a b a2 b2 ha hb ha2 hb2 g1 u1
    rw [e1, kp_b2]
    unfold fj_K_bounded_40
    unfold fx_D_answer
    by_cases q : g = 2147483647
    · rw [if_pos q]
      have t2 := e4 ((rg g).mpr q)
      refine ⟨_, _, rfl, e2, bd, f2, d1, fun _ => ?_, fun w => by rw [zd] at w; exact absurd w (by decide)⟩
      rw [md_ix, kp_gd _ (kp_in_nI (by omega) (by omega)), nI_clamp (by omega), if_pos ((kl_eq _ _).mpr (by rw [kl_O]; exact t2))]
    · rw [if_neg q, if_pos rfl]
      have t1 := e3 (fun w => q ((rg g).mp w))
      refine ⟨_, _, rfl, e2, bd, f2, d1, fun _ => ?_, fun w => by rw [zd] at w; exact absurd w (by decide)⟩
      rw [md_ix, kp_gd _ (kp_in_nI (by omega) (by omega)), nI_clamp (by omega), if_neg (fun w => t1.2 (by have := (kl_eq _ _).mp w; rw [kl_O] at this; exact this)), if_neg (by decide), t32 (f2 (44 * a2 + b2)) g t1.1]
end NB
