/-! ===== tables of the reference ===== -/
section MD
variable {m : Nat → Nat → Int32} {n : Nat} {T : Nat → Nat → Int}
theorem kl_O : (1000000000000 : Int64).toInt = 1000000000000 := by decide
theorem kl_zz : (0 : Int64).toInt = 0 := by decide
theorem kl_le (a b : Int64) : a ≤ b ↔ a.toInt ≤ b.toInt := Int64.le_iff_toInt_le
theorem kl_eq (a b : Int64) : a = b ↔ a.toInt = b.toInt := Int64.toInt_inj.symm
theorem kl_bmod {z : Int} (h1 : -9223372036854775808 ≤ z) (h2 : z < 9223372036854775808) : z.bmod (2 ^ 64) = z := by
  rw [Int.bmod_def]
  split <;> omega
theorem kl_add {x y : Int64} (h1 : -9223372036854775808 ≤ x.toInt + y.toInt) (h2 : x.toInt + y.toInt < 9223372036854775808) : (x + y).toInt = x.toInt + y.toInt := by
  rw [Int64.toInt_add, kl_bmod h1 h2]
theorem kl_sub {x y : Int64} (h1 : -9223372036854775808 ≤ x.toInt - y.toInt) (h2 : x.toInt - y.toInt < 9223372036854775808) : (x - y).toInt = x.toInt - y.toInt := by
  rw [Int64.toInt_sub, kl_bmod h1 h2]
theorem kl_neg {x : Int64} (h1 : -9223372036854775808 ≤ -x.toInt) (h2 : -x.toInt < 9223372036854775808) : (-x).toInt = -x.toInt := by
  rw [Int64.toInt_neg, kl_bmod h1 h2]
def md_t (f : Nat → Int64) (i j : Nat) : Int := (f (44 * i + j)).toInt
theorem md_ix (i j : Nat) : ((44 : Int32) * nI i) + nI j = nI (44 * i + j) := by
  have : (44 : Int32) * nI i = nI (44 * i) := pk_mul 44 i
  rw [this, nI_add]
theorem md_up (f : Nat → Int64) (a b : Nat) (x : Int64) {u v : Nat} (hv : v < 44) (hb : b < 44) : md_t (vp_updL f (44 * a + b) x) u v = if u = a ∧ v = b then x.toInt else md_t f u v := by
  unfold md_t vp_updL
  by_cases z : u = a ∧ v = b
  · rw [if_pos z, if_pos (by omega)]
  · rw [if_neg z, if_neg (by omega)]
theorem nt_st_row {k : Nat} (hkk : T k k = 0) (j : Nat) : nt_st k T k j = T k j := by
  unfold nt_st
  rw [if_neg (by omega)]
theorem md_in (hn : n ≤ 44) (hm : m 84 13 = nI n) {k i : Nat} (hk : k < n) (hi : i < n) (hkk : T k k = 0) (hb : ∀ u v, u < n → v < n → -2305843009213693952 ≤ T u v ∧ T u v ≤ 1000000000000) {v8 : Int64} (h8 : v8.toInt = T i k) (hne : T i k ≠ 1000000000000) (f : Nat → Int64) (hf : ∀ u v, u < n → v < n → md_t f u v = if u < i then nt_st k T u v else T u v) : ∃ f2, kv_loop (kv_u2 (fb_D_closes_46 m (nI k) (nI i) v8)) ((0 : Int32), f) = some f2 ∧ ∀ u v, u < n → v < n → md_t f2 u v = if u < i + 1 then nt_st k T u v else T u v := by
  refine kp_inv (kv_u2 (fb_D_closes_46 m (nI k) (nI i) v8)) (fun j st => ∃ f3, st = (nI j, f3) ∧ ∀ u v, u < n → v < n → md_t f3 u v = if u < i ∨ (u = i ∧ v < j) then nt_st k T u v else T u v) _ n ?_ ?_ ((0 : Int32), f) ⟨f, rfl, fun u v hu hv => ?_⟩
  · rintro j st hj ⟨f3, rfl, h3⟩
    have ekj : md_t f3 k j = T k j := by
      rw [h3 k j hk hj]
      split
      · exact nt_st_row hkk j
      · rfl
    have eij : md_t f3 i j = T i j := by
      rw [h3 i j hi hj, if_neg (by omega)]
    have b1 := hb i k hi hk
    have b2 := hb k j hk hj
    have keep : (T k j = 1000000000000 ∨ T i j ≤ T i k + T k j) → ∀ u v, u < n → v < n → md_t f3 u v = if u < i ∨ (u = i ∧ v < j + 1) then nt_st k T u v else T u v := by
      intro hs u v hu hv
      rw [h3 u v hu hv]
      by_cases z : u = i ∧ v = j
      · rw [if_neg (by omega), if_pos (by omega), z.1, z.2]
        unfold nt_st
        rw [if_neg (by omega)]
      · by_cases w : u < i ∨ (u = i ∧ v < j)
        · rw [if_pos w, if_pos (by omega)]
        · rw [if_neg w, if_neg (by omega)]
    refine Or.inl ?_
    show ∃ s2, fb_D_closes_46 m (nI k) (nI i) v8 (nI j) f3 = some (.inl s2) ∧ _
    unfold fb_D_closes_46
    rw [hm, if_neg (nI_ge hj (by omega)), md_ix, kp_gd _ (kp_in_nI (by omega) (by omega)), nI_clamp (by omega), kp_let]
    by_cases q : f3 (44 * k + j) = 1000000000000
    · rw [if_pos q]
      have q2 : T k j = 1000000000000 := by rw [← ekj]; unfold md_t; rw [q]; exact kl_O
      exact ⟨(nI (j + 1), f3), by unfold fj_D_closes_114; rw [nI_1], f3, rfl, keep (Or.inl q2)⟩
    · rw [if_neg q, md_ix, kp_gd _ (kp_in_nI (by omega) (by omega)), nI_clamp (show 44 * i + j < 2 ^ 31 by omega)]
      have q1 : T k j ≠ 1000000000000 := by
        intro w
        refine q ((kl_eq _ _).mpr ?_)
        rw [kl_O, ← w, ← ekj]; rfl
      have e14 : (f3 (44 * k + j)).toInt = T k j := ekj
      have hadd : (v8 + f3 (44 * k + j)).toInt = T i k + T k j := by
        rw [kl_add (by rw [h8, e14]; omega) (by rw [h8, e14]; omega), h8, e14]
      by_cases q2 : f3 (44 * i + j) ≤ v8 + f3 (44 * k + j)
      · rw [if_pos q2]
        rw [kl_le, hadd] at q2
        have q3 : md_t f3 i j ≤ T i k + T k j := q2
        rw [eij] at q3
        exact ⟨(nI (j + 1), f3), by unfold fj_D_closes_114; rw [nI_1], f3, rfl, keep (Or.inr q3)⟩
      · rw [if_neg q2, kp_let]
        rw [kl_le, hadd] at q2
        have q3 : ¬ md_t f3 i j ≤ T i k + T k j := q2
        rw [eij] at q3
        refine ⟨(nI (j + 1), _), by unfold fj_D_closes_114; rw [nI_1], _, rfl, fun u v hu hv => ?_⟩
        rw [md_up _ _ _ _ (by omega) (by omega), hadd]
        by_cases z : u = i ∧ v = j
        · rw [if_pos z, if_pos (by omega), z.1, z.2]
          unfold nt_st
          rw [if_pos ⟨hne, q1, by omega⟩]
        · rw [if_neg z, h3 u v hu hv]
          by_cases w : u < i ∨ (u = i ∧ v < j)
          · rw [if_pos w, if_pos (by omega)]
          · rw [if_neg w, if_neg (by omega)]
  · rintro st ⟨f3, rfl, h3⟩
    refine ⟨f3, ?_, fun u v hu hv => ?_⟩
    · show fb_D_closes_46 m (nI k) (nI i) v8 (nI n) f3 = _
      unfold fb_D_closes_46
      rw [hm, if_pos (nI_le (Nat.le_refl _) (by omega))]
    · rw [h3 u v hu hv]
      by_cases w : u < i ∨ (u = i ∧ v < n)
      · rw [if_pos w, if_pos (by omega)]
      · rw [if_neg w, if_neg (by omega)]
  · rw [hf u v hu hv]
    by_cases w : u < i
    · rw [if_pos w, if_pos (by omega)]
    · rw [if_neg w, if_neg (by omega)]
theorem md_mid (hn : n ≤ 44) (hm : m 84 13 = nI n) {k : Nat} (hk : k < n) (hkk : T k k = 0) (hb : ∀ u v, u < n → v < n → -2305843009213693952 ≤ T u v ∧ T u v ≤ 1000000000000) (f : Nat → Int64) (hf : ∀ u v, u < n → v < n → md_t f u v = T u v) : ∃ f2, kv_loop (kv_u2 (fb_D_closes_12 m (nI k))) ((0 : Int32), f) = some f2 ∧ ∀ u v, u < n → v < n → md_t f2 u v = nt_st k T u v := by
  refine kp_inv (kv_u2 (fb_D_closes_12 m (nI k))) (fun i st => ∃ f3, st = (nI i, f3) ∧ ∀ u v, u < n → v < n → md_t f3 u v = if u < i then nt_st k T u v else T u v) _ n ?_ ?_ ((0 : Int32), f) ⟨f, rfl, fun u v hu hv => by rw [hf u v hu hv, if_neg (by omega)]⟩
  · rintro i st hi ⟨f3, rfl, h3⟩
    have eik : md_t f3 i k = T i k := by rw [h3 i k hi hk, if_neg (by omega)]
    refine Or.inl ?_
    show ∃ s2, fb_D_closes_12 m (nI k) (nI i) f3 = some (.inl s2) ∧ _
    unfold fb_D_closes_12
    rw [hm, if_neg (nI_ge hi (by omega)), md_ix, kp_gd _ (kp_in_nI (by omega) (by omega)), nI_clamp (by omega), kp_let]
    by_cases q : f3 (44 * i + k) = 1000000000000
    · rw [if_pos q]
      have q2 : T i k = 1000000000000 := by rw [← eik]; unfold md_t; rw [q]; exact kl_O
      refine ⟨(nI (i + 1), f3), by unfold fj_D_closes_120; rw [nI_1], f3, rfl, fun u v hu hv => ?_⟩
      rw [h3 u v hu hv]
      by_cases z : u = i
      · rw [if_neg (by omega), if_pos (by omega), z]
        unfold nt_st
        rw [if_neg (fun w => w.1 q2)]
      · by_cases w : u < i
        · rw [if_pos w, if_pos (by omega)]
        · rw [if_neg w, if_neg (by omega)]
    · rw [if_neg q]
      have q1 : T i k ≠ 1000000000000 := by
        intro w
        refine q ((kl_eq _ _).mpr ?_)
        rw [kl_O, ← w, ← eik]; rfl
      obtain ⟨f4, g1, g2⟩ := md_in hn hm hk hi hkk hb eik q1 f3 h3
      refine ⟨(nI (i + 1), f4), ?_, f4, rfl, g2⟩
      rw [show (f3 (44 * i + k)) = f3 (44 * i + k) from rfl, g1]
      show fj_D_closes_120 (nI i) f4 = _
      unfold fj_D_closes_120
      rw [nI_1]
  · rintro st ⟨f3, rfl, h3⟩
    refine ⟨f3, ?_, fun u v hu hv => by rw [h3 u v hu hv, if_pos hu]⟩
    show fb_D_closes_12 m (nI k) (nI n) f3 = _
    unfold fb_D_closes_12
    rw [hm, if_pos (nI_le (Nat.le_refl _) (by omega))]
/-- what is below 0 stays so -/
theorem md_bad (hn : n ≤ 44) (hm : m 84 13 = nI n) {d k : Nat} (hk : k < n) (f : Nat → Int64) (hf : md_t f d d < 0) : ∃ f2, kv_loop (kv_u2 (fb_D_closes_12 m (nI k))) ((0 : Int32), f) = some f2 ∧ md_t f2 d d < 0 := by
  refine kp_inv (kv_u2 (fb_D_closes_12 m (nI k))) (fun i st => ∃ f3, st = (nI i, f3) ∧ md_t f3 d d < 0) (fun f2 => md_t f2 d d < 0) n ?_ ?_ ((0 : Int32), f) ⟨f, rfl, hf⟩
  · rintro i st hi ⟨f3, rfl, h3⟩
    refine Or.inl ?_
    show ∃ s2, fb_D_closes_12 m (nI k) (nI i) f3 = some (.inl s2) ∧ _
    unfold fb_D_closes_12
    rw [hm, if_neg (nI_ge hi (by omega)), md_ix, kp_gd _ (kp_in_nI (by omega) (by omega)), nI_clamp (by omega), kp_let]
    by_cases q : f3 (44 * i + k) = 1000000000000
    · rw [if_pos q]
      exact ⟨(nI (i + 1), f3), by unfold fj_D_closes_120; rw [nI_1], f3, rfl, h3⟩
    · rw [if_neg q]
      have key := kp_inv (kv_u2 (fb_D_closes_46 m (nI k) (nI i) (f3 (44 * i + k)))) (fun j st => ∃ f4, st = (nI j, f4) ∧ md_t f4 d d < 0) (fun f2 => md_t f2 d d < 0) n ?_ ?_ ((0 : Int32), f3) ⟨f3, rfl, h3⟩
      · obtain ⟨f4, g1, g2⟩ := key
        refine ⟨(nI (i + 1), f4), ?_, f4, rfl, g2⟩
        rw [g1]
        show fj_D_closes_120 (nI i) f4 = _
        unfold fj_D_closes_120
        rw [nI_1]
      · rintro j st hj ⟨f4, rfl, h4⟩
        refine Or.inl ?_
        show ∃ s2, fb_D_closes_46 m (nI k) (nI i) (f3 (44 * i + k)) (nI j) f4 = some (.inl s2) ∧ _
        unfold fb_D_closes_46
        rw [hm, if_neg (nI_ge hj (by omega)), md_ix, kp_gd _ (kp_in_nI (by omega) (by omega)), nI_clamp (show 44 * k + j < 2 ^ 31 by omega), kp_let]
        by_cases q1 : f4 (44 * k + j) = 1000000000000
        · rw [if_pos q1]
          exact ⟨(nI (j + 1), f4), by unfold fj_D_closes_114; rw [nI_1], f4, rfl, h4⟩
        · rw [if_neg q1, md_ix, kp_gd _ (kp_in_nI (by omega) (by omega)), nI_clamp (show 44 * i + j < 2 ^ 31 by omega)]
          by_cases q2 : f4 (44 * i + j) ≤ f3 (44 * i + k) + f4 (44 * k + j)
          · rw [if_pos q2]
            exact ⟨(nI (j + 1), f4), by unfold fj_D_closes_114; rw [nI_1], f4, rfl, h4⟩
          · rw [if_neg q2, kp_let]
            refine ⟨(nI (j + 1), _), by unfold fj_D_closes_114; rw [nI_1], _, rfl, ?_⟩
            rw [kl_le] at q2
            unfold md_t vp_updL
            by_cases z : 44 * d + d = 44 * i + j
            · rw [if_pos z]
              have : (f4 (44 * i + j)).toInt < 0 := by rw [← z]; exact h4
              omega
            · rw [if_neg z]; exact h4
      · rintro st ⟨f4, rfl, h4⟩
        refine ⟨f4, ?_, h4⟩
        show fb_D_closes_46 m (nI k) (nI i) (f3 (44 * i + k)) (nI n) f4 = _
        unfold fb_D_closes_46
        rw [hm, if_pos (nI_le (Nat.le_refl _) (by omega))]
  · rintro st ⟨f3, rfl, h3⟩
    refine ⟨f3, ?_, h3⟩
    show fb_D_closes_12 m (nI k) (nI n) f3 = _
    unfold fb_D_closes_12
    rw [hm, if_pos (nI_le (Nat.le_refl _) (by omega))]
def nt_sy (n : Nat) (T : Nat → Nat → Int) : Prop := ∀ i j, i < n → j < n → T i j ≠ 1000000000000 → T j i ≠ 1000000000000
theorem nt_sy_st {k : Nat} {T0 : Nat → Nat → Int} {b : Int} (hn : n ≤ 44) (hk : k < n) (h0 : nt_T0 n T0) (h : nt_G n k T0 T b) (hs : nt_sy n T) : nt_sy n (nt_st k T) := by
  have ub : ∀ i j, i < n → j < n → T i j ≠ 1000000000000 → T i j ≤ 12000000 := fun i j hi hj => nt_G_ub hn h0 h hi hj
  intro i j hi hj hne
  have l1 := nt_st_le k T j i
  have fin : T j i ≠ 1000000000000 → nt_st k T j i ≠ 1000000000000 := fun w => by
    have := ub j i hj hi w
    omega
  rcases nt_st_or k T i j with e | ⟨e1, e2, e3⟩
  · rw [e] at hne
    exact fin (hs i j hi hj hne)
  · have a1 := hs i k hi hk e1
    have a2 := hs k j hk hj e2
    have := ub k i hk hi a1
    have := ub j k hj hk a2
    have := nt_st_le2 (i := j) (j := i) a2 a1
    omega
/-- a table that asks Sat -/
def md_N (m : Nat → Nat → Int32) (f : Nat → Int64) (n : Nat) (Sat : (Nat → Int) → Prop) : Prop := n ≤ 44 ∧ m 84 13 = nI n ∧ nt_T0 n (md_t f) ∧ nt_sy n (md_t f) ∧ ∀ x, nt_sm n (md_t f) x ↔ Sat x
theorem md_sm_congr {T0 T1 : Nat → Nat → Int} (h : ∀ i j, i < n → j < n → T1 i j = T0 i j) (x : Nat → Int) : nt_sm n T1 x ↔ nt_sm n T0 x := by
  constructor
  · intro q i j hi hj hne
    have := q i j hi hj (by rw [h i j hi hj]; exact hne)
    rw [h i j hi hj] at this
    exact this
  · intro q i j hi hj hne
    rw [h i j hi hj] at hne ⊢
    exact q i j hi hj hne
theorem nt_G_ext {k : Nat} {T0 T1 : Nat → Nat → Int} {b : Int} (h : nt_G n k T0 T b) (e : ∀ i j, i < n → j < n → T1 i j = T i j) : nt_G n k T0 T1 b := by
  obtain ⟨g1, g2, g3, g4, g5, g6⟩ := h
  refine ⟨fun i j hi hj => by rw [e i j hi hj]; exact g1 i j hi hj, fun q i j hq hqn hi hj n1 n2 => ?_, fun i hi => by rw [e i i hi hi]; exact g3 i hi, fun i j hi hj hne => ?_, fun i j hi hj hne => ?_, fun i j hi hj => by rw [e i j hi hj]; exact g6 i j hi hj⟩
  · rw [e i q hi hqn] at n1 ⊢
    rw [e q j hqn hj] at n2 ⊢
    rw [e i j hi hj]
    exact g2 q i j hq hqn hi hj n1 n2
  · rw [e i j hi hj] at hne ⊢
    exact g4 i j hi hj hne
  · rw [e i j hi hj] at hne
    exact g5 i j hi hj hne
theorem md_closes {f : Nat → Int64} {Sat : (Nat → Int) → Prop} (h : md_N m f n Sat) : ∃ b f2, fx_D_closes m f = some (b, f2) ∧ (b = true ↔ ∃ x, Sat x) ∧ (b = true → nt_sy n (md_t f2) ∧ (∀ u, u < n → md_t f2 u u = 0) ∧ (∀ u v, u < n → v < n → md_t f2 u v ≤ 1000000000000) ∧ ∀ u v, u < n → v < n → (md_t f2 u v ≠ 1000000000000 → nt_g Sat u v (md_t f2 u v) ∧ md_t f2 u v ≤ 12000000) ∧ (md_t f2 u v = 1000000000000 → nt_u Sat u v)) := by
  obtain ⟨hn, hm, h0, hs0, hS⟩ := h
  have pw : ∀ k, k < n → 2 ^ k ≤ 2 ^ 43 := fun k hk => Nat.pow_le_pow_right (by omega) (by omega)
  have key := kp_inv (kv_u2 (fb_D_closes_2 m)) (fun k st => ∃ f3, st = (nI k, f3) ∧ ((nt_G n k (md_t f) (md_t f3) ((250000 * 2 ^ k : Nat) : Int) ∧ nt_sy n (md_t f3)) ∨ ((∃ d, d < n ∧ md_t f3 d d < 0) ∧ ¬ ∃ x, nt_sm n (md_t f) x))) (fun f3 => (nt_G n n (md_t f) (md_t f3) ((250000 * 2 ^ n : Nat) : Int) ∧ nt_sy n (md_t f3)) ∨ ((∃ d, d < n ∧ md_t f3 d d < 0) ∧ ¬ ∃ x, nt_sm n (md_t f) x)) n ?_ ?_ ((0 : Int32), f) ⟨f, rfl, Or.inl ⟨nt_G_start h0, hs0⟩⟩
  · obtain ⟨f3, h1, h2⟩ := key
    have chk := kp_inv (kv_u1 (fb_D_closes_134 m f3)) (fun i st => st = nI i ∧ ∀ u, u < i → 0 ≤ md_t f3 u u) (fun z => Sum.elim (fun _ => ∃ d, d < n ∧ md_t f3 d d < 0) (fun _ => ∀ u, u < n → 0 ≤ md_t f3 u u) z) n ?_ ?_ (0 : Int32) ⟨rfl, fun u hu => absurd hu (Nat.not_lt_zero _)⟩
    · obtain ⟨z, z1, z2⟩ := chk
      unfold fx_D_closes
      rw [h1]
      simp only [Option.bind_some, kv_u1]
      cases z with
      | inl _ =>
        refine ⟨false, f3, ?_, ?_, fun w => absurd w (by decide)⟩
        · rw [z1]; rfl
        · refine ⟨fun w => absurd w (by decide), fun ⟨x, hx⟩ => ?_⟩
          obtain ⟨d, d1, d2⟩ := z2
          rcases h2 with ⟨g, -⟩ | ⟨-, g⟩
          · have := g.2.2.1 d d1
            omega
          · exact absurd ⟨x, (hS x).mpr hx⟩ g
      | inr _ =>
        rcases h2 with ⟨g, gs⟩ | ⟨⟨d, d1, d2⟩, -⟩
        · obtain ⟨⟨x, hx⟩, fin⟩ := nt_G_final hn h0 g (by omega)
          refine ⟨true, f3, by rw [z1]; rfl, ⟨fun _ => ⟨x, (hS x).mp hx⟩, fun _ => rfl⟩, fun _ => ⟨gs, g.2.2.1, fun u v hu hv => ?_, fun u v hu hv => ?_⟩⟩
          · have := g.1 u v hu hv
            rcases h0.2 u v hu hv with w | w <;> omega
          · have cg := nt_g_congr hS (a := u) (b := v)
            exact ⟨fun hne => ⟨cg.1 _ ((fin u v hu hv).1 hne), nt_G_ub hn h0 g hu hv hne⟩, fun he => cg.2 ((fin u v hu hv).2 he)⟩
        · have : 0 ≤ md_t f3 d d := z2 d d1
          omega
    · rintro i st hi ⟨rfl, hu⟩
      show (∃ s2, fb_D_closes_134 m f3 (nI i) = some (.inl s2) ∧ _) ∨ ∃ r, fb_D_closes_134 m f3 (nI i) = some (.inr r) ∧ _
      unfold fb_D_closes_134
      rw [hm, if_neg (nI_ge hi (by omega)), md_ix, kp_gd _ (kp_in_nI (by omega) (by omega)), nI_clamp (by omega)]
      by_cases q : (0 : Int64) ≤ f3 (44 * i + i)
      · rw [if_pos q]
        refine Or.inl ⟨nI (i + 1), by rw [nI_1], rfl, fun u hu2 => ?_⟩
        by_cases z : u = i
        · rw [z]
          rw [kl_le, kl_zz] at q
          exact q
        · exact hu u (by omega)
      · rw [if_neg q]
        refine Or.inr ⟨.inl (), rfl, i, hi, ?_⟩
        rw [kl_le, kl_zz] at q
        exact Int.not_le.mp q
    · rintro st ⟨rfl, hu⟩
      refine ⟨.inr (), ?_, hu⟩
      show fb_D_closes_134 m f3 (nI n) = _
      unfold fb_D_closes_134
      rw [hm, if_pos (nI_le (Nat.le_refl _) (by omega))]
  · rintro k st hk ⟨f3, rfl, h3⟩
    refine Or.inl ?_
    show ∃ s2, fb_D_closes_2 m (nI k) f3 = some (.inl s2) ∧ _
    unfold fb_D_closes_2
    rw [hm, if_neg (nI_ge hk (by omega))]
    rcases h3 with ⟨g, gs⟩ | ⟨⟨d, d1, d2⟩, g⟩
    · have hp := pw k hk
      have gb : ∀ u v, u < n → v < n → -2305843009213693952 ≤ md_t f3 u v ∧ md_t f3 u v ≤ 1000000000000 := by
        intro u v hu hv
        have a1 := g.2.2.2.2.2 u v hu hv
        have a2 := g.1 u v hu hv
        rcases h0.2 u v hu hv with w | w <;> omega
      obtain ⟨f4, e1, e2⟩ := md_mid hn hm hk (g.2.2.1 k hk) gb f3 (fun _ _ _ _ => rfl)
      rw [e1]
      refine ⟨(nI (k + 1), f4), by show some _ = _; rw [nI_1], f4, rfl, ?_⟩
      by_cases w : ∀ u, u < n → 0 ≤ nt_st k (md_t f3) u u
      · refine Or.inl ⟨?_, fun i j hi hj hne => ?_⟩
        · have := nt_G_ext (nt_G_step hn hk h0 g (by omega) w) e2
          have eb : ((250000 * 2 ^ (k + 1) : Nat) : Int) = 2 * ((250000 * 2 ^ k : Nat) : Int) := by
            rw [Nat.pow_succ]; omega
          rw [eb]
          exact this
        · rw [e2 i j hi hj] at hne
          rw [e2 j i hj hi]
          exact nt_sy_st hn hk h0 g gs i j hi hj hne
      · have w2 : ∃ d, d < n ∧ nt_st k (md_t f3) d d < 0 := by
          by_cases w3 : ∃ d, d < n ∧ nt_st k (md_t f3) d d < 0
          · exact w3
          · refine absurd (fun u hu => ?_) w
            by_cases w4 : 0 ≤ nt_st k (md_t f3) u u
            · exact w4
            · exact absurd ⟨u, hu, by omega⟩ w3
        obtain ⟨d, d1, d2⟩ := w2
        refine Or.inr ⟨⟨d, d1, by rw [e2 d d d1 d1]; exact d2⟩, fun ⟨x, hx⟩ => ?_⟩
        have := nt_st_sound hk g d d d1 d1 (by omega) x hx
        omega
    · obtain ⟨f4, e1, e2⟩ := md_bad hn hm hk f3 d2
      rw [e1]
      exact ⟨(nI (k + 1), f4), by show some _ = _; rw [nI_1], f4, rfl, Or.inr ⟨⟨d, d1, e2⟩, g⟩⟩
  · rintro st ⟨f3, rfl, h3⟩
    refine ⟨f3, ?_, h3⟩
    show fb_D_closes_2 m (nI n) f3 = _
    unfold fb_D_closes_2
    rw [hm, if_pos (nI_le (Nat.le_refl _) (by omega))]
end MD
