/-! ===== stories ===== -/
section ST
variable {k L T n e : Nat} {c m : Nat → Nat → Int32} {Sat : (Nat → Int) → Prop}
def st_pop : Nat → Nat → Nat
  | 0, _ => 0
  | j + 1, s => s % 2 + st_pop j (s / 2)
theorem st_pop0 : ∀ j, st_pop j 0 = 0
  | 0 => rfl
  | j + 1 => by
    have : st_pop (j + 1) 0 = 0 % 2 + st_pop j (0 / 2) := rfl
    rw [this, Nat.zero_div, st_pop0 j]
theorem st_shl : ∀ l, l < 11 → (1 : Int32) <<< (nI l &&& 31) = nI (2 ^ l) := by decide
theorem st_sm : ∀ l, l < 11 → ((nI l &&& 31).toBitVec.smod 32).toNat = l := by decide
theorem st_bit {s l : Nat} (hs : s < 1024) (hl : l < 11) : (nI s >>> (nI l &&& 31)) &&& (1 : Int32) = nI (s / 2 ^ l % 2) := by
  have h1 : s / 2 ^ l ≤ s := Nat.div_le_self _ _
  rw [pk_shrN (by omega) _ l (st_sm l hl), pk_andN (by omega) 1 (by decide)]
theorem st_cntK : ∀ s, s < 1024 → fx_Int_bitCount (nI s) = some (nI (st_pop 10 s)) := by decide +kernel
theorem st_cntD {s : Nat} (hs : s < 1024) : fx_D_bits (nI s) = some (nI (st_pop 10 s)) := by
  have key := kp_inv (kv_u2 fb_D_bits_4) (fun i st => ∃ a, st = (nI a, nI (s / 2 ^ i)) ∧ a + st_pop (10 - i) (s / 2 ^ i) = st_pop 10 s) (fun r => r = nI (st_pop 10 s)) 10 ?_ ?_ ((0 : Int32), nI s) ⟨0, by rw [Nat.pow_zero, Nat.div_one]; rfl, by rw [Nat.pow_zero, Nat.div_one, Nat.zero_add]⟩
  · obtain ⟨r, h1, h2⟩ := key
    unfold fx_D_bits
    rw [h1, kp_sb1, h2]
  · rintro i st hi ⟨a, rfl, h⟩
    show (∃ s2, fb_D_bits_4 (nI a) (nI (s / 2 ^ i)) = some (.inl s2) ∧ _) ∨ ∃ r, fb_D_bits_4 (nI a) (nI (s / 2 ^ i)) = some (.inr r) ∧ _
    have h1 : s / 2 ^ i ≤ s := Nat.div_le_self _ _
    unfold fb_D_bits_4
    by_cases z : s / 2 ^ i = 0
    · rw [z] at h ⊢
      rw [st_pop0] at h
      rw [if_pos (by decide)]
      exact Or.inr ⟨nI a, rfl, by rw [← h]; rfl⟩
    · rw [if_neg (nI_nle (Nat.pos_of_ne_zero z) (Nat.lt_of_le_of_lt h1 (by omega))), kp_let, kp_let]
      have e1 : nI (s / 2 ^ i) &&& (1 : Int32) = nI (s / 2 ^ i % 2) := pk_andN (by omega) 1 (by decide)
      have e2 : nI (s / 2 ^ i) >>> ((1 : Int32) &&& 31) = nI (s / 2 ^ (i + 1)) := by
        rw [pk_shrN (by omega) _ 1 (by decide), Nat.pow_one, Nat.div_div_eq_div_mul, ← Nat.pow_succ]
      rw [e1, e2, nI_add]
      refine Or.inl ⟨_, rfl, a + s / 2 ^ i % 2, rfl, ?_⟩
      have e3 : st_pop (10 - i) (s / 2 ^ i) = s / 2 ^ i % 2 + st_pop (10 - (i + 1)) (s / 2 ^ (i + 1)) := by
        rw [show 10 - i = (10 - (i + 1)) + 1 by omega, Nat.pow_succ, ← Nat.div_div_eq_div_mul]; rfl
      rw [e3] at h
      omega
  · rintro st ⟨a, rfl, h⟩
    have e0 : s / 2 ^ 10 = 0 := Nat.div_eq_of_lt hs
    rw [e0] at h
    refine ⟨nI a, ?_, by rw [← h]; rfl⟩
    show fb_D_bits_4 (nI a) (nI (s / 2 ^ 10)) = _
    unfold fb_D_bits_4
    rw [e0, if_pos (by decide)]
theorem st_allK {s : Nat} (hs : s < 1024) : fx_K_storiesOf (nI s) = some (nI (3 ^ st_pop 10 s)) := by
  have key := kp_inv (kv_u2 (fb_K_storiesOf_4 (nI s))) (fun i st => ∃ b, st = (nI (3 ^ b), nI i) ∧ b + st_pop (10 - i) (s / 2 ^ i) = st_pop 10 s) (fun r => r = nI (3 ^ st_pop 10 s)) 10 ?_ ?_ ((1 : Int32), (0 : Int32)) ⟨0, rfl, by rw [Nat.pow_zero, Nat.div_one, Nat.zero_add]⟩
  · obtain ⟨r, h1, h2⟩ := key
    unfold fx_K_storiesOf
    rw [h1, kp_sb1, h2]
  · rintro i st hi ⟨b, rfl, h⟩
    refine Or.inl ?_
    show ∃ s2, fb_K_storiesOf_4 (nI s) (nI (3 ^ b)) (nI i) = some (.inl s2) ∧ _
    unfold fb_K_storiesOf_4
    have b10 : ¬ (10 : Int32) ≤ nI i := nI_ge (b := 10) hi (by omega)
    have e3 : st_pop (10 - i) (s / 2 ^ i) = s / 2 ^ i % 2 + st_pop (10 - (i + 1)) (s / 2 ^ (i + 1)) := by
      rw [show 10 - i = (10 - (i + 1)) + 1 by omega, Nat.pow_succ, ← Nat.div_div_eq_div_mul]; rfl
    rw [e3] at h
    rw [if_neg b10, st_bit hs (by omega)]
    by_cases z : s / 2 ^ i % 2 = 1
    · rw [if_pos (by rw [z]; rfl), kp_let]
      have em : nI (3 ^ b) * (3 : Int32) = nI (3 ^ (b + 1)) := by
        have : nI (3 ^ b) * (3 : Int32) = nI (3 ^ b * 3) := pk_mul _ 3
        rw [this, Nat.pow_succ]
      rw [em]
      exact ⟨_, by unfold fj_K_storiesOf_23; rw [nI_1], b + 1, rfl, by omega⟩
    · have z0 : s / 2 ^ i % 2 = 0 := by omega
      rw [if_neg (by rw [z0]; decide)]
      exact ⟨_, by unfold fj_K_storiesOf_23; rw [nI_1], b, rfl, by omega⟩
  · rintro st ⟨b, rfl, h⟩
    refine ⟨nI (3 ^ b), rfl, ?_⟩
    have : st_pop (10 - 10) (s / 2 ^ 10) = 0 := rfl
    rw [this] at h
    rw [← h]; rfl
theorem st_allD {s : Nat} (hs : s < 1024) (hp : st_pop 10 s ≤ 4) : kv_loop (kv_u2 (fb_D_stories_95 (nI s))) ((1 : Int32), (0 : Int32)) = some (nI (3 ^ st_pop 10 s)) := by
  have key := kp_inv (kv_u2 (fb_D_stories_95 (nI s))) (fun i st => st = (nI (3 ^ i), nI i)) (fun r => r = nI (3 ^ st_pop 10 s)) (st_pop 10 s) ?_ ?_ ((1 : Int32), (0 : Int32)) rfl
  · obtain ⟨r, h1, h2⟩ := key
    rw [h1, h2]
  · rintro i st hi rfl
    refine Or.inl ⟨(nI (3 ^ (i + 1)), nI (i + 1)), ?_, rfl⟩
    show fb_D_stories_95 (nI s) (nI (3 ^ i)) (nI i) = _
    unfold fb_D_stories_95
    have em : nI (3 ^ i) * (3 : Int32) = nI (3 ^ (i + 1)) := by
      have : nI (3 ^ i) * (3 : Int32) = nI (3 ^ i * 3) := pk_mul _ 3
      rw [this, Nat.pow_succ]
    rw [st_cntD hs, kp_b1, if_neg (nI_ge hi (by omega)), kp_let, em, nI_1]
  · rintro st rfl
    refine ⟨_, ?_, rfl⟩
    show fb_D_stories_95 (nI s) (nI (3 ^ st_pop 10 s)) (nI (st_pop 10 s)) = _
    unfold fb_D_stories_95
    rw [st_cntD hs, kp_b1, if_pos (nI_le (Nat.le_refl _) (by omega))]
/-- what is left of a story's digits at a lump -/
def st_r (s code : Nat) : Nat → Nat
  | 0 => code
  | l + 1 => if s / 2 ^ l % 2 = 1 then st_r s code l / 3 else st_r s code l
theorem st_r_le (s code : Nat) : ∀ l, st_r s code l ≤ code
  | 0 => Nat.le_refl _
  | l + 1 => by
    have ih := st_r_le s code l
    have e : st_r s code (l + 1) = if s / 2 ^ l % 2 = 1 then st_r s code l / 3 else st_r s code l := rfl
    rw [e]
    split <;> omega
def st_lo (most : Int) (d : Nat) : Int := if d = 0 then 0 else if d = 1 then 1 else -most
def st_hi (most : Int) (d : Nat) : Int := if d = 0 then 0 else if d = 1 then most else -1
def st_1 (s code : Nat) (most : Int) (p l : Nat) (x : Nat → Int) : Prop := s / 2 ^ l % 2 = 1 → st_lo most (st_r s code l % 3) ≤ x (p + l) - x l ∧ x (p + l) - x l ≤ st_hi most (st_r s code l % 3)
theorem st_ext {s code : Nat} {most : Int} {p i : Nat} (x : Nat → Int) : (∀ l, l < i + 1 → st_1 s code most p l x) ↔ (∀ l, l < i → st_1 s code most p l x) ∧ st_1 s code most p i x := ⟨fun h => ⟨fun l hl => h l (by omega), h i (by omega)⟩, fun ⟨h1, h2⟩ l hl => by
  by_cases z : l = i
  · rw [z]; exact h2
  · exact h1 l (by omega)⟩
theorem st_tellK {s code : Nat} (hs : s < 1024) (hcode : code < 1000) {p3 : Int32} (h3 : 1 ≤ p3.toInt ∧ p3.toInt ≤ 9999) (hN : ne_N c 20 e Sat) (he : e ≤ 100) : ∃ c2 e2, fx_K_tellStory (nI s) (nI code) p3 c = some c2 ∧ ne_fr c c2 e ∧ ne_N c2 20 e2 (fun x => Sat x ∧ ∀ l, l < 10 → st_1 s code p3.toInt 10 l x) := by
  have key := kp_inv (kv_u3 (fb_K_tellStory_6 (nI s) p3)) (fun i st => ∃ c3 e2, st = (nI (st_r s code i), nI i, c3) ∧ e ≤ e2 ∧ e2 ≤ e + 2 * i ∧ ne_fr c c3 e ∧ ne_N c3 20 e2 (fun x => Sat x ∧ ∀ l, l < i → st_1 s code p3.toInt 10 l x)) (fun c3 => ∃ e2, ne_fr c c3 e ∧ ne_N c3 20 e2 (fun x => Sat x ∧ ∀ l, l < 10 → st_1 s code p3.toInt 10 l x)) 10 ?_ ?_ (nI code, (0 : Int32), c) ⟨c, e, rfl, Nat.le_refl _, by omega, ne_fr_refl e, ne_congr hN (fun x => ⟨fun h => ⟨h, fun w hw => absurd hw (Nat.not_lt_zero _)⟩, fun h => h.1⟩)⟩
  · obtain ⟨c2, h1, e2, h2, h3⟩ := key
    exact ⟨c2, e2, by unfold fx_K_tellStory; rw [h1, kp_sb1], h2, h3⟩
  · rintro i st hi ⟨c3, e2, rfl, q1, q2, q3, q4⟩
    refine Or.inl ?_
    show ∃ s2, fb_K_tellStory_6 (nI s) p3 (nI (st_r s code i)) (nI i) c3 = some (.inl s2) ∧ _
    have b10 : ¬ (10 : Int32) ≤ nI i := nI_ge (b := 10) hi (by omega)
    have hr := st_r_le s code i
    have er : st_r s code (i + 1) = if s / 2 ^ i % 2 = 1 then st_r s code i / 3 else st_r s code i := rfl
    unfold fb_K_tellStory_6
    rw [if_neg b10, st_bit hs (by omega)]
    by_cases z : s / 2 ^ i % 2 = 1
    rotate_left
    · have z0 : s / 2 ^ i % 2 = 0 := by omega
      rw [if_neg (by rw [z0]; decide)]
      rw [if_neg z] at er
      refine ⟨(nI (st_r s code (i + 1)), nI (i + 1), c3), by unfold fj_K_tellStory_98; rw [nI_1, er], c3, e2, rfl, q1, by omega, q3, ne_congr q4 (fun x => ?_)⟩
      rw [st_ext]
      exact ⟨fun ⟨s1, s2⟩ => ⟨s1, s2, fun w => absurd w z⟩, fun ⟨s1, s2, _⟩ => ⟨s1, s2⟩⟩
    rw [if_pos z] at er
    have d1 : nI (st_r s code i) / (3 : Int32) = nI (st_r s code i / 3) := pk_div (d := 3) (by omega) (by omega) (by omega)
    have d2 : nI (st_r s code i) - nI (st_r s code i) / (3 : Int32) * (3 : Int32) = nI (st_r s code i % 3) := pk_rem (d := 3) (by omega) (by omega) (by omega)
    rw [if_pos (by rw [z]; rfl), d2, d1, kp_let, kp_let]
    have go : ∀ lo hi' : Int32, lo.toInt = st_lo p3.toInt (st_r s code i % 3) → hi'.toInt = st_hi p3.toInt (st_r s code i % 3) → ∃ s2, fj_K_tellStory_78 (nI i) lo c3 (nI (st_r s code i / 3)) hi' = some (.inl s2) ∧ ∃ c4 e3, s2 = (nI (st_r s code (i + 1)), nI (i + 1), c4) ∧ e ≤ e3 ∧ e3 ≤ e + 2 * (i + 1) ∧ ne_fr c c4 e ∧ ne_N c4 20 e3 (fun x => Sat x ∧ ∀ l, l < i + 1 → st_1 s code p3.toInt 10 l x) := by
      intro lo hi' g1 g2
      have b1 : -9999 ≤ lo.toInt ∧ lo.toInt ≤ 9999 := by rw [g1]; unfold st_lo; split <;> (try split) <;> omega
      have b2 : -9999 ≤ hi'.toInt ∧ hi'.toInt ≤ 9999 := by rw [g2]; unfold st_hi; split <;> (try split) <;> omega
      obtain ⟨c4, r1, r2, r3⟩ := ne_bound (lo := lo) (hi := hi') q4 (by omega) (show 10 + i < 20 by omega) (show i < 20 by omega) (by omega) (by omega) (by omega) (by omega)
      have ea : (10 : Int32) + nI i = nI (10 + i) := nI_add 10 i
      unfold fj_K_tellStory_78
      rw [ea, r1, kp_b1]
      refine ⟨_, by unfold fj_K_tellStory_98; rw [nI_1, er], c4, e2 + 2, rfl, by omega, by omega, ne_fr_trans q1 q3 r2, ne_congr r3 (fun x => ?_)⟩
      rw [st_ext]
      unfold st_1
      rw [g1, g2]
      exact ⟨fun ⟨⟨s1, s2⟩, s3⟩ => ⟨s1, s2, fun _ => s3⟩, fun ⟨s1, s2, s3⟩ => ⟨⟨s1, s2⟩, s3 z⟩⟩
    have hn : (-p3).toInt = -p3.toInt := by rw [Int32.toInt_neg, kp_bmod (by omega) (by omega)]
    have hlt : st_r s code i % 3 < 3 := Nat.mod_lt _ (by omega)
    by_cases w0 : st_r s code i % 3 = 0
    · rw [if_pos (by rw [w0]; rfl)]
      unfold fj_K_tellStory_56
      rw [if_pos (by rw [w0]; rfl)]
      exact go 0 0 (by rw [w0]; rfl) (by rw [w0]; rfl)
    rw [if_neg (nI_ne0 (by omega) (by omega))]
    have n1 : (nI (st_r s code i % 3) = (1 : Int32)) ↔ st_r s code i % 3 = 1 := nI_eq (b := 1) (by omega) (by omega)
    by_cases w1 : st_r s code i % 3 = 1
    · rw [if_pos (n1.mpr w1)]
      unfold fj_K_tellStory_56
      rw [if_neg (nI_ne0 (by omega) (by omega)), if_pos (n1.mpr w1)]
      exact go 1 p3 (by rw [w1]; rfl) (by rw [w1]; rfl)
    · rw [if_neg (fun w => w1 (n1.mp w))]
      unfold fj_K_tellStory_56
      rw [if_neg (nI_ne0 (by omega) (by omega)), if_neg (fun w => w1 (n1.mp w))]
      refine go (-p3) (-1) ?_ ?_
      · unfold st_lo; rw [if_neg w0, if_neg w1]; exact hn
      · unfold st_hi; rw [if_neg w0, if_neg w1]; exact ki_m1
  · rintro st ⟨c3, e2, rfl, q1, q2, q3, q4⟩
    exact ⟨c3, rfl, e2, q3, q4⟩
theorem st_tellD {s code : Nat} (hs : s < 1024) (hcode : code < 1000) (hL : L ≤ 10) {p3 : Int32} (h3 : 1 ≤ p3.toInt ∧ p3.toInt ≤ 9999) {f : Nat → Int64} (hN : md_N m f (2 * L) Sat) : ∃ f2, kv_loop (kv_u3 (fb_D_isLet_36 (nI L) (nI s) p3)) (nI code, (0 : Int32), f) = some f2 ∧ md_N m f2 (2 * L) (fun x => Sat x ∧ ∀ l, l < L → st_1 s code p3.toInt L l x) := by
  refine kp_inv (kv_u3 (fb_D_isLet_36 (nI L) (nI s) p3)) (fun i st => ∃ f3, st = (nI (st_r s code i), nI i, f3) ∧ md_N m f3 (2 * L) (fun x => Sat x ∧ ∀ l, l < i → st_1 s code p3.toInt L l x)) _ L ?_ ?_ (nI code, (0 : Int32), f) ⟨f, rfl, md_congr hN (fun x => ⟨fun h => ⟨h, fun w hw => absurd hw (Nat.not_lt_zero _)⟩, fun h => h.1⟩)⟩
  · rintro i st hi ⟨f3, rfl, q4⟩
    refine Or.inl ?_
    show ∃ s2, fb_D_isLet_36 (nI L) (nI s) p3 (nI (st_r s code i)) (nI i) f3 = some (.inl s2) ∧ _
    have hr := st_r_le s code i
    have er : st_r s code (i + 1) = if s / 2 ^ i % 2 = 1 then st_r s code i / 3 else st_r s code i := rfl
    unfold fb_D_isLet_36
    rw [if_neg (nI_ge hi (by omega)), st_bit hs (by omega)]
    by_cases z : s / 2 ^ i % 2 = 1
    rotate_left
    · have z0 : s / 2 ^ i % 2 = 0 := by omega
      rw [if_pos (by rw [z0]; rfl)]
      rw [if_neg z] at er
      refine ⟨(nI (st_r s code (i + 1)), nI (i + 1), f3), by unfold fj_D_isLet_125; rw [nI_1, er], f3, rfl, md_congr q4 (fun x => ?_)⟩
      rw [st_ext]
      exact ⟨fun ⟨s1, s2⟩ => ⟨s1, s2, fun w => absurd w z⟩, fun ⟨s1, s2, _⟩ => ⟨s1, s2⟩⟩
    rw [if_pos z] at er
    have d1 : nI (st_r s code i) / (3 : Int32) = nI (st_r s code i / 3) := pk_div (d := 3) (by omega) (by omega) (by omega)
    have d2 : nI (st_r s code i) - nI (st_r s code i) / (3 : Int32) * (3 : Int32) = nI (st_r s code i % 3) := pk_rem (d := 3) (by omega) (by omega) (by omega)
    rw [if_neg (by rw [z]; decide), d2, d1, kp_let, kp_let]
    have go : ∀ lo hi' : Int64, lo.toInt = st_lo p3.toInt (st_r s code i % 3) → hi'.toInt = st_hi p3.toInt (st_r s code i % 3) → ∃ s2, fj_D_isLet_122 (nI L) (nI i) lo f3 (nI (st_r s code i / 3)) hi' = some (.inl s2) ∧ ∃ f4, s2 = (nI (st_r s code (i + 1)), nI (i + 1), f4) ∧ md_N m f4 (2 * L) (fun x => Sat x ∧ ∀ l, l < i + 1 → st_1 s code p3.toInt L l x) := by
      intro lo hi' g1 g2
      have b1 : -9999 ≤ lo.toInt ∧ lo.toInt ≤ 9999 := by rw [g1]; unfold st_lo; split <;> (try split) <;> omega
      have b2 : -9999 ≤ hi'.toInt ∧ hi'.toInt ≤ 9999 := by rw [g2]; unfold st_hi; split <;> (try split) <;> omega
      obtain ⟨f4, r1, r2⟩ := md_binds (lo := lo) (hi := hi') q4 (show L + i < 2 * L by omega) (show i < 2 * L by omega) (by omega) (by omega) (by omega) (by omega) (by omega)
      unfold fj_D_isLet_122
      rw [nI_add, r1, kp_b1]
      refine ⟨_, by unfold fj_D_isLet_125; rw [nI_1, er], f4, rfl, md_congr r2 (fun x => ?_)⟩
      rw [st_ext]
      unfold st_1
      rw [g1, g2]
      exact ⟨fun ⟨⟨s1, s2⟩, s3⟩ => ⟨s1, s2, fun _ => s3⟩, fun ⟨s1, s2, s3⟩ => ⟨⟨s1, s2⟩, s3 z⟩⟩
    have hn : (-p3).toInt = -p3.toInt := by rw [Int32.toInt_neg, kp_bmod (by omega) (by omega)]
    have hlt : st_r s code i % 3 < 3 := Nat.mod_lt _ (by omega)
    by_cases w0 : st_r s code i % 3 = 0
    · rw [if_pos (by rw [w0]; rfl)]
      unfold fj_D_isLet_98
      rw [if_pos (by rw [w0]; rfl)]
      exact go 0 0 (by rw [w0]; exact kl_zz) (by rw [w0]; exact kl_zz)
    rw [if_neg (nI_ne0 (by omega) (by omega))]
    have n1 : (nI (st_r s code i % 3) = (1 : Int32)) ↔ st_r s code i % 3 = 1 := nI_eq (b := 1) (by omega) (by omega)
    by_cases w1 : st_r s code i % 3 = 1
    · rw [if_pos (n1.mpr w1)]
      unfold fj_D_isLet_98
      rw [if_neg (nI_ne0 (by omega) (by omega)), if_pos (n1.mpr w1)]
      exact go 1 p3.toInt64 (by rw [w1]; show (1 : Int64).toInt = 1; decide) (by rw [w1, Int32.toInt_toInt64]; rfl)
    · rw [if_neg (fun w => w1 (n1.mp w))]
      unfold fj_D_isLet_98
      rw [if_neg (nI_ne0 (by omega) (by omega)), if_neg (fun w => w1 (n1.mp w))]
      refine go (-p3).toInt64 (-1) ?_ ?_
      · unfold st_lo; rw [if_neg w0, if_neg w1, Int32.toInt_toInt64]; exact hn
      · unfold st_hi; rw [if_neg w0, if_neg w1]; decide
  · rintro st ⟨f3, rfl, q4⟩
    refine ⟨f3, ?_, q4⟩
    show fb_D_isLet_36 (nI L) (nI s) p3 (nI (st_r s code L)) (nI L) f3 = _
    unfold fb_D_isLet_36
    rw [if_pos (nI_le (Nat.le_refl _) (by omega))]
/-- lumps of the first net, and of the second one: moved -/
theorem st_move {s code : Nat} (hL : L ≤ 10) (hs : s < 2 ^ L) (hw : ∀ w, w < T → yw c m L w) {y1 y2 : Int32} {most : Int} : (∃ x, ((yr_S c y1 0 T x ∧ yr_S c y2 10 T x) ∧ ∀ l, l < 10 → st_1 s code most 10 l x)) ↔ ∃ x, ((yr_S c y1 0 T x ∧ yr_S c y2 L T x) ∧ ∀ l, l < L → st_1 s code most L l x) := by
  have ab : ∀ w, w < T → (c 12 w).toNatClampNeg < L ∧ (c 13 w).toNatClampNeg < L := by
    intro w h
    obtain ⟨a, b, y, ha, hb, -, -, ca, cb, -⟩ := yw_n (hw w h)
    rw [ca, cb, nI_clamp (by omega), nI_clamp (by omega)]
    exact ⟨ha, hb⟩
  constructor
  · rintro ⟨x, ⟨h1, h2⟩, h3⟩
    have lo : ∀ u, u < L → (fun u => if u < L then x u else x (10 + (u - L))) (0 + u) = x (0 + u) := fun u hu => by
      show (if 0 + u < L then x (0 + u) else _) = _
      rw [if_pos (by omega)]
    have lo0 : ∀ u, u < L → (fun u => if u < L then x u else x (10 + (u - L))) u = x u := fun u hu => if_pos hu
    have up : ∀ u, (fun u => if u < L then x u else x (10 + (u - L))) (L + u) = x (10 + u) := fun u => by
      show (if L + u < L then x (L + u) else x (10 + (L + u - L))) = _
      rw [if_neg (by omega), show L + u - L = u by omega]
    refine ⟨fun u => if u < L then x u else x (10 + (u - L)), ⟨fun w a1 a2 a3 => ?_, fun w a1 a2 a3 => ?_⟩, fun l hl b => ?_⟩
    · have := h1 w a1 a2 a3
      unfold yr_1 at this ⊢
      rw [lo _ (ab w a1).1, lo _ (ab w a1).2]
      exact this
    · have := h2 w a1 a2 a3
      unfold yr_1 at this ⊢
      rw [up, up]
      exact this
    · rw [up, lo0 l hl]
      exact h3 l (by omega) b
  · rintro ⟨x, ⟨h1, h2⟩, h3⟩
    have lo : ∀ u, u < 10 → (fun u => if u < 10 then x u else x (L + (u - 10))) (0 + u) = x (0 + u) := fun u hu => by
      show (if 0 + u < 10 then x (0 + u) else _) = _
      rw [if_pos (by omega)]
    have lo0 : ∀ u, u < 10 → (fun u => if u < 10 then x u else x (L + (u - 10))) u = x u := fun u hu => if_pos hu
    have up : ∀ u, (fun u => if u < 10 then x u else x (L + (u - 10))) (10 + u) = x (L + u) := fun u => by
      show (if 10 + u < 10 then x (10 + u) else x (L + (10 + u - 10))) = _
      rw [if_neg (by omega), show 10 + u - 10 = u by omega]
    refine ⟨fun u => if u < 10 then x u else x (L + (u - 10)), ⟨fun w a1 a2 a3 => ?_, fun w a1 a2 a3 => ?_⟩, fun l hl b => ?_⟩
    · have := h1 w a1 a2 a3
      have := ab w a1
      unfold yr_1 at *
      rw [lo _ (by omega), lo _ (by omega)]
      assumption
    · have := h2 w a1 a2 a3
      unfold yr_1 at this ⊢
      rw [up, up]
      exact this
    · rw [up, lo0 l hl]
      refine h3 l ?_ b
      by_cases z : l < L
      · exact z
      · have : 2 ^ L ≤ 2 ^ l := Nat.pow_le_pow_right (by omega) (by omega)
        rw [Nat.div_eq_of_lt (by omega)] at b
        omega
end ST
