/-! ===== words: the class's reader ===== -/
section RD
variable {c : Nat → Nat → Int32} {N : Nat} {tx e : Nat → Int32}
def rd_g (c : Nat → Nat → Int32) (q : Nat) : Nat → Nat → Int32 := kv_st c 75 2 (nI q)
def rd_b (c : Nat → Nat → Int32) (q : Nat) : Nat → Nat → Int32 := kv_st (kv_st c 75 2 (nI q)) 75 3 (nI q)
theorem rd_gg (a b : Nat) : rd_g (rd_g c a) b = rd_g c b := by
  funext q j
  unfold rd_g
  simp only [kp_st]
  split <;> rfl
theorem rd_bg (a b : Nat) : rd_b (rd_g c a) b = rd_b c b := by
  funext q j
  unfold rd_b rd_g
  simp only [kp_st]
  split
  · rfl
  · split <;> rfl
def rd_R (c : Nat → Nat → Int32) (N : Nat) (tx e : Nat → Int32) : Prop := N ≤ 100 ∧ c 75 1 = nI N ∧ c 75 3 = -1 ∧ (∀ i, i < N → c 76 i = tx i) ∧ c 75 9 = e 0 ∧ c 75 10 = e 1 ∧ c 75 11 = e 2 ∧ c 75 12 = e 3
theorem rd_g2 (q : Nat) : rd_g c q 75 2 = nI q := by unfold rd_g; rw [kp_st, if_pos ⟨rfl, rfl⟩]
theorem rd_go (q j : Nat) (hj : j ≠ 2) : rd_g c q 75 j = c 75 j := by unfold rd_g; rw [kp_st, if_neg (fun w => hj w.2)]
theorem rd_gr (q r : Nat) (hr : r ≠ 75) : rd_g c q r = c r := by unfold rd_g; rw [kp_st_ne hr]
theorem rd_b3 (q : Nat) : rd_b c q 75 3 = nI q := by unfold rd_b; rw [kp_st, if_pos ⟨rfl, rfl⟩]
theorem tk_at_in {p : Nat} (hp : p < N) : tk_at tx N p = (tx p).toInt := if_pos hp
theorem tk_at_out {p : Nat} (hp : N ≤ p) : tk_at tx N p = -1000 := if_neg (by omega)
theorem rd_at (h : rd_R c N tx e) {p : Nat} (hp : p ≤ N) {ch : Int32} (hc : ch.toInt ≠ -1000) : fx_Reader_isAt ch (rd_g c p) = some (decide (tk_at tx N p = ch.toInt)) := by
  obtain ⟨h1, h2, h3, h4, -⟩ := h
  unfold fx_Reader_isAt
  rw [rd_go _ 3 (by omega), h3, if_neg (by decide), rd_go _ 1 (by omega), h2, rd_g2]
  by_cases z : p < N
  · rw [if_neg (nI_ge z (by omega)), kp_gd _ (kp_in_nI (by omega) (by omega)), nI_clamp (by omega), rd_gr _ 76 (by omega), h4 p z, tk_at_in z]
    by_cases w : tx p = ch
    · rw [if_pos w, decide_eq_true (by rw [w])]
    · rw [if_neg w, decide_eq_false (fun x => w ((kp_eq _ _).mpr x))]
  · rw [if_pos (nI_le (by omega) (by omega)), tk_at_out (by omega), decide_eq_false (fun x => hc x.symm)]
theorem rd_dig (h : rd_R c N tx e) {p : Nat} (hp : p ≤ N) : fx_Reader_isAtDigit (rd_g c p) = some (tk_dig (tk_at tx N p)) := by
  obtain ⟨h1, h2, h3, h4, -⟩ := h
  unfold fx_Reader_isAtDigit tk_dig
  rw [rd_go _ 3 (by omega), h3, if_neg (by decide), rd_go _ 1 (by omega), h2, rd_g2]
  by_cases z : p < N
  · rw [if_neg (nI_ge z (by omega)), kp_gd _ (kp_in_nI (by omega) (by omega)), nI_clamp (by omega), rd_gr _ 76 (by omega), h4 p z, tk_at_in z]
    by_cases w : tx p < 48
    · rw [if_pos w, decide_eq_false (by rw [kp_lt, ki_48] at w; omega), Bool.false_and]
    · rw [if_neg w, decide_eq_true (show 48 ≤ (tx p).toInt by rw [kp_lt, ki_48] at w; omega), Bool.true_and]
      by_cases w2 : (57 : Int32) < tx p
      · rw [if_pos w2, decide_eq_false (by rw [kp_lt, ki_57] at w2; omega)]
      · rw [if_neg w2, decide_eq_true (show (tx p).toInt ≤ 57 by rw [kp_lt, ki_57] at w2; omega)]
  · rw [if_pos (nI_le (by omega) (by omega)), tk_at_out (by omega)]
    rfl
theorem rd_at_b {q : Nat} (hq : q < 2 ^ 31) (ch : Int32) : fx_Reader_isAt ch (rd_b c q) = some false := by
  unfold fx_Reader_isAt
  rw [rd_b3, if_pos (nI_pos' hq)]
theorem rd_stop (h : rd_R c N tx e) (p : Nat) : fx_Reader_stop (rd_g c p) = some (rd_b c p) := by
  unfold fx_Reader_stop
  rw [rd_go _ 3 (by omega), h.2.2.1, if_neg (by decide), rd_g2]
  rfl
theorem rd_stop_b {q : Nat} (hq : q < 2 ^ 31) : fx_Reader_stop (rd_b c q) = some (rd_b c q) := by
  unfold fx_Reader_stop
  rw [rd_b3, if_pos (nI_pos' hq)]
theorem rd_on (p : Nat) : kv_st (rd_g c p) 75 2 (nI p + 1) = rd_g c (p + 1) := by
  rw [nI_1]
  exact rd_gg p (p + 1)
theorem rd_expect (h : rd_R c N tx e) {p : Nat} (hp : p ≤ N) {ch : Int32} (hc : ch.toInt ≠ -1000) : fx_Reader_expect ch (rd_g c p) = some (if tk_at tx N p = ch.toInt then rd_g c (p + 1) else rd_b c p) := by
  unfold fx_Reader_expect
  rw [rd_at h hp hc, kp_b1]
  by_cases z : tk_at tx N p = ch.toInt
  · rw [decide_eq_true z, if_pos rfl, if_pos z, rd_g2, rd_on, kp_let]
  · rw [decide_eq_false z, if_neg (by decide), if_neg z, rd_stop h, kp_b1]
theorem rd_expect_b {q : Nat} (hq : q < 2 ^ 31) (ch : Int32) : fx_Reader_expect ch (rd_b c q) = some (rd_b c q) := by
  unfold fx_Reader_expect
  rw [rd_at_b hq, kp_b1, if_neg (by decide), rd_stop_b hq, kp_b1]
theorem rd_nstep (h : rd_R c N tx e) {p : Nat} (hp : p ≤ N) {k lim : Nat} (hk : k < lim) (hl : lim ≤ 3) (v : Int32) : fj_Reader_number_34 (nI k) v (rd_g c p) (nI lim) = if tk_dig (tk_at tx N p) = true then some (.inl ((v * 10 + tx p) - 48, nI (k + 1), rd_g c (p + 1))) else some (.inr (v, rd_g c p)) := by
  unfold fj_Reader_number_34
  rw [if_neg (nI_ge hk (by omega)), rd_dig h hp, kp_b1]
  by_cases z : tk_dig (tk_at tx N p) = true
  · have hlt := tk_dig_lt z
    have := h.1
    rw [if_pos z, if_pos z, rd_g2, kp_gd _ (kp_in_nI (by omega) (by omega)), nI_clamp (by omega), rd_gr _ 76 (by omega), h.2.2.2.1 p hlt, kp_let, rd_on, kp_let, nI_1]
  · rw [if_neg z, if_neg z]
theorem rd_nend {p : Nat} {k lim : Nat} (hk : lim ≤ k) (hl : k < 2 ^ 31) (v : Int32) : fj_Reader_number_34 (nI k) v (rd_g c p) (nI lim) = some (.inr (v, rd_g c p)) := by
  unfold fj_Reader_number_34
  rw [if_pos (nI_le hk hl)]
theorem rd_as (a b d : Int32) : (a + b) - d = a + (b - d) := by
  rw [Int32.sub_eq_add_neg, Int32.sub_eq_add_neg, Int32.add_assoc]
theorem rd_num (h : rd_R c N tx e) {p : Nat} (hp : p ≤ N) : (∀ w q, tk_num tx N p = .inr (w, q) → (p < q ∧ q ≤ N) ∧ fx_Reader_number (rd_g c p) = some (w, rd_g c q)) ∧ (∀ q, tk_num tx N p = .inl q → q = p ∧ fx_Reader_number (rd_g c p) = some (0, rd_b c q)) := by
  unfold tk_num fx_Reader_number
  rw [rd_dig h hp, kp_b1]
  by_cases z : tk_dig (tk_at tx N p) = true
  rotate_left
  · rw [if_neg z, if_neg z]
    refine ⟨fun w q e => by (cases e), fun q e => ?_⟩
    cases e
    exact ⟨rfl, by rw [rd_stop h, kp_b1]⟩
  have hlt := tk_dig_lt z
  rw [if_pos z, if_pos z, rd_at h hp (by decide), kp_b1, show (48 : Int32).toInt = 48 from ki_48]
  have start : ∀ b : Bool, kv_loop (kv_u3 (fb_Reader_number_24 (kv_b b))) ((0 : Int32), (0 : Int32), rd_g c p) = kv_loop (kv_u3 (fb_Reader_number_24 (kv_b b))) (tx p - 48, nI 1, rd_g c (p + 1)) := by
    intro b
    refine kp_step ?_
    show fb_Reader_number_24 (kv_b b) 0 (nI 0) (rd_g c p) = _
    have e0 : ((0 : Int32) * 10 + tx p) - 48 = tx p - 48 := by rw [Int32.zero_mul, Int32.zero_add]
    unfold fb_Reader_number_24
    cases b with
    | false =>
      show (if (0 : Int32) = 0 then fj_Reader_number_34 (nI 0) 0 (rd_g c p) (nI 3) else fj_Reader_number_34 (nI 0) 0 (rd_g c p) (nI 1)) = _
      rw [if_pos rfl, rd_nstep h hp (by omega) (by omega), if_pos z, e0]
    | true =>
      show (if (1 : Int32) = 0 then fj_Reader_number_34 (nI 0) 0 (rd_g c p) (nI 3) else fj_Reader_number_34 (nI 0) 0 (rd_g c p) (nI 1)) = _
      rw [if_neg (by decide), rd_nstep h hp (by omega) (by omega), if_pos z, e0]
  by_cases z0 : tk_at tx N p = 48
  · rw [if_pos z0, decide_eq_true z0, kp_let, start]
    have ex : tx p = 48 := by rw [kp_eq, ki_48, ← tk_at_in (tx := tx) hlt]; exact z0
    have fin : kv_loop (kv_u3 (fb_Reader_number_24 (kv_b true))) (tx p - 48, nI 1, rd_g c (p + 1)) = some (tx p - 48, rd_g c (p + 1)) := by
      refine kp_stop ?_
      show (if (1 : Int32) = 0 then fj_Reader_number_34 (nI 1) (tx p - 48) (rd_g c (p + 1)) (nI 3) else fj_Reader_number_34 (nI 1) (tx p - 48) (rd_g c (p + 1)) (nI 1)) = _
      rw [if_neg (by decide), rd_nend (Nat.le_refl _) (by omega)]
    rw [fin]
    refine ⟨fun w q e => ?_, fun q e => by (cases e)⟩
    cases e
    exact ⟨⟨by omega, by omega⟩, by rw [ex, Int32.sub_self]; rfl⟩
  rw [if_neg z0, decide_eq_false z0, kp_let, start]
  have K : ∀ (k : Nat) (v : Int32) (s : Nat → Nat → Int32), kv_u3 (fb_Reader_number_24 (kv_b false)) (v, nI k, s) = fj_Reader_number_34 (nI k) v s (nI 3) := by
    intro k v s
    show (if (0 : Int32) = 0 then fj_Reader_number_34 (nI k) v s (nI 3) else fj_Reader_number_34 (nI k) v s (nI 1)) = _
    rw [if_pos rfl]
  by_cases z1 : tk_dig (tk_at tx N (p + 1)) = true
  rotate_left
  · rw [if_neg z1]
    have fin : kv_loop (kv_u3 (fb_Reader_number_24 (kv_b false))) (tx p - 48, nI 1, rd_g c (p + 1)) = some (tx p - 48, rd_g c (p + 1)) := by
      refine kp_stop ?_
      rw [K, rd_nstep h (by omega) (by omega) (by omega), if_neg z1]
    rw [fin]
    refine ⟨fun w q e => ?_, fun q e => by (cases e)⟩
    cases e
    exact ⟨⟨by omega, by omega⟩, rfl⟩
  have hlt1 := tk_dig_lt z1
  rw [if_pos z1]
  have s1 : kv_loop (kv_u3 (fb_Reader_number_24 (kv_b false))) (tx p - 48, nI 1, rd_g c (p + 1)) = kv_loop (kv_u3 (fb_Reader_number_24 (kv_b false))) ((tx p - 48) * 10 + (tx (p + 1) - 48), nI 2, rd_g c (p + 2)) := by
    refine kp_step ?_
    rw [K, rd_nstep h (by omega) (by omega) (by omega), if_pos z1, rd_as]
  rw [s1]
  by_cases z2 : tk_dig (tk_at tx N (p + 2)) = true
  rotate_left
  · rw [if_neg z2]
    have fin : kv_loop (kv_u3 (fb_Reader_number_24 (kv_b false))) ((tx p - 48) * 10 + (tx (p + 1) - 48), nI 2, rd_g c (p + 2)) = some ((tx p - 48) * 10 + (tx (p + 1) - 48), rd_g c (p + 2)) := by
      refine kp_stop ?_
      rw [K, rd_nstep h (by omega) (by omega) (by omega), if_neg z2]
    rw [fin]
    refine ⟨fun w q e => ?_, fun q e => by (cases e)⟩
    cases e
    exact ⟨⟨by omega, by omega⟩, rfl⟩
  have hlt2 := tk_dig_lt z2
  rw [if_pos z2]
  have s2 : kv_loop (kv_u3 (fb_Reader_number_24 (kv_b false))) ((tx p - 48) * 10 + (tx (p + 1) - 48), nI 2, rd_g c (p + 2)) = kv_loop (kv_u3 (fb_Reader_number_24 (kv_b false))) (((tx p - 48) * 10 + (tx (p + 1) - 48)) * 10 + (tx (p + 2) - 48), nI 3, rd_g c (p + 3)) := by
    refine kp_step ?_
    rw [K, rd_nstep h (by omega) (by omega) (by omega), if_pos z2, rd_as]
  have fin : kv_loop (kv_u3 (fb_Reader_number_24 (kv_b false))) (((tx p - 48) * 10 + (tx (p + 1) - 48)) * 10 + (tx (p + 2) - 48), nI 3, rd_g c (p + 3)) = some (((tx p - 48) * 10 + (tx (p + 1) - 48)) * 10 + (tx (p + 2) - 48), rd_g c (p + 3)) := by
    refine kp_stop ?_
    rw [K, rd_nend (Nat.le_refl _) (by omega)]
  rw [s2, fin]
  refine ⟨fun w q e => ?_, fun q e => by (cases e)⟩
  cases e
  exact ⟨⟨by omega, by omega⟩, rfl⟩
theorem tk_then_some {α : Type} {x : Option (Nat ⊕ (Int32 × Nat))} {K : Int32 → Nat → Option (Nat ⊕ α)} {r : Nat ⊕ α} (h : tk_then x K = some r) : (∃ q, x = some (.inl q) ∧ r = .inl q) ∨ ∃ w q, x = some (.inr (w, q)) ∧ K w q = some r := by
  unfold tk_then at h
  cases x with
  | none => cases h
  | some z =>
    cases z with
    | inl q =>
      refine Or.inl ⟨q, rfl, ?_⟩
      have : some (Sum.inl q) = some r := h
      injection this with e
      exact e.symm
    | inr a => exact Or.inr ⟨a.1, a.2, rfl, h⟩
/-- what comes of a reading: a value and a place, or the fault -/
def rd_O (c : Nat → Nat → Int32) (r : Nat ⊕ (Int32 × Nat)) (z : Option (Int32 × (Nat → Nat → Int32))) : Prop := (∀ q, r = .inl q → ∃ w, z = some (w, rd_b c q)) ∧ ∀ w q, r = .inr (w, q) → z = some (w, rd_g c q)
theorem rd_O_l {q : Nat} {w : Int32} {z : Option (Int32 × (Nat → Nat → Int32))} (h : z = some (w, rd_b c q)) : rd_O c (.inl q) z := ⟨fun q2 e => by cases e; exact ⟨w, h⟩, fun w2 q2 e => by (cases e)⟩
theorem rd_O_r {q : Nat} {w : Int32} {z : Option (Int32 × (Nat → Nat → Int32))} (h : z = some (w, rd_g c q)) : rd_O c (.inr (w, q)) z := ⟨fun q2 e => by (cases e), fun w2 q2 e => by cases e; exact h⟩
/-- places only grow, and stay in the text -/
def rd_P (N p : Nat) (s : Bool) (r : Nat ⊕ (Int32 × Nat)) : Prop := (∀ q, r = .inl q → q ≤ N) ∧ ∀ w q, r = .inr (w, q) → (if s = true then p < q else p ≤ q) ∧ q ≤ N
theorem rd_sum_b {G : Int32 → (Nat → Nat → Int32) → Option (Int32 × (Nat → Nat → Int32))} {d : Int32} {q : Nat} (hq : q < 2 ^ 31) (x k : Int32) : kv_loop (kv_u3 (fb_Reader_sum_8 G d)) (x, k, rd_b c q) = some (x, rd_b c q) := by
  refine kp_stop ?_
  show fb_Reader_sum_8 G d x k (rd_b c q) = _
  unfold fb_Reader_sum_8
  rw [rd_at_b hq, rd_at_b hq, kp_b1, if_neg (show ¬ (false = true) by decide), kp_b1, if_neg (show ¬ (false = true) by decide)]
  split <;> rfl
theorem rd_prod_b {G : Int32 → (Nat → Nat → Int32) → Option (Int32 × (Nat → Nat → Int32))} {d : Int32} {q : Nat} (hq : q < 2 ^ 31) (x k : Int32) : kv_loop (kv_u3 (fb_Reader_product_8 G d)) (x, k, rd_b c q) = some (x, rd_b c q) := by
  refine kp_stop ?_
  show fb_Reader_product_8 G d x k (rd_b c q) = _
  unfold fb_Reader_product_8
  rw [rd_at_b hq, rd_at_b hq, kp_b1, if_neg (show ¬ (false = true) by decide), kp_b1, if_neg (show ¬ (false = true) by decide)]
  split <;> rfl
end RD
