/-! ===== words: the calls ===== -/
section OW
variable {k N : Nat} {c m : Nat → Nat → Int32} {tx e e2 : Nat → Int32}
theorem tk_all_sh {now now2 : Int} : ∀ n p st hf hf2 hv hv2 wr r, tk_all tx N e now n p st hf hv wr = some r → ∃ r2, tk_all tx N e2 now2 n p st hf2 hv2 wr = some r2 ∧ (∀ q, r = .inl q → r2 = .inl q) ∧ ∀ a b d, r = .inr (a, b, d) → ∃ b2, r2 = .inr (a, b2, d) := by
  intro n
  induction n with
  | zero => intro p st hf hf2 hv hv2 wr r h; cases h
  | succ n ih =>
    intro p st hf hf2 hv hv2 wr r h
    rw [tk_all_s] at h ⊢
    have S : ∀ z, tk_stm tx N e n p = some z → ∃ z2, tk_stm tx N e2 n p = some z2 ∧ (∀ q, z = .inl q → z2 = .inl q) ∧ ∀ y w q, z = .inr (y, w, q) → ∃ w2, z2 = .inr (y, w2, q) := by
      intro z hz
      rcases tk_stm_or hz with ⟨q, a1, rfl⟩ | ⟨y, q, a1, ho⟩
      · unfold tk_stm
        rw [a1]
        exact ⟨.inl q, rfl, fun q0 e0 => e0, fun y w q0 e0 => by (cases e0)⟩
      unfold tk_stm
      rw [a1, tk_then_r]
      rcases ho with ⟨a2, rfl⟩ | ⟨a2, ho⟩
      · rw [if_neg a2]
        exact ⟨.inl q, rfl, fun q0 e0 => e0, fun y w q0 e0 => by (cases e0)⟩
      rw [if_pos a2]
      rcases ho with ⟨q2, a3, rfl⟩ | ⟨w, q2, a3, ho⟩
      · obtain ⟨r2, b1, b2⟩ := tk_shape (e2 := e2) n 0 0 0 0 (q + 1) _ a3
        rw [b1, b2.1 q2 rfl, tk_then_l]
        exact ⟨.inl q2, rfl, fun q0 e0 => e0, fun y w q0 e0 => by (cases e0)⟩
      obtain ⟨r2, b1, b2⟩ := tk_shape (e2 := e2) n 0 0 0 0 (q + 1) _ a3
      obtain ⟨w2, b3⟩ := b2.2 w q2 rfl
      rw [b1, b3, tk_then_r]
      rcases ho with ⟨a4, rfl⟩ | ⟨a4, rfl⟩
      · rw [if_neg a4]
        exact ⟨.inl q2, rfl, fun q0 e0 => e0, fun y w q0 e0 => by (cases e0)⟩
      · rw [if_pos a4]
        refine ⟨_, rfl, fun q0 e0 => by (cases e0), fun y0 w0 q0 e0 => ?_⟩
        cases e0
        exact ⟨w2, rfl⟩
    cases hz : tk_stm tx N e n p with
    | none => rw [hz] at h; cases h
    | some z =>
      obtain ⟨z2, s1, s2, s3⟩ := S z hz
      rw [hz] at h
      rw [s1]
      cases z with
      | inl q =>
        have h : some (Sum.inl q) = some r := h
        injection h with h
        rw [s2 q rfl]
        exact ⟨.inl q, rfl, fun q0 e0 => by rw [← h] at e0; exact e0, fun a b d e0 => by rw [← h] at e0; cases e0⟩
      | inr a =>
        obtain ⟨y, w, q⟩ := a
        obtain ⟨w2, s4⟩ := s3 y w q rfl
        rw [s4]
        have h : (if q < N then tk_all tx N e now n q (st + 1) (if y.toInt ≤ now ∧ hf ≤ y.toInt then y.toInt else hf) (if y.toInt ≤ now ∧ hf ≤ y.toInt then w else hv) (if wr = none ∧ 140 < y.toInt then some p else wr) else some (.inr (st + 1, (if y.toInt ≤ now ∧ hf ≤ y.toInt then w else hv), (if wr = none ∧ 140 < y.toInt then some p else wr)))) = some r := h
        show ∃ r2, (if q < N then tk_all tx N e2 now2 n q (st + 1) (if y.toInt ≤ now2 ∧ hf2 ≤ y.toInt then y.toInt else hf2) (if y.toInt ≤ now2 ∧ hf2 ≤ y.toInt then w2 else hv2) (if wr = none ∧ 140 < y.toInt then some p else wr) else some (.inr (st + 1, (if y.toInt ≤ now2 ∧ hf2 ≤ y.toInt then w2 else hv2), (if wr = none ∧ 140 < y.toInt then some p else wr)))) = some r2 ∧ _
        by_cases zq : q < N
        · rw [if_pos zq] at h ⊢
          exact ih q (st + 1) _ _ _ _ _ r h
        · rw [if_neg zq] at h ⊢
          injection h with h
          refine ⟨_, rfl, fun q0 e0 => by (rw [← h] at e0; cases e0), fun a b d e0 => ?_⟩
          rw [← h] at e0
          cases e0
          exact ⟨_, rfl⟩
theorem tk_all_tot {now : Int} (hN : N ≤ 100) : ∀ d n p st hf hv wr, p ≤ N → N - p ≤ d → 3 * N + 4 + d ≤ n → ∃ r, tk_all tx N e now n p st hf hv wr = some r := by
  intro d
  induction d with
  | zero =>
    intro n p st hf hv wr hp hd hn
    obtain ⟨n, rfl⟩ : ∃ n2, n = n2 + 1 := ⟨n - 1, by omega⟩
    have ep : p = N := by omega
    have z : tk_stm tx N e n p = some (.inl p) := by
      unfold tk_stm tk_num
      rw [tk_at_out (by omega), if_neg (by decide)]
      rfl
    rw [tk_all_s, z]
    exact ⟨_, rfl⟩
  | succ d ih =>
    intro n p st hf hv wr hp hd hn
    obtain ⟨n, rfl⟩ : ∃ n2, n = n2 + 1 := ⟨n - 1, by omega⟩
    have hz : ∃ z, tk_stm tx N e n p = some z := by
      unfold tk_stm
      cases hnum : tk_num tx N p with
      | inl q => exact ⟨.inl q, rfl⟩
      | inr a =>
        obtain ⟨y, q⟩ := a
        rw [tk_then_r]
        by_cases z1 : tk_at tx N q = 58
        · rw [if_pos z1]
          have hlt := at_lt z1 (by omega)
          obtain ⟨r, hr⟩ := tk_tot (e := e) (tx := tx) hN n 0 0 0 (q + 1) (by omega) (by omega) (by rw [if_pos rfl]; omega)
          rw [hr]
          cases r with
          | inl q2 => exact ⟨.inl q2, rfl⟩
          | inr b =>
            obtain ⟨w, q2⟩ := b
            rw [tk_then_r]
            split
            · exact ⟨_, rfl⟩
            · exact ⟨_, rfl⟩
        · rw [if_neg z1]
          exact ⟨_, rfl⟩
    obtain ⟨z, hz⟩ := hz
    rw [tk_all_s, hz]
    cases z with
    | inl q => exact ⟨_, rfl⟩
    | inr a =>
      obtain ⟨y, w, q⟩ := a
      show ∃ r, (if q < N then tk_all tx N e now n q (st + 1) (if y.toInt ≤ now ∧ hf ≤ y.toInt then y.toInt else hf) (if y.toInt ≤ now ∧ hf ≤ y.toInt then w else hv) (if wr = none ∧ 140 < y.toInt then some p else wr) else some (.inr (st + 1, (if y.toInt ≤ now ∧ hf ≤ y.toInt then w else hv), (if wr = none ∧ 140 < y.toInt then some p else wr)))) = some r
      by_cases zq : q < N
      · rw [if_pos zq]
        have hgt : p < q := by
          have hR : rd_R (fun q j => if q = 76 then tx j else if j = 1 then nI N else if j = 3 then -1 else if j = 2 then nI p else e (j - 9)) N tx e := ⟨hN, rfl, rfl, fun i _ => rfl, rfl, rfl, rfl, rfl⟩
          exact ((rs_stm hR rfl hp hz).2 y w q rfl).1.1
        exact ih n q (st + 1) _ _ _ (by omega) (by omega) (by omega)
      · rw [if_neg zq]
        exact ⟨_, rfl⟩
/-! means -/
theorem mn_sim {L : Nat} (hL : L ≤ 10) (hc : c 2 7 = nI L) (hm : m 85 1 = nI L) (h0 : ∀ l, l < L → m 85 (10 + 6 * l) = c 3 l) (h3 : ∀ l, l < L → m 85 (13 + 6 * l) = c 6 l) (p q : Int32) : ∃ x, fx_Lumps_mean p q c = some x ∧ fx_D_meanOf p q m = some x := by
  obtain ⟨r, w, s1, s2, s3⟩ := kp_sim (kv_u3 (fb_Lumps_mean_8 c p q)) (kv_u3 (fb_D_meanOf_8 m p q)) (fun i s t => ∃ x1 x2 : Int32, s = (x1, x2, nI i) ∧ t = (x1, x2, nI i)) (fun r w => r = w) L (by
    rintro i s t hi ⟨x1, x2, rfl, rfl⟩
    have g0 : fx_D_get (nI i) 0 m = some (c 3 i) := by
      show fx_D_get (nI i) (nI 0) m = _
      rw [sx_get (by omega) (by omega), show 10 + 6 * i + 0 = 10 + 6 * i by omega, h0 i hi]
    have g3 : fx_D_get (nI i) 3 m = some (c 6 i) := by
      show fx_D_get (nI i) (nI 3) m = _
      rw [sx_get (by omega) (by omega), show 10 + 6 * i + 3 = 13 + 6 * i by omega, h3 i hi]
    have K : kv_u3 (fb_Lumps_mean_8 c p q) (x1, x2, nI i) = if c 3 i = p ∨ c 3 i = q then some (.inl (x1 + c 6 i, x2 + 1, nI (i + 1))) else some (.inl (x1, x2, nI (i + 1))) := by
      show fb_Lumps_mean_8 c p q x1 x2 (nI i) = _
      unfold fb_Lumps_mean_8 fj_Lumps_mean_39 fj_Lumps_mean_52
      rw [hc, if_neg (nI_ge hi (by omega)), kp_gd _ (kp_in_nI (by omega) (by omega)), nI_clamp (by omega), kp_let, nI_1]
      by_cases z1 : c 3 i = p
      · rw [if_pos z1, if_pos (Or.inl z1)]
      · rw [if_neg z1]
        by_cases z2 : c 3 i = q
        · rw [if_pos z2, if_pos (Or.inr z2)]
        · rw [if_neg z2, if_neg (fun x => x.elim z1 z2)]
    have D : kv_u3 (fb_D_meanOf_8 m p q) (x1, x2, nI i) = if c 3 i = p ∨ c 3 i = q then some (.inl (x1 + c 6 i, x2 + 1, nI (i + 1))) else some (.inl (x1, x2, nI (i + 1))) := by
      show fb_D_meanOf_8 m p q x1 x2 (nI i) = _
      unfold fb_D_meanOf_8 fj_D_meanOf_44 fj_D_meanOf_57
      rw [hm, if_neg (nI_ge hi (by omega)), g0, kp_b1, kp_b1, g3, kp_b1, kp_let, nI_1]
      by_cases z1 : c 3 i = p
      · rw [if_pos z1, if_pos (Or.inl z1)]
      · rw [if_neg z1]
        by_cases z2 : c 3 i = q
        · rw [if_pos z2, if_pos (Or.inr z2)]
        · rw [if_neg z2, if_neg (fun x => x.elim z1 z2)]
    rw [K, D]
    by_cases z : c 3 i = p ∨ c 3 i = q
    · rw [if_pos z]
      exact Or.inl ⟨_, _, rfl, rfl, _, _, rfl, rfl⟩
    · rw [if_neg z]
      exact Or.inl ⟨_, _, rfl, rfl, _, _, rfl, rfl⟩) (by
    rintro s t ⟨x1, x2, rfl, rfl⟩
    refine ⟨(x1, x2), (x1, x2), ?_, ?_, rfl⟩
    · show fb_Lumps_mean_8 c p q x1 x2 (nI L) = _
      unfold fb_Lumps_mean_8
      rw [hc, if_pos (nI_le (Nat.le_refl _) (by omega))]
    · show fb_D_meanOf_8 m p q x1 x2 (nI L) = _
      unfold fb_D_meanOf_8
      rw [hm, if_pos (nI_le (Nat.le_refl _) (by omega))]) ((0 : Int32), (0 : Int32), (0 : Int32)) ((0 : Int32), (0 : Int32), (0 : Int32)) ⟨0, 0, rfl, rfl⟩
  subst s3
  obtain ⟨x1, x2⟩ := r
  unfold fx_Lumps_mean fx_D_meanOf
  rw [s1, s2, kp_sb2]
  by_cases z : x2 = 0
  · simp only [if_pos z]; exact ⟨_, rfl, rfl⟩
  · simp only [if_neg z]; exact ⟨_, rfl, rfl⟩
theorem mn_prime {L : Nat} (hL : L ≤ 10) (hc : c 2 7 = nI L) : (∀ l, l < L → (∀ i, i < L → c 3 i = 1 → i = l) → c 3 l = 1 → fx_Lumps_mean 1 1 c = some (c 6 l)) ∧ ((∀ l, l < L → c 3 l ≠ 1) → fx_Lumps_mean 1 1 c = some 0) := by
  have K : ∀ i x1 x2, i < L → kv_u3 (fb_Lumps_mean_8 c 1 1) (x1, x2, nI i) = if c 3 i = 1 then some (.inl (x1 + c 6 i, x2 + 1, nI (i + 1))) else some (.inl (x1, x2, nI (i + 1))) := by
    intro i x1 x2 hi
    show fb_Lumps_mean_8 c 1 1 x1 x2 (nI i) = _
    unfold fb_Lumps_mean_8 fj_Lumps_mean_39 fj_Lumps_mean_52
    rw [hc, if_neg (nI_ge hi (by omega)), kp_gd _ (kp_in_nI (by omega) (by omega)), nI_clamp (by omega), kp_let, nI_1]
    by_cases z1 : c 3 i = 1
    · rw [if_pos z1, if_pos z1]
    · simp only [if_neg z1]
  have E : ∀ x1 x2, kv_u3 (fb_Lumps_mean_8 c 1 1) (x1, x2, nI L) = some (.inr (x1, x2)) := by
    intro x1 x2
    show fb_Lumps_mean_8 c 1 1 x1 x2 (nI L) = _
    unfold fb_Lumps_mean_8
    rw [hc, if_pos (nI_le (Nat.le_refl _) (by omega))]
  refine ⟨fun l hl hu h1 => ?_, fun hno => ?_⟩
  · have key := kp_inv (kv_u3 (fb_Lumps_mean_8 c 1 1)) (fun i s => s = if l < i then (c 6 l, 1, nI i) else (0, 0, nI i)) (fun r => r = (c 6 l, 1)) L ?_ ?_ ((0 : Int32), (0 : Int32), (0 : Int32)) (by rw [if_neg (by omega)]; rfl)
    · obtain ⟨r, r1, r2⟩ := key
      unfold fx_Lumps_mean
      rw [r1, r2, kp_sb2, if_neg (by decide), if_neg (by decide), Int32.div_one]
    · rintro i s hi rfl
      refine Or.inl ?_
      by_cases z : l < i
      · rw [if_pos z, K i _ _ hi, if_neg (fun x => by have := hu i hi x; omega)]
        exact ⟨_, rfl, by rw [if_pos (by omega)]⟩
      · rw [if_neg z, K i _ _ hi]
        by_cases zi : i = l
        · rw [if_pos (by rw [zi]; exact h1), Int32.zero_add, zi]
          exact ⟨_, rfl, by rw [if_pos (by omega)]; rfl⟩
        · rw [if_neg (fun x => zi (hu i hi x))]
          exact ⟨_, rfl, by rw [if_neg (by omega)]⟩
    · rintro s rfl
      rw [if_pos hl]
      exact ⟨_, E _ _, rfl⟩
  · have key := kp_inv (kv_u3 (fb_Lumps_mean_8 c 1 1)) (fun i s => s = (0, 0, nI i)) (fun r => r = (0, 0)) L ?_ ?_ ((0 : Int32), (0 : Int32), (0 : Int32)) rfl
    · obtain ⟨r, r1, r2⟩ := key
      unfold fx_Lumps_mean
      rw [r1, r2, kp_sb2, if_pos rfl]
    · rintro i s hi rfl
      rw [K i _ _ hi, if_neg (hno i hi)]
      exact Or.inl ⟨_, rfl, rfl⟩
    · rintro s rfl
      exact ⟨_, E _ _, rfl⟩
theorem mn_fr {c2 : Nat → Nat → Int32} (h2 : c2 2 = c 2) (h3 : c2 3 = c 3) (h6 : c2 6 = c 6) (p q : Int32) : fx_Lumps_mean p q c2 = fx_Lumps_mean p q c := by
  have : fb_Lumps_mean_8 c2 p q = fb_Lumps_mean_8 c p q := by
    funext x1 x2 x3
    unfold fb_Lumps_mean_8 fj_Lumps_mean_39
    rw [h2, h3, h6]
  unfold fx_Lumps_mean
  rw [this]
/-- the signs' values of a state -/
theorem mn_E (h : Inv k c m) : ∃ e : Nat → Int32, fx_Lumps_mean 1 1 c = some (e 0) ∧ fx_Lumps_mean 2 2 c = some (e 1) ∧ fx_Lumps_mean 7 7 c = some (e 2) ∧ fx_Lumps_mean 3 4 c = some (e 3) ∧ rm_E m e := by
  obtain ⟨L, T, U, hN, hG, hL, hP, -⟩ := h.1
  have h10 := hN.1
  have hc : c 2 7 = nI L := hN.2.2.2.1
  have hm : m 85 1 = nI L := hN.2.2.2.2.1
  have g0 : ∀ l, l < L → m 85 (10 + 6 * l) = c 3 l := fun l hl => (hL l hl).1
  have g3 : ∀ l, l < L → m 85 (13 + 6 * l) = c 6 l := fun l hl => (hL l hl).2.2.2.1
  obtain ⟨x1, a1, -⟩ := mn_sim h10 hc hm g0 g3 2 2
  obtain ⟨x2, a2, -⟩ := mn_sim h10 hc hm g0 g3 7 7
  obtain ⟨x3, a3, -⟩ := mn_sim h10 hc hm g0 g3 3 4
  obtain ⟨x0, a0, -⟩ := mn_sim h10 hc hm g0 g3 1 1
  obtain ⟨q1, q2⟩ := mn_prime h10 hc
  refine ⟨fun j => if j = 0 then x0 else if j = 1 then x1 else if j = 2 then x2 else x3, a0, a1, a2, a3, fun m2 h2 => ?_⟩
  have hm2 : m2 85 1 = nI L := by rw [h2]; exact hm
  have g02 : ∀ l, l < L → m2 85 (10 + 6 * l) = c 3 l := fun l hl => by rw [h2]; exact g0 l hl
  have g32 : ∀ l, l < L → m2 85 (13 + 6 * l) = c 6 l := fun l hl => by rw [h2]; exact g3 l hl
  refine ⟨?_, ?_, ?_, ?_⟩
  · rcases h_prime hc hm2 h10 g02 with ⟨l, hl, hl1, p1, p2⟩ | ⟨hno, p1, p2⟩
    · refine ⟨nI l, p2, Or.inr ⟨nI_pos' (by omega), ?_⟩⟩
      have := q1 l hl (fun i hi h1 => hP i l hi hl h1 hl1) hl1
      rw [a0] at this
      injection this with this
      show fx_D_get (nI l) (nI 3) m2 = some x0
      rw [sx_get (by omega) (by omega), show 10 + 6 * l + 3 = 13 + 6 * l by omega, g32 l hl, this]
    · refine ⟨-4, p2, Or.inl ⟨by decide, ?_⟩⟩
      have := q2 hno
      rw [a0] at this
      injection this
  · obtain ⟨y, b1, b2⟩ := mn_sim h10 hc hm2 g02 g32 2 2
    rw [a1] at b1; rw [b2, ← b1]; rfl
  · obtain ⟨y, b1, b2⟩ := mn_sim h10 hc hm2 g02 g32 7 7
    rw [a2] at b1; rw [b2, ← b1]; rfl
  · obtain ⟨y, b1, b2⟩ := mn_sim h10 hc hm2 g02 g32 3 4
    rw [a3] at b1; rw [b2, ← b1]; rfl
end OW
