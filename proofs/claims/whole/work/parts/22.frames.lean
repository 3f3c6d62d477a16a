/-! ===== what keeps the invariant's parts ===== -/
section FR
variable {v v2 : Nat → Nat → Int32} {s s2 : Nat → Int32} {b b2 : Int} {L T U : Nat}
theorem fr_N (h : iN v s L T U) (e1 : v2 1 7 = v 1 7) (e2 : v2 9 7 = v 9 7) (e3 : v2 9 8 = v 9 8) (f1 : s2 1 = s 1) (f2 : s2 2 = s 2) (f3 : s2 3 = s 3) : iN v2 s2 L T U := by
  unfold iN at h ⊢
  rw [e1, e2, e3, f1, f2, f3]
  exact h
theorem fr_G (h : iG v s) (e : v2 0 = v 0) (f : ∀ j, j < 9 → s2 j = s j) : iG v2 s2 := by
  unfold iG at h ⊢
  rw [e, f 0 (by omega), f 4 (by omega), f 5 (by omega), f 6 (by omega)]
  exact h
theorem fr_L1 {l : Nat} (h : iL1 v s b l) (hb : b ≤ b2) (e0 : (v2 0 5).toInt = (v 0 5).toInt) (e2 : v2 2 l = v 2 l) (e3 : v2 3 l = v 3 l) (e4 : v2 4 l = v 4 l) (e5 : v2 5 l = v 5 l) (e6 : v2 6 l = v 6 l) (e7 : v2 7 l = v 7 l) (f : ∀ j, 10 + 6 * l ≤ j → j < 16 + 6 * l → s2 j = s j) : iL1 v2 s2 b2 l := by
  unfold iL1 at h ⊢
  rw [e0, e2, e3, e4, e5, e6, e7, f (10 + 6 * l) (by omega) (by omega), f (11 + 6 * l) (by omega) (by omega), f (12 + 6 * l) (by omega) (by omega), f (13 + 6 * l) (by omega) (by omega), f (14 + 6 * l) (by omega) (by omega), f (15 + 6 * l) (by omega) (by omega)]
  obtain ⟨h1, h2, h3, h4, h5, h6, h7, h8, h9, h10, h11, h12⟩ := h
  exact ⟨h1, h2, h3, h4, h5, h6, h7, h8, h9, ⟨by omega, by omega⟩, ⟨h11.1, by omega⟩, h12⟩
theorem fr_P (h : iP v L) (e : ∀ l, l < L → v2 2 l = v 2 l) : iP v2 L := by
  intro l l2 a1 a2 q1 q2
  exact h l l2 a1 a2 (by rw [← e l a1]; exact q1) (by rw [← e l2 a2]; exact q2)
theorem fr_A (h : iA v s) (e8 : v2 8 = v 8) (e24 : v2 24 = v 24) (f : ∀ j, 70 ≤ j → j < 80 → s2 j = s j) : iA v2 s2 := by
  refine ⟨fun i hi => ?_, fun i hi => ?_⟩
  · rw [e8, f _ (by omega) (by omega)]; exact h.1 i hi
  · rw [e24, f _ (by omega) (by omega)]; exact h.2 i hi
theorem fr_W1 {w : Nat} {L2 : Nat} (h : iW1 v s b L w) (hb : b ≤ b2) (hL : L ≤ L2) (e10 : v2 10 w = v 10 w) (e11 : v2 11 w = v 11 w) (e12 : v2 12 w = v 12 w) (e13 : v2 13 w = v 13 w) (e14 : v2 14 w = v 14 w) (e15 : v2 15 w = v 15 w) (f : ∀ j, 80 + 6 * w ≤ j → j < 86 + 6 * w → s2 j = s j) : iW1 v2 s2 b2 L2 w := by
  unfold iW1 at h ⊢
  rw [e10, e11, e12, e13, e14, e15, f (80 + 6 * w) (by omega) (by omega), f (81 + 6 * w) (by omega) (by omega), f (82 + 6 * w) (by omega) (by omega), f (83 + 6 * w) (by omega) (by omega), f (84 + 6 * w) (by omega) (by omega), f (85 + 6 * w) (by omega) (by omega)]
  obtain ⟨h1, h2, h3, h4, h5, h6, h7, ⟨x, y, q1, q2, q3⟩, h9, h10, h11⟩ := h
  exact ⟨h1, h2, h3, h4, h5, h6, h7, ⟨x, y, by omega, by omega, q3⟩, ⟨by omega, by omega⟩, h10, h11⟩
theorem fr_X (h : iX v s) (e17 : v2 17 = v 17) (e18 : v2 18 = v 18) (f7 : s2 7 = s 7) (f8 : s2 8 = s 8) (f : ∀ j, 240 ≤ j → j < 340 → s2 j = s j) : iX v2 s2 := by
  obtain ⟨N, h1, h2, h3, h4, h5, h6⟩ := h
  refine ⟨N, h1, by rw [e17]; exact h2, by rw [f8]; exact h3, by rw [f7, e17]; exact h4, fun i hi => ?_, by rw [e17, e18]; exact h6⟩
  rw [e18, f _ (by omega) (by omega)]
  exact h5 i hi
theorem fr_C1 {h : Nat} (hh : h < 4) (H : iC1 v s h) (e20 : v2 20 = v 20) (e21 : v2 21 = v 21) (e22 : v2 22 = v 22) (e23 : v2 23 = v 23) (f : ∀ j, 340 ≤ j → j < 444 → s2 j = s j) : iC1 v2 s2 h := by
  obtain ⟨K, h1, h2, h3, h4, h5, h6⟩ := H
  refine ⟨K, h1, by rw [e22]; exact h2, by rw [f _ (by omega) (by omega)]; exact h3, by rw [f _ (by omega) (by omega), e23]; exact h4, by rw [e23]; exact h5, fun k hk => ?_⟩
  rw [e20, e21, f _ (by omega) (by omega), f _ (by omega) (by omega)]
  exact h6 k hk
theorem fr_S (h : iS v s b) (hb : b ≤ b2) (e : ∀ i, i < 25 → v2 i = v i) (f : ∀ j, j < 444 → s2 j = s j) : iS v2 s2 b2 := by
  obtain ⟨L, T, U, hN, hG, hL, hP, hA, hW, hT, hX, hC⟩ := h
  have hL10 := hN.1
  have hT20 := hN.2.1
  have hUT := hN.2.2.1
  refine ⟨L, T, U, fr_N hN (by rw [e 1 (by omega)]) (by rw [e 9 (by omega)]) (by rw [e 9 (by omega)]) (f 1 (by omega)) (f 2 (by omega)) (f 3 (by omega)), fr_G hG (e 0 (by omega)) (fun j hj => f j (by omega)), fun l hl => fr_L1 (hL l hl) hb (by rw [e 0 (by omega)]) (by rw [e 2 (by omega)]) (by rw [e 3 (by omega)]) (by rw [e 4 (by omega)]) (by rw [e 5 (by omega)]) (by rw [e 6 (by omega)]) (by rw [e 7 (by omega)]) (fun j _ _ => f j (by omega)), fr_P hP (fun l _ => by rw [e 2 (by omega)]), fr_A hA (e 8 (by omega)) (e 24 (by omega)) (fun j _ _ => f j (by omega)), fun w hw => fr_W1 (hW w hw) hb (Nat.le_refl L) (by rw [e 10 (by omega)]) (by rw [e 11 (by omega)]) (by rw [e 12 (by omega)]) (by rw [e 13 (by omega)]) (by rw [e 14 (by omega)]) (by rw [e 15 (by omega)]) (fun j _ _ => f j (by omega)), fun k hk => by rw [f _ (by omega), e 16 (by omega)]; exact hT k hk, fr_X hX (e 17 (by omega)) (e 18 (by omega)) (f 7 (by omega)) (f 8 (by omega)) (fun j _ _ => f j (by omega)), fun h hh => fr_C1 hh (hC h hh) (e 20 (by omega)) (e 21 (by omega)) (e 22 (by omega)) (e 23 (by omega)) (fun j _ _ => f j (by omega))⟩
end FR
theorem fr_H1 {c c2 m m2 : Nat → Nat → Int32} {d : Nat} (hd : d < 8) (h : iH1 c m d) (e1 : c2 (52 + 2 * d) = c (52 + 2 * d)) (e2 : c2 (53 + 2 * d) = c (53 + 2 * d)) (f : ∀ r, 87 ≤ r → r < 93 → m2 r = m r) : iH1 c2 m2 d := by
  unfold iH1 at h ⊢
  rw [e1, e2, f 87 (by omega) (by omega), f 88 (by omega) (by omega), f 89 (by omega) (by omega), f 90 (by omega) (by omega), f 91 (by omega) (by omega), f 92 (by omega) (by omega)]
  exact h
/-- only what is worked with has changed -/
theorem fr_Inv {k : Nat} {c c2 m m2 : Nat → Nat → Int32} (h : Inv k c m) (e : ∀ r, r < 68 → c2 r = c r) (f : ∀ r, 85 ≤ r → r < 93 → m2 r = m r) (g8 : m2 84 8 = m 84 8) (g14 : m2 84 14 = m 84 14) (g15 : m2 84 15 = m 84 15) (g17 : m2 84 17 = m 84 17) : Inv (k + 1) c2 m2 := by
  obtain ⟨h1, h2, h3, h4, h5, h6, h7⟩ := h
  refine ⟨fr_S h1 (by omega) (fun i hi => e _ (by omega)) (fun j _ => by rw [f 85 (by omega) (by omega)]), ?_, fun d hd => fr_H1 hd (h3 d hd) (e _ (by omega)) (e _ (by omega)) (fun r h1 h2 => f r (by omega) (by omega)), by rw [g14]; exact h4, by rw [g15]; exact h5, by rw [g17]; exact h6, fun w hw => by rw [e 16 (by omega), e 41 (by omega)]; exact h7 w hw⟩
  rcases h2 with h2 | h2
  · exact Or.inl ⟨by rw [e 0 (by omega)]; exact h2.1, by rw [g8]; exact h2.2⟩
  · exact Or.inr ⟨by rw [e 0 (by omega)]; exact h2.1, by rw [g8]; exact h2.2.1, fr_S h2.2.2 (by omega) (fun i hi => e _ (by omega)) (fun j _ => by rw [f 86 (by omega) (by omega)])⟩
theorem fr_same {k : Nat} {c m : Nat → Nat → Int32} (h : Inv k c m) : Inv (k + 1) c m := fr_Inv h (fun _ _ => rfl) (fun _ _ _ => rfl) rfl rfl rfl rfl
/-- a new state, all else as it was -/
theorem fr_stateB {k : Nat} {c c2 m m2 : Nat → Nat → Int32} (h : Inv k c m) (hs : iS (i_v c2 1) (m2 85) (9999 + 100 * (k + 1 : Nat))) (e0 : c2 0 = c 0) (e : ∀ r, 26 ≤ r → r < 68 → c2 r = c r) (f : ∀ r, 86 ≤ r → r < 93 → m2 r = m r) (g : m2 84 = m 84) (hB : iB c2) : Inv (k + 1) c2 m2 := by
  obtain ⟨h1, h2, h3, h4, h5, h6, h7⟩ := h
  refine ⟨hs, ?_, fun d hd => fr_H1 hd (h3 d hd) (e _ (by omega) (by omega)) (e _ (by omega) (by omega)) (fun r h1 h2 => f r (by omega) (by omega)), by rw [g]; exact h4, by rw [g]; exact h5, by rw [g]; exact h6, hB⟩
  rcases h2 with h2 | h2
  · exact Or.inl ⟨by rw [e0]; exact h2.1, by rw [g]; exact h2.2⟩
  · exact Or.inr ⟨by rw [e0]; exact h2.1, by rw [g]; exact h2.2.1, fr_S h2.2.2 (by omega) (fun i hi => e _ (by omega) (by omega)) (fun j _ => by rw [f 86 (by omega) (by omega)])⟩
theorem fr_state {k : Nat} {c c2 m m2 : Nat → Nat → Int32} (h : Inv k c m) (hs : iS (i_v c2 1) (m2 85) (9999 + 100 * (k + 1 : Nat))) (e0 : c2 0 = c 0) (e : ∀ r, 26 ≤ r → r < 68 → c2 r = c r) (f : ∀ r, 86 ≤ r → r < 93 → m2 r = m r) (g : m2 84 = m 84) (e16 : c2 16 = c 16) : Inv (k + 1) c2 m2 :=
  fr_stateB h hs e0 e f g (fun w hw => by rw [e16, e 41 (by omega) (by omega)]; exact h.2.2.2.2.2.2 w hw)
