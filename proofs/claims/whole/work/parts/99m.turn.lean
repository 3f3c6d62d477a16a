/-! ===== the worlds at the loop's first turn ===== -/
def el_wc : Nat → Nat → Int32 := fun r k => if r = 1 ∨ r = 26 then (if k = 6 then 1 else if k = 7 then -9 else if k = 8 then 9 else 0) else if r = 18 ∨ r = 43 then (if k = 1 then 4 else if k = 2 then 1 else 0) else if r = 19 ∨ r = 44 then (if k = 0 then 48 else if k = 1 then 58 else if k = 2 then 80 else if k = 3 then 59 else 0) else if r = 25 ∨ r = 50 then (if k < 4 then 10 else 0) else 0
def el_wm : Nat → Nat → Int32 := fun r k => if r = 84 then (if k = 14 ∨ k = 15 ∨ k = 17 then -4 else if k = 23 then 90 else 0) else if r = 85 then (if k = 4 then 1 else if k = 5 then -9 else if k = 6 then 9 else if k = 7 then 1 else if k = 8 then 4 else if 76 ≤ k ∧ k < 80 then 10 else if k = 240 then 48 else if k = 241 then 58 else if k = 242 then 80 else if k = 243 then 59 else 0) else 0
theorem el_tk : tk_ok (el_wc 19) 4 1 := ⟨30, 1, _, by rfl, by decide +kernel⟩
theorem el_inv : Inv 0 el_wc el_wm := by
  have hA : ∀ i, i < 6 → el_wm 85 (70 + i) = el_wc 9 i ∧ 0 ≤ (el_wc 9 i).toInt ∧ (el_wc 9 i).toInt ≤ 9 := by decide +kernel
  have hT : ∀ i, i < 4 → el_wm 85 (76 + i) = el_wc 25 i ∧ 0 ≤ (el_wc 25 i).toInt ∧ (el_wc 25 i).toInt ≤ 99 := by decide +kernel
  have hX : ∀ i, i < 4 → el_wm 85 (240 + i) = el_wc 19 i := by decide +kernel
  have hC : ∀ i, i < 4 → el_wc 23 i = nI 0 ∧ el_wm 85 (340 + 26 * i) = nI 0 ∧ el_wm 85 (341 + 26 * i) = el_wc 24 i ∧ (0 ≤ (el_wc 24 i).toInt ∧ (el_wc 24 i).toInt ≤ 140) := by decide +kernel
  have hH : ∀ d, d < 8 → el_wm 87 d = el_wc (52 + 2 * d) 1 ∧ el_wc (52 + 2 * d) 1 = 0 := by decide +kernel
  have hB : ∀ w, w < 20 → (el_wc 16 w = 0 ∨ el_wc 16 w = 1) ∧ (el_wc 41 w = 0 ∨ el_wc 41 w = 1) := by decide +kernel
  refine ⟨⟨0, 0, 0, ?_, ?_, fun l hl => absurd hl (Nat.not_lt_zero l), fun l l2 hl => absurd hl (Nat.not_lt_zero l), ⟨hA, hT⟩, fun w hw => absurd hw (Nat.not_lt_zero w), fun k hk => absurd hk (Nat.not_lt_zero k), ?_, ?_⟩, Or.inl ⟨by decide +kernel, by decide +kernel⟩, fun d hd => ⟨(hH d hd).1, Or.inl (hH d hd).2⟩, by decide +kernel, by decide +kernel, by decide +kernel, hB⟩
  · refine ⟨by decide, by decide, by decide, ?_, ?_, ?_, ?_, ?_, ?_⟩ <;> decide +kernel
  · refine ⟨?_, ?_, ?_, ?_, ?_, ?_, ?_, ?_, ?_⟩ <;> decide +kernel
  · exact ⟨4, by decide, by decide +kernel, by decide +kernel, by decide +kernel, hX, el_tk⟩
  · intro h hh
    obtain ⟨h1, h2, h3, h4⟩ := hC h hh
    exact ⟨0, by decide, h1, h2, h3, h4, fun k hk => absurd hk (Nat.not_lt_zero k)⟩
/-! the cells as made are the world's cells -/
def el_w0 : kv_W := (el_wc, el_wm, fun _ => 0, fun _ => 0)
def el_fv (w : kv_W) (r k : Nat) : Value := if kv_fk (kv_kd r) k = 0 then .int (kv_gi w r k) else if kv_fk (kv_kd r) k = 1 then .ref (kv_tg r k) else .ref (kv_gi w r k).toNatClampNeg
def el_n101 : Value → Bool
  | .ref t => t != 97
  | _ => true
def el_same (w : kv_W) (r : Nat) : kq_c → Bool
  | .inl q => decide (kv_kd r < 12) && decide (q = (kv_kd r, (List.range (kv_nf (kv_kd r))).map (el_fv w r))) && (List.range (kv_nf (kv_kd r))).all (fun k => el_n101 (el_fv w r k))
  | .inr (kd, n, .inl f) => decide (kd = kv_kd r) && decide (kd = 12 ∨ kd = 14) && decide (n = kv_ln r) && (List.range n).all (fun i => decide (f i = kv_gi w r i))
  | .inr (kd, n, .inr (.inl f)) => decide (kd = kv_kd r) && decide (kd = 13) && decide (n = kv_ln r) && (List.range n).all (fun i => decide (f i = kv_gl w r i))
  | .inr (kd, n, .inr (.inr f)) => decide (kd = kv_kd r) && decide (15 ≤ kd) && decide (n = kv_ln r) && (List.range n).all (fun i => decide (f i = some (kv_tg r i)) && decide (kv_tg r i ≠ 97))
theorem el_arrV {cI : ClassId} {N : Nat} {f g : Nat → Value} (h : ∀ i, i < N → f i = g i) : arrV cI N f = arrV cI N g := by
  unfold arrV
  congr 2
  funext j
  exact h j.val j.isLt
theorem el_sameAt {D : va_G} {cy : Nat → ClassId} {ad : Nat → Nat} {h r : Nat} {w : kv_W} {H : Heap} {e : kq_c} (had : ∀ t, t ≠ 97 → ad t = h + t) (hr : r ≠ 97) (hs : el_same w r e = true) (ha : va_at D kv_cl (h + r, kq_e cy h e) H) : va_at D kv_cl (ad r, kv_cell cy ad w r) H := by
  rw [had r hr]
  match e, hs, ha with
  | .inl q, hs, ha =>
    unfold el_same at hs
    simp only [Bool.and_eq_true, decide_eq_true_eq] at hs
    obtain ⟨⟨h1, rfl⟩, h3⟩ := hs
    have e1 : kv_cell cy ad w r = kq_e cy h (.inl (kv_kd r, (List.range (kv_nf (kv_kd r))).map (el_fv w r))) := by
      unfold kv_cell
      rw [if_pos h1]
      show (Sum.inr (kv_kd r, _) : va_E) = .inr (kv_kd r, ((List.range (kv_nf (kv_kd r))).map (el_fv w r)).map (kv_cv (fun r => h + r)))
      rw [List.map_map]
      congr 2
      apply List.map_congr_left
      intro k hk
      have h4 := List.all_eq_true.mp h3 k hk
      show kv_fv ad w r k = kv_cv (fun r => h + r) (el_fv w r k)
      unfold kv_fv
      unfold el_fv at h4 ⊢
      by_cases g0 : kv_fk (kv_kd r) k = 0
      · rw [if_pos g0, if_pos g0]; rfl
      · rw [if_neg g0] at h4 ⊢
        rw [if_neg g0]
        by_cases g1 : kv_fk (kv_kd r) k = 1
        · rw [if_pos g1] at h4 ⊢
          rw [if_pos g1, had _ (by simpa [el_n101] using h4)]; rfl
        · rw [if_neg g1] at h4 ⊢
          rw [if_neg g1, had _ (by simpa [el_n101] using h4)]; rfl
    rw [e1]
    exact ha
  | .inr (kd, n, .inl f), hs, ha =>
    unfold el_same at hs
    simp only [Bool.and_eq_true, decide_eq_true_eq] at hs
    obtain ⟨⟨⟨rfl, h1⟩, rfl⟩, h3⟩ := hs
    have e1 : kv_cell cy ad w r = .inl (cy (kv_kd r), kv_ln r, .inl (kv_gi w r)) := by
      unfold kv_cell
      rw [if_neg (by omega), if_neg (by omega), if_pos (by omega)]
    rw [e1]
    show H[h + r]? = some (vp_cell (cy (kv_kd r)) (kv_ln r, .inl (kv_gi w r)))
    have h5 : H[h + r]? = some (vp_cell (cy (kv_kd r)) (kv_ln r, .inl f)) := ha
    rw [h5, vp_cell_i, vp_cell_i]
    congr 1
    apply el_arrV
    intro i hi
    rw [of_decide_eq_true (List.all_eq_true.mp h3 i (List.mem_range.mpr hi))]
  | .inr (kd, n, .inr (.inl f)), hs, ha =>
    unfold el_same at hs
    simp only [Bool.and_eq_true, decide_eq_true_eq] at hs
    obtain ⟨⟨⟨rfl, h1⟩, rfl⟩, h3⟩ := hs
    have e1 : kv_cell cy ad w r = .inl (cy (kv_kd r), kv_ln r, .inr (.inl (kv_gl w r))) := by
      unfold kv_cell
      rw [if_neg (by omega), if_pos h1, h1]
    rw [e1]
    show H[h + r]? = some (vp_cell (cy (kv_kd r)) (kv_ln r, .inr (.inl (kv_gl w r))))
    have h5 : H[h + r]? = some (vp_cell (cy (kv_kd r)) (kv_ln r, .inr (.inl f))) := ha
    rw [h5, vp_cell_l, vp_cell_l]
    congr 1
    apply el_arrV
    intro i hi
    rw [of_decide_eq_true (List.all_eq_true.mp h3 i (List.mem_range.mpr hi))]
  | .inr (kd, n, .inr (.inr f)), hs, ha =>
    unfold el_same at hs
    simp only [Bool.and_eq_true, decide_eq_true_eq] at hs
    obtain ⟨⟨⟨rfl, h1⟩, rfl⟩, h3⟩ := hs
    have e1 : kv_cell cy ad w r = .inl (cy (kv_kd r), kv_ln r, .inr (.inr (.inr (.inr (fun k => some (ad (kv_tg r k))))))) := by
      unfold kv_cell
      rw [if_neg (by omega), if_neg (by omega), if_neg (by omega)]
    rw [e1]
    show H[h + r]? = some (vp_cell (cy (kv_kd r)) (kv_ln r, .inr (.inr (.inr (.inr (fun k => some (ad (kv_tg r k))))))))
    have h5 : H[h + r]? = some (vp_cell (cy (kv_kd r)) (kv_ln r, .inr (.inr (.inr (.inr (fun i => (f i).map (fun r => h + r))))))) := ha
    rw [h5, vp_cell_q, vp_cell_q]
    congr 1
    apply el_arrV
    intro i hi
    have h6 := List.all_eq_true.mp h3 i (List.mem_range.mpr hi)
    simp only [Bool.and_eq_true, decide_eq_true_eq] at h6
    show va_rf ((f i).map (fun r => h + r)) = va_rf (some (ad (kv_tg r i)))
    rw [h6.1, had _ h6.2]
    rfl
set_option maxRecDepth 100000 in
theorem el_cells : kql_law.length = 97 ∧ ∀ r, r < 97 → (kql_law[r]?).any (el_same el_w0 r) = true := by decide +kernel
def el_EL (L : Nat) (xs : Nat → Int32) : kq_Ep := fun l _ _ s _ args _ _ _ _ _ h b => args = #[Value.ref b] ∧ va_X b L xs s s.heap ∧ b < s.heap.size ∧ h = s.heap.size ∧ l.stackTraces = false ∧ ∃ s1 s2 s3, kx_w s s1 s2 s3 ∧ kx_h (fun q => h ≤ q) s s.heap
def el_QL : kq_Qp := fun _ _ _ s _ args below _ _ _ _ _ _ => lw_Z below args s
theorem el_turn {L : Nat} {xs : Nat → Int32} (kk : kz_B kM_law room_1 97 6379 (el_E L xs) el_Q 23 (el_lv 0) [] el_w0) : kq_B kM_law room_1 97 6379 (el_EL L xs) el_QL 23 [(4, .int 0), (3, .ref 96), (2, .ref 84), (1, .ref 0), (0, .ref 5000)] [] kql_law := by
  intro l p e s m args below meth c D cy h b H locs ls hC hE hz hP hS hl
  obtain ⟨hargs, hX, hb, hh, hfl, hkx⟩ := hE
  have had : ∀ t, t ≠ 97 → (fun r => if r = 97 then b else h + r) t = h + t := fun t ht => if_neg ht
  have hadb : (fun r => if r = 97 then b else h + r) 97 = b := if_pos rfl
  generalize hgd : (fun r => if r = 97 then b else h + r) = ad at had hadb
  have hPw : va_P D kv_cl (kv_wl cy ad el_w0) H := by
    intro r q hq
    have hlt : r < kv_N := by
      have := (List.getElem?_eq_some_iff.mp hq).1
      simpa [kv_wl] using this
    have hlt1 : r < 97 := hlt
    rw [kv_wl_at hlt] at hq
    cases hq
    have h1 := el_cells.2 r hlt1
    cases he : kql_law[r]? with
    | none => rw [he] at h1; cases h1
    | some e9 =>
      rw [he] at h1
      exact el_sameAt had (by omega) h1 (hP r _ (kq_at he))
  have hl2 : lv_has ls kM_law.2.2.1 ((el_lv 0).map (fun q => (q.1, kv_cv ad q.2))) := by
    refine ⟨hl.1, hl.2.1, fun q hq => ?_⟩
    have e0 : ((4, Value.int (nI (6 * 0))) : Nat × Value) = (4, .int 0) := rfl
    simp only [el_lv, List.map_cons, List.map_nil, List.mem_cons, List.not_mem_nil, or_false, kv_cv] at hq
    rcases hq with rfl | rfl | rfl | rfl | rfl
    · exact hl.2.2 (4, .int 0) (by simp [kq_v])
    · rw [hadb]
      exact hl.2.2 (0, .ref b) (by simp [kq_v])
    · rw [had 0 (by decide)]
      exact hl.2.2 (1, .ref (h + 0)) (by simp [kq_v])
    · rw [had 84 (by decide)]
      exact hl.2.2 (2, .ref (h + 84)) (by simp [kq_v])
    · rw [had 96 (by decide)]
      exact hl.2.2 (3, .ref (h + 96)) (by simp [kq_v])
  refine kk l p e s m args below meth c D cy ad (fun q => h ≤ q) H locs ls ⟨hC.1, hC.2.1, hC.2.2.1, hC.2.2.2.1, hC.2.2.2.2.1, hC.2.2.2.2.2.1, hC.2.2.2.2.2.2.1, hC.2.2.2.2.2.2.2.1, ?_, ?_, ?_, hC.2.2.2.2.2.2.2.2.1⟩ ⟨by rw [hadb]; exact hargs, by rw [hadb]; exact hX, by rw [hadb]; exact hb, by rw [hadb]; show ¬ h ≤ b; omega, fun q hq => by rw [← hh]; exact hq, hfl, hkx⟩ hPw hS hl2
  · intro i j hi hj hij
    have hi1 : i < 97 := hi
    have hj1 : j < 97 := hj
    rw [had i (by omega), had j (by omega)] at hij
    omega
  · intro i hi
    have hi1 : i < 97 := hi
    rw [had i (by omega)]
    exact Nat.le_add_right h i
  · intro q hq
    show h ≤ q
    omega
