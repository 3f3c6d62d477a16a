/-! ===== what holds at the law's entry ===== -/
theorem el_known {args : Array Value} {s : State} (hts : ∀ w ∈ lw_tbl, w.before args s = true) : ∃ (D : va_G) (cy : Nat → ClassId), va_K D kv_cl (kv_tys cy) s := by
  have hg : ∀ w ∈ kv_gw, w.before args s = true := fun w hw => hts w (List.mem_filter.mp hw).1
  have h12 : ∀ (ci : Nat) (q : vw_C), kv_cl[ci]? = some q → ∃ (cC : ClassId) (iS : Nat → Nat), u_Kn s q.1 q.2.1 q.2.2 cC iS := by
    intro ci q hq
    match ci, hq with
    | 0, hq => cases hq; exact u_known hg kc_0.1 (hg _ kw_224)
    | 1, hq => cases hq; exact u_known hg kc_1.1 (hg _ kw_202)
    | 2, hq => cases hq; exact u_known hg kc_2.1 (hg _ kw_360)
    | 3, hq => cases hq; exact u_known hg kc_3.1 (hg _ kw_105)
    | 4, hq => cases hq; exact u_known hg kc_4.1 (hg _ kw_334)
    | 5, hq => cases hq; exact u_known hg kc_5.1 (hg _ kw_433)
    | 6, hq => cases hq; exact u_known hg kc_6.1 (hg _ kw_386)
    | 7, hq => cases hq; exact u_known hg kc_7.1 (hg _ kw_294)
    | 8, hq => cases hq; exact u_known hg kc_8.1 (hg _ kw_99)
    | 9, hq => cases hq; exact u_known hg kc_9.1 (hg _ kw_152)
    | 10, hq => cases hq; exact u_known hg kc_10.1 (hg _ kw_91)
    | 11, hq => cases hq; exact u_known hg kc_11.1 (hg _ kw_1239)
    | n + 12, hq => cases hq
  have h13 : ∀ ci : Nat, ∃ z : ClassId × (Nat → Nat), ∀ q : vw_C, kv_cl[ci]? = some q → u_Kn s q.1 q.2.1 q.2.2 z.1 z.2 := by
    intro ci
    cases hq : kv_cl[ci]? with
    | none =>
      obtain ⟨cC, iS, -⟩ := h12 0 _ rfl
      exact ⟨(cC, iS), fun q hq2 => by cases hq2⟩
    | some q =>
      obtain ⟨cC, iS, h⟩ := h12 ci q hq
      exact ⟨(cC, iS), fun q2 hq2 => by cases hq2; exact h⟩
  obtain ⟨c1, k1, p1, a1, a2, a3⟩ := Cond.arrayClass_spec (hg _ kw_150)
  obtain ⟨c2, k2, p2, b1, b2, b3⟩ := Cond.arrayClass_spec (hg _ kw_1320)
  obtain ⟨c3, k3, p3, d1, d2, d3⟩ := Cond.arrayClass_spec (hg _ kw_200)
  obtain ⟨p4, c4, k4, e1, e2, e3, e4, e5⟩ := Cond.arrayOver_spec (hts (Cond.arrayOver (.object "KeptLump$Shelf")) (by decide +kernel))
  refine ⟨(fun c => (Classical.choose (h13 c)).1, fun c => (Classical.choose (h13 c)).2), fun i => if i = 12 then c1 else if i = 13 then c2 else if i = 14 then c3 else c4, fun c q hq => Classical.choose_spec (h13 c) q hq, fun k q hk => ?_⟩
  match k, hk with
  | 0, hk => cases hk; exact ⟨fun N z => ⟨(fun k h => by cases h), k1, a2, p1, a3⟩, a1⟩
  | 1, hk => cases hk; exact ⟨fun N z => ⟨(fun k h => by cases h), k2, b2, p2, b3⟩, b1⟩
  | 2, hk => cases hk; exact ⟨fun N z => ⟨(fun k h => by cases h), k3, d2, p3, d3⟩, d1⟩
  | 3, hk => cases hk; exact ⟨fun N z => ⟨(fun k h => by cases h), k4, e3, p4, e4⟩, k4, p4, e3, e4, e1, e5⟩
  | n + 4, hk => cases hk
theorem el_kx {b : Nat} {s : State} (hts : ∀ w ∈ lw_tbl, w.before #[Value.ref b] s = true) (hgv : (Jvm.Cond.and given_1 narrow_1).before #[Value.ref b] s = true) : ∃ s1 s2 s3, kx_w s s1 s2 s3 ∧ kx_h (fun q => s.heap.size ≤ q) s s.heap := by
  have hf := flat_of_before _ hgv
  obtain ⟨s1, _, _, _, q1, -⟩ := Cond.exactly_spec (hf (Cond.exactly (.string "KeptLump" 386) "java/lang/String") (by decide +kernel))
  obtain ⟨s2, _, _, _, q2, -⟩ := Cond.exactly_spec (hf (Cond.exactly (.string "KeptLump" 396) "java/lang/String") (by decide +kernel))
  obtain ⟨s3, _, _, _, q3, -⟩ := Cond.exactly_spec (hf (Cond.exactly (.string "KeptLump" 467) "java/lang/String") (by decide +kernel))
  have hA : ∀ a : Nat, a < s.heap.size → ¬ s.heap.size ≤ a := fun a ha h => absurd h (Nat.not_le.mpr ha)
  refine ⟨s1, s2, s3, ⟨⟨va_Nw.of rfl (hts _ ?_), va_Nw.of rfl (hts _ ?_), va_Nw.of rfl (hts _ ?_), va_Nw.of rfl (hts _ ?_), va_Nw.of rfl (hts _ ?_)⟩, va_Nc.of (hf _ ?_), vk_R.of (hts _ ?_) q1, vk_R.of (hts _ ?_) q2, vk_R.of (hts _ ?_) q3⟩, vx_Zqof (hts _ ?_) (hts _ ?_) (hf _ ?_) hA, vx_Zqof (hts _ ?_) (hts _ ?_) (hf _ ?_) hA⟩
  all_goals decide +kernel
theorem el_whole {p : Program} {e : Env} {s : State} {m : MethodId} {below : List Frame} {meth : Method} {c : Code} (l : Launch) (hflags : l.flags = flags0) {b L : Nat} {xs : Nat → Int32} (hL : L ≤ 3072) (C0 : lw_At p s m meth c b L xs) : W p l e room_1 s m #[Value.ref b] below meth c s.heap [] 0 0 (lw_Z below #[Value.ref b] s) (entryFrame m ([Value.ref b] : List Value).toArray 8) := by
  obtain ⟨hx, hcode, hret, hml, hown, hts, hX, hbl, hlk, hgv⟩ := C0
  obtain ⟨D, cy, hK⟩ := el_known hts
  have hkx := el_kx hts hgv
  have hfl : l.stackTraces = false := by
    show (!l.flags.contains noTraceFlag) = false
    rw [hflags]
    decide +kernel
  have hB := el_start (E := el_EL L xs) (Q := el_QL) (el_turn (el_loop hL 512 0 el_wc el_wm (fun _ => 0) (fun _ => 0) (by omega) (by omega) el_inv))
  have hl := lv_entry [Value.ref b] (n := 8) (by show 1 ≤ 8; decide)
  have hw := hB l p e s m #[Value.ref b] below meth c D cy s.heap.size b s.heap [] _ ⟨hx, hcode, hml, hret, hlk, hown, fun w hw => hts w (List.mem_filter.mp hw).1, hK, fun a i x h hm => va_Nw.of rfl (hts _ hm), va_AO.of (hts _ (by decide +kernel)), fun q => absurd q (by decide), Nat.le_refl _⟩ ⟨rfl, hX, hbl, rfl, hfl, hkx⟩ rfl (fun i q hq => by cases hq) va_S.rf hl
  rw [lg_entry_eq]
  exact hw
