/-! ===== methods that throw, over the kit's rows ===== -/
def kx_E1 : String := "java/lang/IllegalArgumentException"
def kx_E2 : String := "java/lang/IllegalStateException"
def kx_nm : List String := ["java/lang/RuntimeException", "java/lang/Exception"]
def kx_w (U : State) (s1 s2 s3 : Nat) : Prop := (va_Nw (.castable "java/lang/IllegalArgumentException" "java/lang/IllegalArgumentException") U ∧ va_Nw (.castable "java/lang/IllegalStateException" "java/lang/IllegalStateException") U ∧ va_Nw (.declares (Bundle.initS "java/lang/RuntimeException")) U ∧ va_Nw (.declares (Bundle.initS "java/lang/Exception")) U ∧ va_Nw (.declares (Bundle.initS "java/lang/Throwable")) U) ∧ va_Nc "java/lang/IllegalStateException" "java/lang/IllegalArgumentException" U ∧ vk_R "KeptLump" 386 "no such shelf" s1 U ∧ vk_R "KeptLump" 396 "no row, or no such place in it" s2 U ∧ vk_R "KeptLump" 467 "the failure of a lump" s3 U
theorem kx_w.warm {s1 s2 s3 : Nat} {s U : State} (hW : s.WarmedH U.vm) (h : kx_w s s1 s2 s3) : kx_w U s1 s2 s3 := ⟨⟨va_Nw.warmC hW h.1.1, va_Nw.warmC hW h.1.2.1, va_Nw.warmD hW h.1.2.2.1, va_Nw.warmD hW h.1.2.2.2.1, va_Nw.warmD hW h.1.2.2.2.2⟩, va_Nc.moved hW.alike h.2.1, vk_R.warm hW h.2.2.1, vk_R.warm hW h.2.2.2.1, vk_R.warm hW h.2.2.2.2⟩
theorem kx_w.same {s1 s2 s3 : Nat} {s U : State} (hv : s.vm = U.vm) (h : kx_w s s1 s2 s3) : kx_w U s1 s2 s3 := ⟨⟨va_Nw.same rfl hv h.1.1, va_Nw.same rfl hv h.1.2.1, va_Nw.same rfl hv h.1.2.2.1, va_Nw.same rfl hv h.1.2.2.2.1, va_Nw.same rfl hv h.1.2.2.2.2⟩, va_Nc.moved (by rw [hv]; exact Vm.Alike.refl _) h.2.1, vk_R.same hv.symm h.2.2.1, vk_R.same hv.symm h.2.2.2.1, vk_R.same hv.symm h.2.2.2.2⟩
def kx_h (A : Nat → Prop) (U : State) (H : Heap) : Prop := vx_Zq Bundle.tN "UNASSIGNED_STACK" Bundle.steD A U H ∧ vx_Zq Bundle.tN "SUPPRESSED_SENTINEL" Bundle.listD A U H
theorem kx_h.moved {A : Nat → Prop} {u U : State} {H : Heap} (hvm : u.vm.Alike U.vm) (h : kx_h A u H) : kx_h A U H := ⟨vx_Zq.moved hvm h.1, vx_Zq.moved hvm h.2⟩
theorem kx_h.kept {A : Nat → Prop} {U : State} {H H1 : Heap} (h : kx_h A U H) (hq : ∀ a : Nat, a < H.size → ¬ A a → H1[a]? = H[a]?) : kx_h A U H1 := ⟨vx_Zq.kept h.1 hq, vx_Zq.kept h.2 hq⟩
theorem kx_h.narrow {A B : Nat → Prop} {U : State} {H : Heap} (h : kx_h A U H) (hAB : ∀ q, B q → A q) : kx_h B U H := ⟨vx_Zq.narrow h.1 hAB, vx_Zq.narrow h.2 hAB⟩
def kx_rm (d : Nat) : Room := { frames := d, cells := 1, slots := 6, locals := 64 * d }
def kx_Pc (D : va_G) (cy : Nat → ClassId) (ad : Nat → Nat) (sz s1 s2 s3 : Nat) (w : kv_W) (U : State) : Prop := U.heap.size = sz ∧ va_P D kv_cl (kv_wl cy ad w) U.heap ∧ va_K D kv_cl (kv_tys cy) U ∧ kv_nw U ∧ kx_w U s1 s2 s3 ∧ kx_h (kv_A ad sz) U U.heap
theorem kx_blind (D : va_G) (cy : Nat → ClassId) (ad : Nat → Nat) (as : List Value) (w : kv_W) (sz s1 s2 s3 : Nat) : FrameBlind (va_Pc as (kx_Pc D cy ad sz s1 s2 s3 w)) := fun a U g mk q => by
  obtain ⟨q0, q1, qP, qK, qN, qW, qH⟩ := q
  exact ⟨q0, q1, qP, va_K.moved (u := U) (U := U.calling g mk a) (Vm.Alike.refl U.vm) qK, kv_nw.same (s := U) (U := U.calling g mk a) rfl qN, kx_w.same (s := U) (U := U.calling g mk a) rfl qW, kx_h.moved (u := U) (U := U.calling g mk a) (Vm.Alike.refl U.vm) qH⟩
/-- what is thrown, where -/
def kx_T (D : va_G) (cy : Nat → ClassId) (A : Nat → Prop) (ad : Nat → Nat) (x : (String × kv_W) ⊕ (Option Value × kv_W)) (E : String) (st t : State) : Prop := ∃ wx, x = .inl (E, wx) ∧ va_P D kv_cl (kv_wl cy ad wx) t.heap ∧ va_K D kv_cl (kv_tys cy) t ∧ va_F A st t
def kx_R (D : va_G) (cy : Nat → ClassId) (A : Nat → Prop) (ad : Nat → Nat) (x : (String × kv_W) ⊕ (Option Value × kv_W)) : Array Value → State → Outcome → State → Prop := fun a st oc t => ∃ o, x = .inr o ∧ kv_Q D cy ad A o a st oc t
/-- the contract of a method that may throw -/
def kx_C (M : kv_MI) (d : Nat) (as : List Value) (w : kv_W) (x : (String × kv_W) ⊕ (Option Value × kv_W)) : Prop :=
  ∀ (l : Launch) (D : va_G) (cy : Nat → ClassId) (ad : Nat → Nat) (sz s1 s2 s3 : Nat), l.stackTraces = false → kv_inj ad → vx_Met l M.1 (kv_ws M) (kx_rm d) (va_Pc (as.map (kv_cv ad)) (kx_Pc D cy ad sz s1 s2 s3 w)) (kx_R D cy (kv_A ad sz) ad x) (kx_T D cy (kv_A ad sz) ad x) 1 6 (kv_A ad sz)
def kx_E : kz_E := fun l p e s m args below meth c D cy ad A => l.stackTraces = false ∧ (∀ x ∈ c.exceptionTable.toList, False) ∧ ∃ s1 s2 s3, kx_w s s1 s2 s3 ∧ kx_h A s s.heap
def kx_Q (x : (String × kv_W) ⊕ (Option Value × kv_W)) : kz_Q := fun l p e s m args below meth c D cy ad A => vx_MQ below (kx_R D cy A ad x) (kx_T D cy A ad x) args s 1 6 A
theorem kx_entry {M : kv_MI} {d : Nat} {as : List Value} {w : kv_W} {x : (String × kv_W) ⊕ (Option Value × kv_W)} (hy : plainName M.1.cls = true) (hn : (lg_sl as).length ≤ M.2.2.1) (h : kz_B M (kx_rm d) 0 0 kx_E (kx_Q x) 0 (lv_args 0 as) [] w) : kx_C M d as w x := by
  intro l D cy ad sz s1 s2 s3 hfl hi
  refine vx_ofW (cc := M.2.1) (maxL := M.2.2.1) (ret := M.2.2.2) hy rfl ?_
  intro p e s m args below meth c s₁ B hml htab hv
  obtain ⟨rfl, hsz, hP, hK, hN0, hW0, hH0⟩ := hv
  have hts := atoms_spec (ws := kv_ws M) B.pre
  have hl := lv_entry (as.map (kv_cv ad)) (n := M.2.2.1) (by rw [kv_lg_sl]; exact hn)
  rw [kv_lv_args] at hl
  rw [lg_entry_eq]
  exact h l p e s m _ below meth c D cy ad (kv_A ad sz) s.heap [] _ ⟨B.exec, B.bytes, hml, B.returns, B.notSynchronized, findClass_of_methodNamed B.named, fun v hv => hts v (List.mem_cons_of_mem _ hv), hK, hi, fun i hi => Or.inl ⟨i, hi, rfl⟩, fun q hq => Or.inr (by rw [← hsz]; exact hq), hN0⟩ ⟨hfl, htab, s1, s2, s3, hW0, hH0⟩ hP va_S.rf hl
theorem kx_gw {w : Cond} {L : List Cond} (h : w ∈ L.filter goodWord) (hL : ∀ w ∈ L.filter goodWord, w ∈ lw_tbl) : w ∈ kv_gw := List.mem_filter.mpr ⟨hL w h, (List.mem_filter.mp h).2⟩
theorem kx_a1 : ∀ w ∈ (vx_atS "KeptLump" 388 "java/lang/IllegalArgumentException" kx_nm).filter goodWord, w ∈ lw_tbl := by decide +kernel
theorem kx_a2 : ∀ w ∈ (vx_atS "KeptLump" 398 "java/lang/IllegalStateException" kx_nm).filter goodWord, w ∈ lw_tbl := by decide +kernel
theorem kx_b1 : ∀ w ∈ (vx_atS "KeptLump" 388 "java/lang/IllegalArgumentException" kx_nm).filter (fun w => !goodWord w), w ∈ [Cond.castable "java/lang/IllegalArgumentException" "java/lang/IllegalArgumentException", Cond.declares (Bundle.initS "java/lang/RuntimeException"), Cond.declares (Bundle.initS "java/lang/Exception"), Cond.declares (Bundle.initS "java/lang/Throwable")] := by decide +kernel
theorem kx_b2 : ∀ w ∈ (vx_atS "KeptLump" 398 "java/lang/IllegalStateException" kx_nm).filter (fun w => !goodWord w), w ∈ [Cond.castable "java/lang/IllegalStateException" "java/lang/IllegalStateException", Cond.declares (Bundle.initS "java/lang/RuntimeException"), Cond.declares (Bundle.initS "java/lang/Exception"), Cond.declares (Bundle.initS "java/lang/Throwable")] := by decide +kernel
theorem kx_g1 : ∀ w ∈ Cond.classLink "KeptLump" 384 "java/lang/IllegalArgumentException" :: Cond.initialized "java/lang/IllegalArgumentException" :: vx_atS "KeptLump" 388 "java/lang/IllegalArgumentException" kx_nm, vx_ot w = true := by decide +kernel
theorem kx_g2 : ∀ w ∈ Cond.classLink "KeptLump" 394 "java/lang/IllegalStateException" :: Cond.initialized "java/lang/IllegalStateException" :: vx_atS "KeptLump" 398 "java/lang/IllegalStateException" kx_nm, vx_ot w = true := by decide +kernel
theorem kx_l1 : Cond.classLink "KeptLump" 384 "java/lang/IllegalArgumentException" ∈ lw_tbl ∧ Cond.initialized "java/lang/IllegalArgumentException" ∈ lw_tbl := by decide +kernel
theorem kx_l2 : Cond.classLink "KeptLump" 394 "java/lang/IllegalStateException" ∈ lw_tbl ∧ Cond.initialized "java/lang/IllegalStateException" ∈ lw_tbl := by decide +kernel
theorem kx_tb {w : Cond} (h : w ∈ lw_tbl) (hg : goodWord w = true) : w ∈ kv_gw := List.mem_filter.mpr ⟨h, hg⟩
section KXT
variable {M : kv_MI} {d : Nat} {pc : Nat} {lv : List (Nat × Value)} {st : List Value} {w : kv_W}
/-- 'throw new IllegalArgumentException("no such shelf")' -/
theorem kx_throw1 (hM : M.1.cls = "KeptLump") (hd6 : 6 ≤ d) (hst : st = []) (d0 : decode M.2.1 pc = .ok (.new 384, 3)) (d3 : decode M.2.1 (pc + 3) = .ok (.dup, 1)) (d4 : decode M.2.1 (pc + 4) = .ok (.ldc_w 386, 3)) (d7 : decode M.2.1 (pc + 7) = .ok (.invokespecial 388, 3)) (d10 : decode M.2.1 (pc + 10) = .ok (.athrow, 1)) : kz_B M (kx_rm d) 0 0 kx_E (kx_Q (.inl ("java/lang/IllegalArgumentException", w))) pc lv st w := by
  subst hst
  intro l p e s m args below meth c D cy ad A H locs ls hC hE hP hS hl
  obtain ⟨hfl, htab, s1, s2, s3, hW0, hU0, hN0⟩ := hE
  refine vx_throwSW (own := "KeptLump") (names := kx_nm) (sa := s1) hC.1 hC.2.1 hfl (hM ▸ hC.2.2.2.2.2.1) (by decide +kernel) (by decide +kernel) (kz_hts hC (kx_tb kx_l1.1 rfl)) (kz_hts hC (kx_tb kx_l1.2 rfl)) hW0.2.2.1 ?_ kx_g1 hU0 hN0 hS (hl.1.trans hC.2.2.1.symm) d0 d3 d4 d7 d10 (fun x hx => (htab x hx).elim) ?_ ?_ (Nat.le_refl 1) (Nat.le_refl 6) hC.2.2.2.2.1 ?_ hS.2.2 (Nat.le_refl 1) (Nat.le_refl 6)
  · exact vx_hat (fun v hv => kz_hts hC (kx_gw hv kx_a1)) kx_b1 (vx_c (va_Nw.use rfl hW0.1.1) (vx_c (va_Nw.use rfl hW0.1.2.2.1) (vx_c (va_Nw.use rfl hW0.1.2.2.2.1) (vx_c (va_Nw.use rfl hW0.1.2.2.2.2) vx_n))))
  · show 2 + 3 < d
    omega
  · show 0 + (13 * (2 + 1) + 43) ≤ 64 * d
    omega
  · intro t ht hz hk
    refine ⟨w, rfl, va_P.kept hP (fun kk x hx => hk _ (hP kk x hx).lt), va_K.moved ht hC.2.2.2.2.2.2.2.1, Nat.le_trans hS.1 hz, fun q hq1 hq2 => ?_⟩
    rw [hk q (Nat.lt_of_lt_of_le hq1 hS.1)]
    exact hS.2.1 q hq1 hq2
/-- 'throw new IllegalStateException(..)', by either text -/
theorem kx_throw2 {is : Nat} (hM : M.1.cls = "KeptLump") (hd6 : 6 ≤ d) (hst : st = []) (his : is = 396 ∨ is = 467) (d0 : decode M.2.1 pc = .ok (.new 394, 3)) (d3 : decode M.2.1 (pc + 3) = .ok (.dup, 1)) (d4 : decode M.2.1 (pc + 4) = .ok (.ldc_w is, 3)) (d7 : decode M.2.1 (pc + 7) = .ok (.invokespecial 398, 3)) (d10 : decode M.2.1 (pc + 10) = .ok (.athrow, 1)) : kz_B M (kx_rm d) 0 0 kx_E (kx_Q (.inl ("java/lang/IllegalStateException", w))) pc lv st w := by
  subst hst
  intro l p e s m args below meth c D cy ad A H locs ls hC hE hP hS hl
  obtain ⟨hfl, htab, s1, s2, s3, hW0, hU0, hN0⟩ := hE
  have hstr : ∃ tx sa, vk_R "KeptLump" is tx sa s := by
    rcases his with rfl | rfl
    · exact ⟨_, _, hW0.2.2.2.1⟩
    · exact ⟨_, _, hW0.2.2.2.2⟩
  obtain ⟨tx, sa, hstr⟩ := hstr
  refine vx_throwSW (own := "KeptLump") (names := kx_nm) (sa := sa) (text := tx) hC.1 hC.2.1 hfl (hM ▸ hC.2.2.2.2.2.1) (by decide +kernel) (by decide +kernel) (kz_hts hC (kx_tb kx_l2.1 rfl)) (kz_hts hC (kx_tb kx_l2.2 rfl)) hstr ?_ kx_g2 hU0 hN0 hS (hl.1.trans hC.2.2.1.symm) d0 d3 d4 d7 d10 (fun x hx => (htab x hx).elim) ?_ ?_ (Nat.le_refl 1) (Nat.le_refl 6) hC.2.2.2.2.1 ?_ hS.2.2 (Nat.le_refl 1) (Nat.le_refl 6)
  · exact vx_hat (fun v hv => kz_hts hC (kx_gw hv kx_a2)) kx_b2 (vx_c (va_Nw.use rfl hW0.1.2.1) (vx_c (va_Nw.use rfl hW0.1.2.2.1) (vx_c (va_Nw.use rfl hW0.1.2.2.2.1) (vx_c (va_Nw.use rfl hW0.1.2.2.2.2) vx_n))))
  · show 2 + 3 < d
    omega
  · show 0 + (13 * (2 + 1) + 43) ≤ 64 * d
    omega
  · intro t ht hz hk
    refine ⟨w, rfl, va_P.kept hP (fun kk x hx => hk _ (hP kk x hx).lt), va_K.moved ht hC.2.2.2.2.2.2.2.1, Nat.le_trans hS.1 hz, fun q hq1 hq2 => ?_⟩
    rw [hk q (Nat.lt_of_lt_of_le hq1 hS.1)]
    exact hS.2.1 q hq1 hq2
end KXT
