/-! ===== a second judgement: any room, any premises, any end ===== -/
abbrev kz_E : Type := Launch → Program → Env → State → MethodId → Array Value → List Frame → Method → Code → va_G → (Nat → ClassId) → (Nat → Nat) → (Nat → Prop) → Prop
abbrev kz_Q : Type := Launch → Program → Env → State → MethodId → Array Value → List Frame → Method → Code → va_G → (Nat → ClassId) → (Nat → Nat) → (Nat → Prop) → State → Prop
def kz_Cx (M : kv_MI) (p : Program) (s : State) (m : MethodId) (args : Array Value) (meth : Method) (c : Code) (D : va_G) (cy : Nat → ClassId) (ad : Nat → Nat) (A : Nat → Prop) : Prop :=
  p.tables.exec = Jvm.exec ∧ c.code = M.2.1 ∧ c.maxLocals = M.2.2.1 ∧ meth.sig.returnType = M.2.2.2 ∧ meth.locks = false ∧ s.vm.findClass M.1.cls = some m.cls ∧ (∀ w ∈ kv_gw, w.before args s = true) ∧ va_K D kv_cl (kv_tys cy) s ∧ kv_inj ad ∧ (∀ i, i < kv_N → A (ad i)) ∧ (∀ q, s.heap.size ≤ q → A q) ∧ kv_nw s
def kz_B (M : kv_MI) (R : Room) (k n : Nat) (E : kz_E) (Q : kz_Q) (pc : Nat) (lv : List (Nat × Value)) (st : List Value) (w : kv_W) : Prop :=
  ∀ (l : Launch) (p : Program) (e : Env) (s : State) (m : MethodId) (args : Array Value) (below : List Frame) (meth : Method) (c : Code) (D : va_G) (cy : Nat → ClassId) (ad : Nat → Nat) (A : Nat → Prop) (H : Heap) (locs : List Loc) (ls : Array Slot),
    kz_Cx M p s m args meth c D cy ad A → E l p e s m args below meth c D cy ad A → va_P D kv_cl (kv_wl cy ad w) H → va_S A s.heap H locs → lv_has ls M.2.2.1 (lv.map (fun q => (q.1, kv_cv ad q.2))) →
    W p l e R s m args below meth c H locs k n (Q l p e s m args below meth c D cy ad A) (F0 m pc ls (st.map (kv_cv ad)))
section KZ
variable {M : kv_MI} {R : Room} {k n : Nat} {E : kz_E} {Q : kz_Q} {pc : Nat} {lv : List (Nat × Value)} {st : List Value} {w : kv_W}
theorem kz_hts {p : Program} {s : State} {m : MethodId} {args : Array Value} {meth : Method} {c : Code} {D : va_G} {cy : Nat → ClassId} {ad : Nat → Nat} {A : Nat → Prop} (hC : kz_Cx M p s m args meth c D cy ad A) {v : Cond} (h : v ∈ kv_gw) : v.before args s = true := hC.2.2.2.2.2.2.1 v h
theorem kz_widen {k2 n2 : Nat} (h1 : k ≤ k2) (h2 : n ≤ n2) (kk : kz_B M R k2 n2 E Q pc lv st w) : kz_B M R k n E Q pc lv st w := by
  intro l p e s m args below meth c D cy ad A H locs ls hC hE hP hS hl
  exact W.widen h1 h2 (kk l p e s m args below meth c D cy ad A H locs ls hC hE hP hS hl)
theorem kz_iconst {z : Int} {v : Int32} (hd : decode M.2.1 pc = .ok (.iconst z, 1)) (hv : Int32.ofInt z = v) (kk : kz_B M R k n E Q (pc + 1) lv (.int v :: st) w) : kz_B M R k n E Q pc lv st w := by
  intro l p e s m args below meth c D cy ad A H locs ls hC hE hP hS hl
  exact lv_iconst hC.1 hC.2.1 hd hv (kk l p e s m args below meth c D cy ad A H locs ls hC hE hP hS hl)
theorem kz_bipush {z : Int} {v : Int32} (hd : decode M.2.1 pc = .ok (.bipush z, 2)) (hv : (Int8.ofInt z).toInt32 = v) (kk : kz_B M R k n E Q (pc + 2) lv (.int v :: st) w) : kz_B M R k n E Q pc lv st w := by
  intro l p e s m args below meth c D cy ad A H locs ls hC hE hP hS hl
  exact lv_bipush hC.1 hC.2.1 hd hv (kk l p e s m args below meth c D cy ad A H locs ls hC hE hP hS hl)
theorem kz_sipush {z : Int} {v : Int32} (hd : decode M.2.1 pc = .ok (.sipush z, 3)) (hv : (Int16.ofInt z).toInt32 = v) (kk : kz_B M R k n E Q (pc + 3) lv (.int v :: st) w) : kz_B M R k n E Q pc lv st w := by
  intro l p e s m args below meth c D cy ad A H locs ls hC hE hP hS hl
  exact lv_sipush hC.1 hC.2.1 hd hv (kk l p e s m args below meth c D cy ad A H locs ls hC hE hP hS hl)
theorem kz_iadd {a b : Int32} (hd : decode M.2.1 pc = .ok (.iadd, 1)) (kk : kz_B M R k n E Q (pc + 1) lv (.int (a + b) :: st) w) : kz_B M R k n E Q pc lv (.int b :: .int a :: st) w := by
  intro l p e s m args below meth c D cy ad A H locs ls hC hE hP hS hl
  exact lv_iadd hC.1 hC.2.1 hd (kk l p e s m args below meth c D cy ad A H locs ls hC hE hP hS hl)
theorem kz_isub {a b : Int32} (hd : decode M.2.1 pc = .ok (.isub, 1)) (kk : kz_B M R k n E Q (pc + 1) lv (.int (a - b) :: st) w) : kz_B M R k n E Q pc lv (.int b :: .int a :: st) w := by
  intro l p e s m args below meth c D cy ad A H locs ls hC hE hP hS hl
  exact lv_isub hC.1 hC.2.1 hd (kk l p e s m args below meth c D cy ad A H locs ls hC hE hP hS hl)
theorem kz_iand {a b : Int32} (hd : decode M.2.1 pc = .ok (.iand, 1)) (kk : kz_B M R k n E Q (pc + 1) lv (.int (a &&& b) :: st) w) : kz_B M R k n E Q pc lv (.int b :: .int a :: st) w := by
  intro l p e s m args below meth c D cy ad A H locs ls hC hE hP hS hl
  exact lv_iand hC.1 hC.2.1 hd (kk l p e s m args below meth c D cy ad A H locs ls hC hE hP hS hl)
theorem kz_i2l {a : Int32} (hd : decode M.2.1 pc = .ok (.i2l, 1)) (kk : kz_B M R k n E Q (pc + 1) lv (.long a.toInt64 :: st) w) : kz_B M R k n E Q pc lv (.int a :: st) w := by
  intro l p e s m args below meth c D cy ad A H locs ls hC hE hP hS hl
  exact lv_i2l hC.1 hC.2.1 hd rfl (kk l p e s m args below meth c D cy ad A H locs ls hC hE hP hS hl)
theorem kz_iload {i : Nat} {v : Int32} (j : Nat) (hj : lv[j]? = some (i, .int v)) (hd : decode M.2.1 pc = .ok (.iload i, 2)) (kk : kz_B M R k n E Q (pc + 2) lv (.int v :: st) w) : kz_B M R k n E Q pc lv st w := by
  intro l p e s m args below meth c D cy ad A H locs ls hC hE hP hS hl
  exact lv_iload hC.1 hC.2.1 hd (by have q := lv_at hl j (i := i) (v := kv_cv ad (.int v)) (by rw [List.getElem?_map, hj]; rfl); exact q) (kk l p e s m args below meth c D cy ad A H locs ls hC hE hP hS hl)
theorem kz_iload_n {z : Fin 4} {i : Nat} {v : Int32} (j : Nat) (hj : lv[j]? = some (i, .int v)) (hi : (z : Nat) = i) (hd : decode M.2.1 pc = .ok (.iload_n z, 1)) (kk : kz_B M R k n E Q (pc + 1) lv (.int v :: st) w) : kz_B M R k n E Q pc lv st w := by
  intro l p e s m args below meth c D cy ad A H locs ls hC hE hP hS hl
  exact lv_iload_n hC.1 hC.2.1 hd hi (by have q := lv_at hl j (i := i) (v := kv_cv ad (.int v)) (by rw [List.getElem?_map, hj]; rfl); exact q) (kk l p e s m args below meth c D cy ad A H locs ls hC hE hP hS hl)
theorem kz_lload {i : Nat} {v : Int64} (j : Nat) (hj : lv[j]? = some (i, .long v)) (hd : decode M.2.1 pc = .ok (.lload i, 2)) (kk : kz_B M R k n E Q (pc + 2) lv (.long v :: st) w) : kz_B M R k n E Q pc lv st w := by
  intro l p e s m args below meth c D cy ad A H locs ls hC hE hP hS hl
  exact lv_lload hC.1 hC.2.1 hd (by have q := lv_at hl j (i := i) (v := kv_cv ad (.long v)) (by rw [List.getElem?_map, hj]; rfl); exact q) (kk l p e s m args below meth c D cy ad A H locs ls hC hE hP hS hl)
theorem kz_aload_n {z : Fin 4} {i : Nat} {v : Nat} (j : Nat) (hj : lv[j]? = some (i, .ref v)) (hi : (z : Nat) = i) (hd : decode M.2.1 pc = .ok (.aload_n z, 1)) (kk : kz_B M R k n E Q (pc + 1) lv (.ref v :: st) w) : kz_B M R k n E Q pc lv st w := by
  intro l p e s m args below meth c D cy ad A H locs ls hC hE hP hS hl
  exact lv_aload_n hC.1 hC.2.1 hd hi (by have q := lv_at hl j (i := i) (v := kv_cv ad (.ref v)) (by rw [List.getElem?_map, hj]; rfl); exact q) (kk l p e s m args below meth c D cy ad A H locs ls hC hE hP hS hl)
theorem kz_istore {i : Nat} {v : Int32} {lv' : List (Nat × Value)} (hs : kv_stl lv i (.int v) = lv') (hn : i < M.2.2.1) (hd : decode M.2.1 pc = .ok (.istore i, 2)) (kk : kz_B M R k n E Q (pc + 2) lv' st w) : kz_B M R k n E Q pc lv (.int v :: st) w := by
  subst hs
  intro l p e s m args below meth c D cy ad A H locs ls hC hE hP hS hl
  refine lv_istore (nL := M.2.2.1) hC.1 hC.2.1 hd hl hn (kv_stl_map ad lv i (.int v)) (fun ls2 hl2 => ?_)
  exact kk l p e s m args below meth c D cy ad A H locs ls2 hC hE hP hS hl2
theorem kz_istore_n {z : Fin 4} {i : Nat} {v : Int32} {lv' : List (Nat × Value)} (hs : kv_stl lv i (.int v) = lv') (hn : i < M.2.2.1) (hi : (z : Nat) = i) (hd : decode M.2.1 pc = .ok (.istore_n z, 1)) (kk : kz_B M R k n E Q (pc + 1) lv' st w) : kz_B M R k n E Q pc lv (.int v :: st) w := by
  subst hs
  intro l p e s m args below meth c D cy ad A H locs ls hC hE hP hS hl
  refine lv_istore_n (nL := M.2.2.1) hC.1 hC.2.1 hd hi hl hn (kv_stl_map ad lv i (.int v)) (fun ls2 hl2 => ?_)
  exact kk l p e s m args below meth c D cy ad A H locs ls2 hC hE hP hS hl2
theorem kz_astore_n {z : Fin 4} {i : Nat} {v : Nat} {lv' : List (Nat × Value)} (hs : kv_stl lv i (.ref v) = lv') (hn : i < M.2.2.1) (hi : (z : Nat) = i) (hd : decode M.2.1 pc = .ok (.astore_n z, 1)) (kk : kz_B M R k n E Q (pc + 1) lv' st w) : kz_B M R k n E Q pc lv (.ref v :: st) w := by
  subst hs
  intro l p e s m args below meth c D cy ad A H locs ls hC hE hP hS hl
  refine lv_astore_n (nL := M.2.2.1) hC.1 hC.2.1 hd hi hl hn (kv_stl_map ad lv i (.ref v)) (fun ls2 hl2 => ?_)
  exact kk l p e s m args below meth c D cy ad A H locs ls2 hC hE hP hS hl2
theorem kz_lstore {i : Nat} {v : Int64} {lv' : List (Nat × Value)} (hs : kv_stl2 lv i (.long v) = lv') (hn : i + 1 < M.2.2.1) (hd : decode M.2.1 pc = .ok (.lstore i, 2)) (kk : kz_B M R k n E Q (pc + 2) lv' st w) : kz_B M R k n E Q pc lv (.long v :: st) w := by
  subst hs
  intro l p e s m args below meth c D cy ad A H locs ls hC hE hP hS hl
  refine lv_lstore (nL := M.2.2.1) hC.1 hC.2.1 hd hl hn (kv_stl2_map ad lv i (.long v)) (fun ls2 hl2 => ?_)
  exact kk l p e s m args below meth c D cy ad A H locs ls2 hC hE hP hS hl2
theorem kz_iinc {i : Nat} {z : Int} {v z2 : Int32} {lv' : List (Nat × Value)} (j : Nat) (hj : lv[j]? = some (i, .int v)) (hv : Int32.ofInt z = z2) (hs : kv_stl lv i (.int (v + z2)) = lv') (hn : i < M.2.2.1) (hd : decode M.2.1 pc = .ok (.iinc i z, 3)) (kk : kz_B M R k n E Q (pc + 3) lv' st w) : kz_B M R k n E Q pc lv st w := by
  subst hs
  intro l p e s m args below meth c D cy ad A H locs ls hC hE hP hS hl
  refine lv_iinc (nL := M.2.2.1) (k := j) (x := v) (v := v + z2) hC.1 hC.2.1 hd hl (by rw [List.getElem?_map, hj]; rfl) (by rw [hv]) hn (kv_stl_map ad lv i (.int (v + z2))) (fun ls2 hl2 => ?_)
  exact kk l p e s m args below meth c D cy ad A H locs ls2 hC hE hP hS hl2
theorem kz_sub {lv' : List (Nat × Value)} (ks : List Nat) (hs : lv_pick lv ks = lv') (kk : kz_B M R k n E Q pc lv' st w) : kz_B M R k n E Q pc lv st w := by
  subst hs
  intro l p e s m args below meth c D cy ad A H locs ls hC hE hP hS hl
  refine kk l p e s m args below meth c D cy ad A H locs ls hC hE hP hS (lv_sub hl ks ?_)
  unfold lv_pick
  rw [List.map_filterMap]
  congr 1
  funext i
  rw [List.getElem?_map]
theorem kz_goto {off : Int} {tgt : Nat} (hd : decode M.2.1 pc = .ok (.goto off, 3)) (ht : (pc : Int) + off = (tgt : Int)) (kk : kz_B M R k n E Q tgt lv st w) : kz_B M R k n E Q pc lv st w := by
  intro l p e s m args below meth c D cy ad A H locs ls hC hE hP hS hl
  exact lv_goto hC.1 hC.2.1 hd ht (kk l p e s m args below meth c D cy ad A H locs ls hC hE hP hS hl)
theorem kz_pc {pc2 : Nat} (h : pc = pc2) (kk : kz_B M R k n E Q pc2 lv st w) : kz_B M R k n E Q pc lv st w := h ▸ kk
theorem kz_if_eq {a : Int32} {off : Int} {tgt : Nat} (hd : decode M.2.1 pc = .ok (.ifCond .eq off, 3)) (ht : (pc : Int) + off = (tgt : Int)) (kt : a = 0 → kz_B M R k n E Q tgt lv st w) (kf : ¬ a = 0 → kz_B M R k n E Q (pc + 3) lv st w) : kz_B M R k n E Q pc lv (.int a :: st) w := by
  intro l p e s m args below meth c D cy ad A H locs ls hC hE hP hS hl
  exact lv_if_eq hC.1 hC.2.1 hd ht (fun q => kt q l p e s m args below meth c D cy ad A H locs ls hC hE hP hS hl) (fun q => kf q l p e s m args below meth c D cy ad A H locs ls hC hE hP hS hl)
theorem kz_if_ne {a : Int32} {off : Int} {tgt : Nat} (hd : decode M.2.1 pc = .ok (.ifCond .ne off, 3)) (ht : (pc : Int) + off = (tgt : Int)) (kt : ¬ a = 0 → kz_B M R k n E Q tgt lv st w) (kf : a = 0 → kz_B M R k n E Q (pc + 3) lv st w) : kz_B M R k n E Q pc lv (.int a :: st) w := by
  intro l p e s m args below meth c D cy ad A H locs ls hC hE hP hS hl
  exact lv_if_ne hC.1 hC.2.1 hd ht (fun q => kt q l p e s m args below meth c D cy ad A H locs ls hC hE hP hS hl) (fun q => kf q l p e s m args below meth c D cy ad A H locs ls hC hE hP hS hl)
theorem kz_icmp_eq {a b : Int32} {off : Int} {tgt : Nat} (hd : decode M.2.1 pc = .ok (.if_icmp .eq off, 3)) (ht : (pc : Int) + off = (tgt : Int)) (kt : a = b → kz_B M R k n E Q tgt lv st w) (kf : ¬ a = b → kz_B M R k n E Q (pc + 3) lv st w) : kz_B M R k n E Q pc lv (.int b :: .int a :: st) w := by
  intro l p e s m args below meth c D cy ad A H locs ls hC hE hP hS hl
  exact lv_icmp_eq hC.1 hC.2.1 hd ht (fun q => kt q l p e s m args below meth c D cy ad A H locs ls hC hE hP hS hl) (fun q => kf q l p e s m args below meth c D cy ad A H locs ls hC hE hP hS hl)
theorem kz_icmp_ne {a b : Int32} {off : Int} {tgt : Nat} (hd : decode M.2.1 pc = .ok (.if_icmp .ne off, 3)) (ht : (pc : Int) + off = (tgt : Int)) (kt : ¬ a = b → kz_B M R k n E Q tgt lv st w) (kf : a = b → kz_B M R k n E Q (pc + 3) lv st w) : kz_B M R k n E Q pc lv (.int b :: .int a :: st) w := by
  intro l p e s m args below meth c D cy ad A H locs ls hC hE hP hS hl
  exact lv_icmp_ne hC.1 hC.2.1 hd ht (fun q => kt q l p e s m args below meth c D cy ad A H locs ls hC hE hP hS hl) (fun q => kf q l p e s m args below meth c D cy ad A H locs ls hC hE hP hS hl)
theorem kz_icmp_gt {a b : Int32} {off : Int} {tgt : Nat} (hd : decode M.2.1 pc = .ok (.if_icmp .gt off, 3)) (ht : (pc : Int) + off = (tgt : Int)) (kt : b < a → kz_B M R k n E Q tgt lv st w) (kf : ¬ b < a → kz_B M R k n E Q (pc + 3) lv st w) : kz_B M R k n E Q pc lv (.int b :: .int a :: st) w := by
  intro l p e s m args below meth c D cy ad A H locs ls hC hE hP hS hl
  exact lv_icmp_gt hC.1 hC.2.1 hd ht (fun q => kt q l p e s m args below meth c D cy ad A H locs ls hC hE hP hS hl) (fun q => kf q l p e s m args below meth c D cy ad A H locs ls hC hE hP hS hl)
theorem kz_lcmp_eq {a b : Int64} {off : Int} {tgt : Nat} (hd0 : decode M.2.1 pc = .ok (.lcmp, 1)) (hd : decode M.2.1 (pc + 1) = .ok (.ifCond .eq off, 3)) (ht : ((pc + 1 : Nat) : Int) + off = (tgt : Int)) (kt : a = b → kz_B M R k n E Q tgt lv st w) (kf : ¬ a = b → kz_B M R k n E Q (pc + 1 + 3) lv st w) : kz_B M R k n E Q pc lv (.long b :: .long a :: st) w := by
  intro l p e s m args below meth c D cy ad A H locs ls hC hE hP hS hl
  refine W.lcmp hC.1 hC.2.1 hd0 ?_
  exact lv_if_eq hC.1 hC.2.1 hd ht (fun q => kt ((kv_lg_eq a b).mp q) l p e s m args below meth c D cy ad A H locs ls hC hE hP hS hl) (fun q => kf (fun z => q ((kv_lg_eq a b).mpr z)) l p e s m args below meth c D cy ad A H locs ls hC hE hP hS hl)
/-! cells -/
variable {r ci kf idx : Nat} {fin : Bool} {ft : FieldType} {c m : Nat → Nat → Int32} {y : (Nat → Nat → Int32) × (Nat → Int64) × (Nat → Int64)} {f u : Nat → Int64}
theorem kz_getG (v : Value) (hf : kv_fl M.1.cls idx ci kf fin ft) (hr : kv_kd r = ci) (hv : ∀ ad, kv_fv ad w r kf = kv_cv ad v) (hd : decode M.2.1 pc = .ok (.getfield idx, 3)) (kk : kz_B M R k n E Q (pc + 3) lv (v :: st) w) : kz_B M R k n E Q pc lv (.ref r :: st) w := by
  obtain ⟨C, T, N, ty, ⟨h1, h2, h3, h4, h5, h6⟩, hk, hl0, hfin, ht⟩ := hf
  have hlt : r < kv_N := kv_kd_lt hr (by omega)
  intro l p e s m args below meth c D cy ad A H locs ls hC hE hP hS hl
  refine va_get (own := M.1.cls) (ref := (T kf).1) (C := C) (T := T) (N := N) (ci := ci) (fs := (List.range N).map (kv_fv ad w r)) (v := kv_fv ad w r kf) hC.1 hC.2.1 hC.2.2.2.2.2.2.1 h1 hC.2.2.2.2.2.1 hC.2.2.2.2.2.2.2.1 hP r ?_ h2 kf hk (kz_hts hC hl0) (fun _ h => h) ?_ hd ?_
  · rw [kv_wl_at hlt, kv_cell_obj hr h4, h3]
  · rw [← h3]; exact kv_fs_at (by rw [h3]; exact hk)
  · rw [hv ad]
    exact kk l p e s m args below meth c D cy ad A H locs ls hC hE hP hS hl
theorem kz_getC (hf : kv_fl M.1.cls idx ci kf fin ft) (hr : kv_kd r = ci) (hc : r < kv_NC) (h0 : kv_fk ci kf = 0) (hd : decode M.2.1 pc = .ok (.getfield idx, 3)) (kk : kz_B M R k n E Q (pc + 3) lv (.int (c r kf) :: st) (c, y)) : kz_B M R k n E Q pc lv (.ref r :: st) (c, y) :=
  kz_getG (.int (c r kf)) hf hr (fun ad => by unfold kv_fv; rw [hr, if_pos h0, kv_gi_c hc]; rfl) hd kk
theorem kz_getR {t : Nat} (hf : kv_fl M.1.cls idx ci kf fin ft) (hr : kv_kd r = ci) (h1 : kv_fk ci kf = 1) (ht : kv_tg r kf = t) (hd : decode M.2.1 pc = .ok (.getfield idx, 3)) (kk : kz_B M R k n E Q (pc + 3) lv (.ref t :: st) w) : kz_B M R k n E Q pc lv (.ref r :: st) w :=
  kz_getG (.ref t) hf hr (fun ad => by unfold kv_fv; rw [hr, h1, if_neg (by decide), if_pos rfl, ht]; rfl) hd kk
theorem kz_putC {v : Int32} (hf : kv_fl M.1.cls idx ci kf false ft) (hr : kv_kd r = ci) (hc : r < kv_NC) (h0 : kv_fk ci kf = 0) (hn : narrow ft (.int v) = .int v) (hft : fits ft (.int v) = true) (hd : decode M.2.1 pc = .ok (.putfield idx, 3)) (kk : kz_B M R k n E Q (pc + 3) lv st (kv_st c r kf v, y)) : kz_B M R k n E Q pc lv (.int v :: .ref r :: st) (c, y) := by
  obtain ⟨C, T, N, ty, ⟨h1, h2, h3, h4, h5, h6⟩, hk, hl0, hfin, ht⟩ := hf
  have hlt : r < kv_N := kv_kd_lt hr (by omega)
  have hw := kv_row_c (c := c) (y := y) (g := upd (c r) kf v) hc
  intro l p e s m args below meth c2 D cy ad A H locs ls hC hE hP hS hl
  have hD : va_D A (kv_wl cy ad (c, y)) := kv_wl_D hC.2.2.2.2.2.2.2.2.1 hC.2.2.2.2.2.2.2.2.2.1
  refine va_put (own := M.1.cls) (ref := (T kf).1) (C := C) (T := T) (N := N) (ci := ci) (fs := (List.range N).map (kv_fv ad (c, y) r)) (v := .int v) (ty := ft) hC.1 hC.2.1 hC.2.2.2.2.2.2.1 h1 ty h5 h6 hC.2.2.2.2.2.1 hC.2.2.2.2.2.2.2.1 hP hD hS r ?_ h2 kf hk (kz_hts hC hl0) (fun _ h => h) hfin (by rw [h5 kf hk, ht]) hn hft (by simpa using hk) hd ?_
  · rw [kv_wl_at hlt, kv_cell_obj hr h4, h3]
  · intro H1 locs1 hP1 _ hS1
    have e1 : (kv_wl cy ad (c, y)).set r (ad r, .inr (ci, ((List.range N).map (kv_fv ad (c, y) r)).set kf (.int v))) = kv_wl cy ad (kv_st c r kf v, y) := by
      refine kv_wl_set hlt ?_ (fun j _ hj => kv_cell_same (hw.1.1 j hj) (congrFun hw.1.2 j))
      rw [kv_cell_obj hr h4, h3]
      congr 2
      apply List.ext_getElem?
      intro j
      rw [List.getElem?_set]
      by_cases hj : kf = j
      · subst hj
        rw [if_pos rfl, List.getElem?_map, List.getElem?_range hk]
        have e3 : kv_fv ad (kv_st c r kf v, y) r kf = .int v := by
          unfold kv_fv
          rw [hr, if_pos h0]
          show Value.int (kv_gi (va_up c r (upd (c r) kf v), y) r kf) = _
          rw [hw.2, pk_us]
        simp [hk, e3]
      · rw [if_neg hj, List.getElem?_map, List.getElem?_map]
        by_cases hjn : j < N
        · rw [List.getElem?_range hjn]
          have e2 : kv_gi (kv_st c r kf v, y) r j = kv_gi (c, y) r j := by
            show kv_gi (va_up c r (upd (c r) kf v), y) r j = _
            rw [hw.2, pk_un (fun q => hj q.symm), kv_gi_c hc]
          have e3 : kv_fv ad (kv_st c r kf v, y) r j = kv_fv ad (c, y) r j := by
            unfold kv_fv
            rw [hr, e2]
          simp [e3]
        · simp [hjn]
    rw [e1] at hP1
    exact kk l p e s m args below meth c2 D cy ad A H1 locs1 ls hC hE hP1 hS1 hl
theorem kz_aldC {i : Int32} {nn j : Nat} (hr : kv_kd r = 12) (hc : r < kv_NC) (hn : kv_ln r = nn) (hin : kv_in i nn = true) (hj : i.toNatClampNeg = j) (hd : decode M.2.1 pc = .ok (.iaload, 1)) (kk : kz_B M R k n E Q (pc + 1) lv (.int (c r j) :: st) (c, y)) : kz_B M R k n E Q pc lv (.int i :: .ref r :: st) (c, y) := by
  subst hj
  have hlt : r < kv_N := kv_kd_lt hr (by omega)
  intro l p e s m args below meth c2 D cy ad A H locs ls hC hE hP hS hl
  refine va_iald (n := nn) (f := c r) hC.1 hC.2.1 hC.2.2.2.2.2.2.2.1 hP r 0 (cA := cy 12) ?_ rfl (kv_in_vp hin) hd ?_
  · rw [kv_wl_at hlt, kv_cell_I hr, kv_gi_c hc, hn]
  · exact kk l p e s m args below meth c2 D cy ad A H locs ls hC hE hP hS hl
theorem kz_aald {i : Int32} {nn t : Nat} (hr : kv_kd r = 15) (hn : kv_ln r = nn) (hin : kv_in i nn = true) (ht : kv_tg r i.toNatClampNeg = t) (hd : decode M.2.1 pc = .ok (.aaload, 1)) (kk : kz_B M R k n E Q (pc + 1) lv (.ref t :: st) w) : kz_B M R k n E Q pc lv (.int i :: .ref r :: st) w := by
  subst ht
  have hlt : r < kv_N := kv_kd_lt hr (by omega)
  intro l p e s m args below meth c D cy ad A H locs ls hC hE hP hS hl
  refine va_aldq (n := nn) (f := fun i => some (ad (kv_tg r i))) (C := "KeptLump$Shelf") hC.1 hC.2.1 hC.2.2.2.2.2.2.2.1 hP r 3 (cA := cy 15) ?_ rfl (kv_in_vp hin) hd ?_
  · rw [kv_wl_at hlt, kv_cell_A hr (Or.inl rfl), hn]
  · exact kk l p e s m args below meth c D cy ad A H locs ls hC hE hP hS hl
theorem kz_13 : ∀ j, j < kv_N → kv_kd j = 13 → j = 93 ∨ j = 96 := by decide +kernel
theorem kz_cell_u {cy : Nat → ClassId} {ad : Nat → Nat} {u2 : Nat → Int64} {j : Nat} (hj : j < kv_N) (h : j ≠ 96) : kv_cell cy ad (c, m, f, u) j = kv_cell cy ad (c, m, f, u2) j := by
  by_cases q : kv_kd j = 13
  · have q2 : j = kv_FAR := by
      rcases kz_13 j hj q with rfl | rfl
      · rfl
      · exact absurd rfl h
    exact kv_cell_same rfl (by unfold kv_gl; rw [if_pos q2, if_pos q2])
  · unfold kv_cell
    rw [if_neg q, if_neg q]
    rfl
/-- the law's own long -/
theorem kz_gl_u : kv_gl (c, m, f, u) 96 = u := if_neg (by decide)
theorem kz_ldU (hd : decode M.2.1 pc = .ok (.laload, 1)) (kk : kz_B M R k n E Q (pc + 1) lv (.long (u 0) :: st) (c, m, f, u)) : kz_B M R k n E Q pc lv (.int 0 :: .ref 96 :: st) (c, m, f, u) := by
  have hk0 : kv_kd 96 = 13 := by decide +kernel
  have hn0 : kv_ln 96 = 1 := by decide +kernel
  have hlt : 96 < kv_N := kv_kd_lt hk0 (by omega)
  intro l p e s m2 args below meth c2 D cy ad A H locs ls hC hE hP hS hl
  refine va_lald (n := 1) (f := u) hC.1 hC.2.1 hC.2.2.2.2.2.2.2.1 hP 96 1 (cA := cy 13) ?_ rfl (kv_in_vp (by decide)) hd ?_
  · rw [kv_wl_at hlt, kv_cell_J hk0, hn0, kz_gl_u]
  · exact kk l p e s m2 args below meth c2 D cy ad A H locs ls hC hE hP hS hl
theorem kz_stU {v : Int64} (hd : decode M.2.1 pc = .ok (.lastore, 1)) (kk : kz_B M R k n E Q (pc + 1) lv st (c, m, f, vp_updL u 0 v)) : kz_B M R k n E Q pc lv (.long v :: .int 0 :: .ref 96 :: st) (c, m, f, u) := by
  have hk0 : kv_kd 96 = 13 := by decide +kernel
  have hn0 : kv_ln 96 = 1 := by decide +kernel
  have hlt : 96 < kv_N := kv_kd_lt hk0 (by omega)
  intro l p e s m2 args below meth c2 D cy ad A H locs ls hC hE hP hS hl
  have hD : va_D A (kv_wl cy ad (c, m, f, u)) := kv_wl_D hC.2.2.2.2.2.2.2.2.1 hC.2.2.2.2.2.2.2.2.2.1
  refine va_last (n := 1) (f := u) hC.1 hC.2.1 hC.2.2.2.2.2.2.2.1 hP hD hS 96 1 (cA := cy 13) ?_ rfl (kv_in_vp (by decide)) hd ?_
  · rw [kv_wl_at hlt, kv_cell_J hk0, hn0, kz_gl_u]
  · intro H1 locs1 hP1 _ hS1
    rw [kv_wl_set (w' := (c, m, f, vp_updL u 0 v)) hlt (by rw [kv_cell_J hk0, hn0, kz_gl_u]; rfl) (fun j hj1 hj2 => kz_cell_u hj1 hj2)] at hP1
    exact kk l p e s m2 args below meth c2 D cy ad A H1 locs1 ls hC hE hP1 hS1 hl
end KZ
