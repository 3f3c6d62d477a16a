/-! ===== making objects: worlds that grow at the heap's end ===== -/
abbrev kq_c : Type := (Nat × List Value) ⊕ (Nat × Nat × ((Nat → Int32) ⊕ (Nat → Int64) ⊕ (Nat → Option Nat)))
def kq_e (cy : Nat → ClassId) (h : Nat) : kq_c → va_E
  | .inl q => .inr (q.1, q.2.map (kv_cv (fun r => h + r)))
  | .inr (kd, n, .inl f) => .inl (cy kd, n, .inl f)
  | .inr (kd, n, .inr (.inl f)) => .inl (cy kd, n, .inr (.inl f))
  | .inr (kd, n, .inr (.inr f)) => .inl (cy kd, n, .inr (.inr (.inr (.inr (fun i => (f i).map (fun r => h + r))))))
def kq_w (cy : Nat → ClassId) (h : Nat) (L : List kq_c) : va_W := L.mapIdx (fun i e => (h + i, kq_e cy h e))
def kq_v (h b : Nat) : Value → Value
  | .ref r => .ref (if r = 5000 then b else h + r)
  | v => v
section KQ0
variable {cy : Nat → ClassId} {h b : Nat} {L : List kq_c}
theorem kq_cat (v : Value) : (kq_v h b v).category = v.category := by cases v <;> rfl
theorem kq_vr {t : Nat} (ht : t ≠ 5000) : kq_v h b (.ref t) = .ref (h + t) := by
  show Value.ref (if t = 5000 then b else h + t) = _
  rw [if_neg ht]
theorem kq_at {i : Nat} {e : kq_c} (hi : L[i]? = some e) : (kq_w cy h L)[i]? = some (h + i, kq_e cy h e) := by
  unfold kq_w
  rw [List.getElem?_mapIdx, hi]
  rfl
theorem kq_inv {i : Nat} {q : Nat × va_E} (hi : (kq_w cy h L)[i]? = some q) : ∃ e, L[i]? = some e ∧ q = (h + i, kq_e cy h e) := by
  unfold kq_w at hi
  rw [List.getElem?_mapIdx] at hi
  cases hl : L[i]? with
  | none => rw [hl] at hi; cases hi
  | some e =>
    rw [hl] at hi
    cases hi
    exact ⟨e, rfl, rfl⟩
theorem kq_D : va_D (fun q => h ≤ q) (kq_w cy h L) := by
  refine ⟨fun i j p q hp hq he => ?_, fun k q hq => ?_⟩
  · obtain ⟨e1, -, rfl⟩ := kq_inv hp
    obtain ⟨e2, -, rfl⟩ := kq_inv hq
    have : h + i = h + j := he
    omega
  · obtain ⟨e1, -, rfl⟩ := kq_inv hq
    exact Nat.le_add_right _ _
theorem kq_set {i : Nat} {e : kq_c} : (kq_w cy h L).set i (h + i, kq_e cy h e) = kq_w cy h (L.set i e) := by
  unfold kq_w
  apply List.ext_getElem?
  intro j
  rw [List.getElem?_set, List.getElem?_mapIdx, List.getElem?_mapIdx, List.getElem?_set, List.length_mapIdx]
  by_cases hj : i = j
  · subst hj
    rw [if_pos rfl, if_pos rfl]
    by_cases hl : i < L.length
    · rw [if_pos hl, if_pos hl]; rfl
    · rw [if_neg hl, if_neg hl]; rfl
  · rw [if_neg hj, if_neg hj]
theorem kq_stl_map (lv : List (Nat × Value)) (i : Nat) (v : Value) : (i, kq_v h b v) :: (lv.map (fun q => (q.1, kq_v h b q.2))).filter (fun q => !(q.1 == i) && !(q.1 + 1 == i && q.2.category == 2)) = (kv_stl lv i v).map (fun q => (q.1, kq_v h b q.2)) := by
  unfold kv_stl
  rw [List.map_cons, List.filter_map]
  congr 1
  congr 1
  apply List.filter_congr
  intro q _
  simp [kq_cat]
theorem kq_sum8 {st : List Value} (hs : (st.map fun v => v.category).sum ≤ 8) : ((st.map (kq_v h b)).map fun v => v.category).sum ≤ 8 := by
  have e1 : (List.map (fun v => v.category) (List.map (kq_v h b) st)) = List.map (fun v => v.category) st := by
    rw [List.map_map]
    exact List.map_congr_left fun v _ => kq_cat v
  rw [e1]; exact hs
/-- cells more -/
theorem kq_push {D : va_G} {H H1 : Heap} {LN : List kq_c} (hz : H.size = h + L.length) (hP : va_P D kv_cl (kq_w cy h L) H) (o1 : ∀ q : Nat, q < H.size → H1[q]? = H[q]?) (he : ∀ i e, LN[i]? = some e → va_at D kv_cl (h + L.length + i, kq_e cy h e) H1) : va_P D kv_cl (kq_w cy h (L ++ LN)) H1 := by
  intro i q hq
  obtain ⟨e1, h1, rfl⟩ := kq_inv hq
  by_cases hl : i < L.length
  · rw [List.getElem?_append_left hl] at h1
    have hk := hP i _ (kq_at h1)
    exact hk.kept (o1 _ (show h + i < H.size by omega))
  · rw [List.getElem?_append_right (by omega)] at h1
    have := he _ _ h1
    rw [show h + L.length + (i - L.length) = h + i by omega] at this
    exact this
theorem kq_one {D : va_G} {H1 : Heap} {e : kq_c} (he : va_at D kv_cl (h + L.length, kq_e cy h e) H1) : ∀ i e', [e][i]? = some e' → va_at D kv_cl (h + L.length + i, kq_e cy h e') H1 := by
  intro i e' hi
  have h1 : i < 1 := (List.getElem?_eq_some_iff.mp hi).1
  have h2 : i = 0 := by omega
  subst h2
  cases hi
  exact he
theorem kq_cons {D : va_G} {H1 : Heap} {e : kq_c} {LN : List kq_c} {x : Nat} (he : va_at D kv_cl (x, kq_e cy h e) H1) (hr : ∀ i e', LN[i]? = some e' → va_at D kv_cl (x + 1 + i, kq_e cy h e') H1) : ∀ i e', (e :: LN)[i]? = some e' → va_at D kv_cl (x + i, kq_e cy h e') H1 := by
  intro i e' hi
  cases i with
  | zero => cases hi; exact he
  | succ i =>
    have := hr i e' hi
    rw [show x + 1 + i = x + (i + 1) by omega] at this
    exact this
def kq_sh (t : Nat) : kq_c → kq_c
  | .inl q => .inl (q.1, q.2.map (kv_cv (fun r => t + r)))
  | .inr (kd, n, .inr (.inr f)) => .inr (kd, n, .inr (.inr (fun i => (f i).map (fun r => t + r))))
  | c => c
theorem kq_she {t : Nat} (e : kq_c) : kq_e cy h (kq_sh t e) = kq_e cy (h + t) e := by
  have hv : ∀ v : Value, kv_cv (fun r => h + r) (kv_cv (fun r => t + r) v) = kv_cv (fun r => h + t + r) v := by
    intro v
    cases v <;> first | rfl | (show Value.ref (h + (t + _)) = Value.ref (h + t + _); rw [Nat.add_assoc])
  match e with
  | .inl q =>
    show (Sum.inr (q.1, (q.2.map (kv_cv (fun r => t + r))).map (kv_cv (fun r => h + r))) : va_E) = .inr (q.1, q.2.map (kv_cv (fun r => h + t + r)))
    rw [List.map_map]
    congr 2
    exact List.map_congr_left fun v _ => hv v
  | .inr (kd, n, .inl f) => rfl
  | .inr (kd, n, .inr (.inl f)) => rfl
  | .inr (kd, n, .inr (.inr f)) =>
    show (Sum.inl (cy kd, n, .inr (.inr (.inr (.inr (fun i => ((f i).map (fun r => t + r)).map (fun r => h + r)))))) : va_E) = .inl (cy kd, n, .inr (.inr (.inr (.inr (fun i => (f i).map (fun r => h + t + r))))))
    congr 7
    funext i
    cases f i with
    | none => rfl
    | some r => show some (h + (t + r)) = some (h + t + r); rw [Nat.add_assoc]
theorem kq_joinP {D : va_G} {H H1 : Heap} {L0 LE : List kq_c} {t : Nat} (ht : L0.length = t) (hz : h + t ≤ H.size) (hP : va_P D kv_cl (kq_w cy h L0) H) (o1 : ∀ q : Nat, q < H.size → ¬ h + t ≤ q → H1[q]? = H[q]?) (hE : va_P D kv_cl (kq_w cy (h + t) LE) H1) : va_P D kv_cl (kq_w cy h (L0 ++ LE.map (kq_sh t))) H1 := by
  intro i q hq
  obtain ⟨e1, h1, rfl⟩ := kq_inv hq
  by_cases hl : i < L0.length
  · rw [List.getElem?_append_left hl] at h1
    have hk := hP i _ (kq_at h1)
    exact hk.kept (o1 _ (show h + i < H.size by omega) (show ¬ h + t ≤ h + i by omega))
  · rw [List.getElem?_append_right (by omega), List.getElem?_map] at h1
    cases h2 : LE[i - L0.length]? with
    | none => rw [h2] at h1; cases h1
    | some e2 =>
      rw [h2] at h1
      cases h1
      have := hE _ _ (kq_at h2)
      rw [kq_she, show h + i = h + t + (i - L0.length) by omega]
      exact this
theorem kq_lv_args : ∀ (as : List Value) (i : Nat), lv_args i (as.map (kq_v h b)) = (lv_args i as).map (fun q => (q.1, kq_v h b q.2))
  | [], _ => rfl
  | v :: as, i => by
    show (i, kq_v h b v) :: lv_args _ (as.map (kq_v h b)) = (i, kq_v h b v) :: (lv_args _ as).map _
    rw [kq_cat, kq_lv_args as]
theorem kq_lg_sl : ∀ as : List Value, (lg_sl (as.map (kq_v h b))).length = (lg_sl as).length
  | [] => rfl
  | v :: as => by
    have ih := kq_lg_sl as
    unfold lg_sl at ih ⊢
    rw [List.map_cons, List.flatMap_cons, List.flatMap_cons, List.length_append, List.length_append, ih, kq_cat]
    split <;> rfl
end KQ0
def kq_ao (U : State) : Prop := va_AO "KeptLump$Shelf" U
def kq_Cx (M : kv_MI) (p : Program) (s : State) (m : MethodId) (args : Array Value) (meth : Method) (c : Code) (D : va_G) (cy : Nat → ClassId) (h : Nat) : Prop :=
  p.tables.exec = Jvm.exec ∧ c.code = M.2.1 ∧ c.maxLocals = M.2.2.1 ∧ meth.sig.returnType = M.2.2.2 ∧ meth.locks = false ∧ s.vm.findClass M.1.cls = some m.cls ∧ (∀ w ∈ kv_gw, w.before args s = true) ∧ va_K D kv_cl (kv_tys cy) s ∧ kv_nw s ∧ kq_ao s ∧ (M.1.name = "<init>" → meth.name = "<init>") ∧ h ≤ s.heap.size
abbrev kq_Ep : Type := Launch → Program → Env → State → MethodId → Array Value → List Frame → Method → Code → va_G → (Nat → ClassId) → Nat → Nat → Prop
abbrev kq_Qp : Type := Launch → Program → Env → State → MethodId → Array Value → List Frame → Method → Code → va_G → (Nat → ClassId) → Nat → Nat → State → Prop
def kq_B (M : kv_MI) (R : Room) (k n : Nat) (E : kq_Ep) (Q : kq_Qp) (pc : Nat) (lv : List (Nat × Value)) (st : List Value) (L : List kq_c) : Prop :=
  ∀ (l : Launch) (p : Program) (e : Env) (s : State) (m : MethodId) (args : Array Value) (below : List Frame) (meth : Method) (c : Code) (D : va_G) (cy : Nat → ClassId) (h b : Nat) (H : Heap) (locs : List Loc) (ls : Array Slot),
    kq_Cx M p s m args meth c D cy h → E l p e s m args below meth c D cy h b → H.size = h + L.length → va_P D kv_cl (kq_w cy h L) H → va_S (fun q => h ≤ q) s.heap H locs → lv_has ls M.2.2.1 (lv.map (fun q => (q.1, kq_v h b q.2))) →
    W p l e R s m args below meth c H locs k n (Q l p e s m args below meth c D cy h b) (F0 m pc ls (st.map (kq_v h b)))
section KQ
variable {M N : kv_MI} {R : Room} {k n : Nat} {E : kq_Ep} {Q : kq_Qp} {pc : Nat} {lv : List (Nat × Value)} {st : List Value} {L : List kq_c}
theorem kq_hts {p : Program} {s : State} {m : MethodId} {args : Array Value} {meth : Method} {c : Code} {D : va_G} {cy : Nat → ClassId} {h : Nat} (hC : kq_Cx M p s m args meth c D cy h) {v : Cond} (hw : v ∈ kv_gw) : v.before args s = true := hC.2.2.2.2.2.2.1 v hw
theorem kq_widen {k2 n2 : Nat} (h1 : k ≤ k2) (h2 : n ≤ n2) (kk : kq_B M R k2 n2 E Q pc lv st L) : kq_B M R k n E Q pc lv st L := by
  intro l p e s m args below meth c D cy h b H locs ls hC hE hz hP hS hl
  exact W.widen h1 h2 (kk l p e s m args below meth c D cy h b H locs ls hC hE hz hP hS hl)
theorem kq_iconst {z : Int} {v : Int32} (hd : decode M.2.1 pc = .ok (.iconst z, 1)) (hv : Int32.ofInt z = v) (kk : kq_B M R k n E Q (pc + 1) lv (.int v :: st) L) : kq_B M R k n E Q pc lv st L := by
  intro l p e s m args below meth c D cy h b H locs ls hC hE hz hP hS hl
  exact lv_iconst hC.1 hC.2.1 hd hv (kk l p e s m args below meth c D cy h b H locs ls hC hE hz hP hS hl)
theorem kq_bipush {z : Int} {v : Int32} (hd : decode M.2.1 pc = .ok (.bipush z, 2)) (hv : (Int8.ofInt z).toInt32 = v) (kk : kq_B M R k n E Q (pc + 2) lv (.int v :: st) L) : kq_B M R k n E Q pc lv st L := by
  intro l p e s m args below meth c D cy h b H locs ls hC hE hz hP hS hl
  exact lv_bipush hC.1 hC.2.1 hd hv (kk l p e s m args below meth c D cy h b H locs ls hC hE hz hP hS hl)
theorem kq_sipush {z : Int} {v : Int32} (hd : decode M.2.1 pc = .ok (.sipush z, 3)) (hv : (Int16.ofInt z).toInt32 = v) (kk : kq_B M R k n E Q (pc + 3) lv (.int v :: st) L) : kq_B M R k n E Q pc lv st L := by
  intro l p e s m args below meth c D cy h b H locs ls hC hE hz hP hS hl
  exact lv_sipush hC.1 hC.2.1 hd hv (kk l p e s m args below meth c D cy h b H locs ls hC hE hz hP hS hl)
theorem kq_iadd {x y z : Int32} (hd : decode M.2.1 pc = .ok (.iadd, 1)) (hv : x + y = z) (kk : kq_B M R k n E Q (pc + 1) lv (.int z :: st) L) : kq_B M R k n E Q pc lv (.int y :: .int x :: st) L := by
  subst hv
  intro l p e s m args below meth c D cy h b H locs ls hC hE hz hP hS hl
  exact lv_iadd hC.1 hC.2.1 hd (kk l p e s m args below meth c D cy h b H locs ls hC hE hz hP hS hl)
theorem kq_dupR {a : Nat} (hd : decode M.2.1 pc = .ok (.dup, 1)) (kk : kq_B M R k n E Q (pc + 1) lv (.ref a :: .ref a :: st) L) : kq_B M R k n E Q pc lv (.ref a :: st) L := by
  intro l p e s m args below meth c D cy h b H locs ls hC hE hz hP hS hl
  exact lv_dup hC.1 hC.2.1 hd rfl (kk l p e s m args below meth c D cy h b H locs ls hC hE hz hP hS hl)
theorem kq_iload_n {z : Fin 4} {i : Nat} {v : Int32} (j : Nat) (hj : lv[j]? = some (i, .int v)) (hi : (z : Nat) = i) (hd : decode M.2.1 pc = .ok (.iload_n z, 1)) (kk : kq_B M R k n E Q (pc + 1) lv (.int v :: st) L) : kq_B M R k n E Q pc lv st L := by
  intro l p e s m args below meth c D cy h b H locs ls hC hE hz hP hS hl
  exact lv_iload_n hC.1 hC.2.1 hd hi (by have q := lv_at hl j (i := i) (v := kq_v h b (.int v)) (by rw [List.getElem?_map, hj]; rfl); exact q) (kk l p e s m args below meth c D cy h b H locs ls hC hE hz hP hS hl)
theorem kq_aload_n {z : Fin 4} {i : Nat} {v : Nat} (j : Nat) (hj : lv[j]? = some (i, .ref v)) (hi : (z : Nat) = i) (hd : decode M.2.1 pc = .ok (.aload_n z, 1)) (kk : kq_B M R k n E Q (pc + 1) lv (.ref v :: st) L) : kq_B M R k n E Q pc lv st L := by
  intro l p e s m args below meth c D cy h b H locs ls hC hE hz hP hS hl
  exact lv_aload_n hC.1 hC.2.1 hd hi (by have q := lv_at hl j (i := i) (v := kq_v h b (.ref v)) (by rw [List.getElem?_map, hj]; rfl); exact q) (kk l p e s m args below meth c D cy h b H locs ls hC hE hz hP hS hl)
theorem kq_istore_n {z : Fin 4} {i : Nat} {v : Int32} {lv' : List (Nat × Value)} (hs : kv_stl lv i (.int v) = lv') (hn : i < M.2.2.1) (hi : (z : Nat) = i) (hd : decode M.2.1 pc = .ok (.istore_n z, 1)) (kk : kq_B M R k n E Q (pc + 1) lv' st L) : kq_B M R k n E Q pc lv (.int v :: st) L := by
  subst hs
  intro l p e s m args below meth c D cy h b H locs ls hC hE hz hP hS hl
  refine lv_istore_n (nL := M.2.2.1) hC.1 hC.2.1 hd hi hl hn (kq_stl_map lv i (.int v)) (fun ls2 hl2 => ?_)
  exact kk l p e s m args below meth c D cy h b H locs ls2 hC hE hz hP hS hl2
theorem kq_istore {i : Nat} {v : Int32} {lv' : List (Nat × Value)} (hs : kv_stl lv i (.int v) = lv') (hn : i < M.2.2.1) (hd : decode M.2.1 pc = .ok (.istore i, 2)) (kk : kq_B M R k n E Q (pc + 2) lv' st L) : kq_B M R k n E Q pc lv (.int v :: st) L := by
  subst hs
  intro l p e s m args below meth c D cy h b H locs ls hC hE hz hP hS hl
  refine lv_istore (nL := M.2.2.1) hC.1 hC.2.1 hd hl hn (kq_stl_map lv i (.int v)) (fun ls2 hl2 => ?_)
  exact kk l p e s m args below meth c D cy h b H locs ls2 hC hE hz hP hS hl2
theorem kq_astore_n {z : Fin 4} {i : Nat} {v : Nat} {lv' : List (Nat × Value)} (hs : kv_stl lv i (.ref v) = lv') (hn : i < M.2.2.1) (hi : (z : Nat) = i) (hd : decode M.2.1 pc = .ok (.astore_n z, 1)) (kk : kq_B M R k n E Q (pc + 1) lv' st L) : kq_B M R k n E Q pc lv (.ref v :: st) L := by
  subst hs
  intro l p e s m args below meth c D cy h b H locs ls hC hE hz hP hS hl
  refine lv_astore_n (nL := M.2.2.1) hC.1 hC.2.1 hd hi hl hn (kq_stl_map lv i (.ref v)) (fun ls2 hl2 => ?_)
  exact kk l p e s m args below meth c D cy h b H locs ls2 hC hE hz hP hS hl2
theorem kq_iinc {i : Nat} {z : Int} {v v2 : Int32} {lv' : List (Nat × Value)} (j : Nat) (hj : lv[j]? = some (i, .int v)) (hv : v + Int32.ofInt z = v2) (hs : kv_stl lv i (.int v2) = lv') (hn : i < M.2.2.1) (hd : decode M.2.1 pc = .ok (.iinc i z, 3)) (kk : kq_B M R k n E Q (pc + 3) lv' st L) : kq_B M R k n E Q pc lv st L := by
  subst hs
  intro l p e s m args below meth c D cy h b H locs ls hC hE hz hP hS hl
  refine lv_iinc (nL := M.2.2.1) (k := j) (x := v) (v := v2) hC.1 hC.2.1 hd hl (by rw [List.getElem?_map, hj]; rfl) hv hn (kq_stl_map lv i (.int v2)) (fun ls2 hl2 => ?_)
  exact kk l p e s m args below meth c D cy h b H locs ls2 hC hE hz hP hS hl2
theorem kq_goto {off : Int} {tgt : Nat} (hd : decode M.2.1 pc = .ok (.goto off, 3)) (ht : (pc : Int) + off = (tgt : Int)) (kk : kq_B M R k n E Q tgt lv st L) : kq_B M R k n E Q pc lv st L := by
  intro l p e s m args below meth c D cy h b H locs ls hC hE hz hP hS hl
  exact lv_goto hC.1 hC.2.1 hd ht (kk l p e s m args below meth c D cy h b H locs ls hC hE hz hP hS hl)
theorem kq_icmp_ge {x y : Int32} {off : Int} {tgt : Nat} (hd : decode M.2.1 pc = .ok (.if_icmp .ge off, 3)) (ht : (pc : Int) + off = (tgt : Int)) (kt : y ≤ x → kq_B M R k n E Q tgt lv st L) (kf : ¬ y ≤ x → kq_B M R k n E Q (pc + 3) lv st L) : kq_B M R k n E Q pc lv (.int y :: .int x :: st) L := by
  intro l p e s m args below meth c D cy h b H locs ls hC hE hz hP hS hl
  exact lv_icmp_ge hC.1 hC.2.1 hd ht (fun q => kt q l p e s m args below meth c D cy h b H locs ls hC hE hz hP hS hl) (fun q => kf q l p e s m args below meth c D cy h b H locs ls hC hE hz hP hS hl)
theorem kq_objInit {t idx : Nat} (h1 : Cond.methodLink M.1.cls idx Lib.objectInit ∈ kv_gw) (h2 : Cond.instanceMethod Lib.objectInit ∈ kv_gw) (h3 : Cond.code Lib.objectInit ⟨#[0xb1]⟩ 1 none ∈ kv_gw) (hd : decode M.2.1 pc = .ok (.invokespecial idx, 3)) (hf : 1 ≤ R.frames) (hlo : 12 ≤ R.locals) (hst : st = []) (kk : kq_B M R k n E Q (pc + 3) lv st L) : kq_B M R k n E Q pc lv (.ref t :: st) L := by
  subst hst
  intro l p e s m args below meth c D cy h b H locs ls hC hE hz hP hS hl
  refine W.objInit hC.1 hC.2.1 hC.2.2.2.2.2.1 (kq_hts hC h1) (kq_hts hC h2) (kq_hts hC h3) rfl (by rw [hC.2.2.1]; exact hl.1) rfl hd hf hlo ?_
  exact kk l p e s m args below meth c D cy h b H locs ls hC hE hz hP hS hl
/-! cells -/
variable {t ci kf idx : Nat} {fs : List Value} {fin : Bool} {ft : FieldType} {L' : List kq_c}
theorem kq_get {v : Value} (hf : kv_fl M.1.cls idx ci kf fin ft) (ht : t ≠ 5000) (he : L[t]? = some (.inl (ci, fs))) (hv : fs[kf]? = some v) (hvv : ∀ h b, kv_cv (fun r => h + r) v = kq_v h b v) (hd : decode M.2.1 pc = .ok (.getfield idx, 3)) (kk : kq_B M R k n E Q (pc + 3) lv (v :: st) L) : kq_B M R k n E Q pc lv (.ref t :: st) L := by
  obtain ⟨C, T, N2, ty, ⟨h1, h2, h3, h4, h5, h6⟩, hk, hl0, hfin, hft⟩ := hf
  intro l p e s m args below meth c D cy h b H locs ls hC hE hz hP hS hl
  have e1 : (kq_v h b (.ref t) :: st.map (kq_v h b)) = .ref (h + t) :: st.map (kq_v h b) := by rw [kq_vr ht]
  show W p l e R s m args below meth c H locs k n _ (F0 m pc ls (kq_v h b (.ref t) :: st.map (kq_v h b)))
  rw [e1]
  refine va_get (own := M.1.cls) (ref := (T kf).1) (C := C) (T := T) (N := N2) (ci := ci) (fs := fs.map (kv_cv (fun r => h + r))) (v := kv_cv (fun r => h + r) v) hC.1 hC.2.1 hC.2.2.2.2.2.2.1 h1 hC.2.2.2.2.2.1 hC.2.2.2.2.2.2.2.1 hP t (kq_at he) h2 kf hk (kq_hts hC hl0) (fun _ h => h) (by rw [List.getElem?_map, hv]; rfl) hd ?_
  rw [hvv h b]
  exact kk l p e s m args below meth c D cy h b H locs ls hC hE hz hP hS hl
theorem kq_vv {h b t : Nat} (ht : t ≠ 5000) : kv_cv (fun r => h + r) (.ref t) = kq_v h b (.ref t) := (kq_vr ht).symm
theorem kq_put {v : Value} (hf : kv_fl M.1.cls idx ci kf fin ft) (hdc : fin = true → M.1.name = "<init>" ∧ ∀ C T N, kv_cl[ci]? = some (C, T, N) → (T kf).1 = M.1.cls) (ht : t ≠ 5000) (he : L[t]? = some (.inl (ci, fs))) (hkl : kf < fs.length) (hvv : ∀ h b, kv_cv (fun r => h + r) v = kq_v h b v) (hn : ∀ h b, narrow ft (kq_v h b v) = kq_v h b v) (hft : ∀ h b, fits ft (kq_v h b v) = true) (hL : L.set t (.inl (ci, fs.set kf v)) = L') (hd : decode M.2.1 pc = .ok (.putfield idx, 3)) (kk : kq_B M R k n E Q (pc + 3) lv st L') : kq_B M R k n E Q pc lv (v :: .ref t :: st) L := by
  subst hL
  obtain ⟨C, T, N2, ty0, ⟨h1, h2, h3, h4, h5, h6⟩, hk, hl0, hfin, hty⟩ := hf
  intro l p e s m args below meth c D cy h b H locs ls hC hE hz hP hS hl
  show W p l e R s m args below meth c H locs k n _ (F0 m pc ls (kq_v h b v :: kq_v h b (.ref t) :: st.map (kq_v h b)))
  rw [kq_vr ht]
  have hown := hC.2.2.2.2.2.1
  have hts := hC.2.2.2.2.2.2.1
  have hap := va_apart (own := M.1.cls) hts h1 ty0 h5 h6 hC.2.2.2.2.2.2.2.1 h2
  have he' := kq_at (cy := cy) (h := h) he
  obtain ⟨r, hr1, cell, q1, q2, q3, q4⟩ := hP t _ he'
  have hr : r = (C, T, N2) := Option.some.inj (hr1.symm.trans h2)
  subst hr
  obtain ⟨hSl, hfc, kC, hkC, hkind⟩ := hC.2.2.2.2.2.2.2.1.1 ci _ h2
  obtain ⟨cf, kf0, fi, f, hi, hsl⟩ := hSl kf hk
  have hlay := hts _ (h1 _ (u_in_lay hk))
  unfold u_lay at hlay
  have hst := (u_facts hfc hkC (u_lays hts h1 hk) hi).1
  have hpd : parseFieldDescriptor (T kf).2.2.1 = some ft := by rw [h5 kf hk, hty]
  have hkl' : kf < (fs.map (kv_cv (fun r => h + r))).length := by rw [List.length_map]; exact hkl
  have fin' : ∀ H', H'[h + t]? = some (cell.setSlot f.slot (kq_v h b v)) → H'.size = H.size → (∀ q, q ≠ h + t → H'[q]? = H[q]?) → W p l e R s m args below meth c H' (locs ++ [⟨h + t, f.slot⟩]) k n (Q l p e s m args below meth c D cy h b) (F0 m (pc + 3) ls (st.map (kq_v h b))) := by
    intro H' e1 e2 e3
    rw [hsl] at e1
    have hP1 := hP.set kq_D he' (e := .inr (ci, (fs.map (kv_cv (fun r => h + r))).set kf (kq_v h b v))) ⟨_, h2, t_OB.to (V := updV (vp_V (fs.map (kv_cv (fun r => h + r)))) kf (kq_v h b v)) ⟨_, e1, q2, q3, t_set q4 hap hk (kq_v h b v)⟩ (fun j _ => vp_updV_set hkl' (kq_v h b v) j)⟩ e3
    have e9 : ((h + t, .inr (ci, (fs.map (kv_cv (fun r => h + r))).set kf (kq_v h b v))) : Nat × va_E) = (h + t, kq_e cy h (.inl (ci, fs.set kf v))) := by
      show _ = ((h + t, .inr (ci, (fs.set kf v).map (kv_cv (fun r => h + r)))) : Nat × va_E)
      rw [List.map_set, hvv h b]
    rw [e9, kq_set] at hP1
    refine kk l p e s m args below meth c D cy h b H' _ ls hC hE ?_ hP1 (hS.put e2 e3 (Nat.le_add_right h t)) hl
    rw [List.length_set, e2, hz]
  cases fin with
  | false =>
    rw [if_neg (by rw [hfin]; decide)] at hlay
    have hs6 := u_store hfc hkC hkind hlay hi hpd (hn h b) (hft h b)
    exact W.putK hC.1 hC.2.1 (f := f) ⟨hown, kq_hts hC hl0, ⟨_, _, _, hi⟩, hst⟩ (by rw [q2]; exact hs6) q1 q3 (by rw [hsl]; exact k2_hasslot (q4 kf hk)) rfl rfl hd fin'
  | true =>
    rw [if_pos hfin] at hlay
    obtain ⟨hi0, hd0⟩ := hdc rfl
    have hcf : m.cls = cf := by
      obtain ⟨_, _, c', _, _, _, -, -, hf', -, -, -, hown2, -⟩ := Cond.laysFinal_spec hlay
      have e1 : c' = cf := by have := hi.symm.trans hf'; simp at this; exact this.1.symm
      rw [hd0 C T N2 h2] at hown2
      rw [← e1]; exact Option.some.inj (hown.symm.trans hown2)
    have hs6 := u_fits hfc hkC hkind (Or.inr hlay) hi hpd (hn h b) (hft h b)
    exact W.putFinK hC.1 hC.2.1 hown (kq_hts hC hl0) hi hst hcf (hC.2.2.2.2.2.2.2.2.2.2.1 hi0) (by rw [q2]; exact hs6) q1 q3 (by rw [hsl]; exact k2_hasslot (q4 kf hk)) rfl rfl hd fin'
theorem kq_putI {x : Int32} (hf : kv_fl M.1.cls idx ci kf false ft) (ht : t ≠ 5000) (he : L[t]? = some (.inl (ci, fs))) (hkl : kf < fs.length) (hn : narrow ft (.int x) = .int x) (hft : fits ft (.int x) = true) (hL : L.set t (.inl (ci, fs.set kf (.int x))) = L') (hd : decode M.2.1 pc = .ok (.putfield idx, 3)) (kk : kq_B M R k n E Q (pc + 3) lv st L') : kq_B M R k n E Q pc lv (.int x :: .ref t :: st) L :=
  kq_put hf (fun h => by cases h) ht he hkl (fun _ _ => rfl) (fun _ _ => hn) (fun _ _ => hft) hL hd kk
theorem kq_putR {x : Nat} (hf : kv_fl M.1.cls idx ci kf fin ft) (hdc : fin = true → M.1.name = "<init>" ∧ ∀ C T N, kv_cl[ci]? = some (C, T, N) → (T kf).1 = M.1.cls) (ht : t ≠ 5000) (hx : x ≠ 5000) (he : L[t]? = some (.inl (ci, fs))) (hkl : kf < fs.length) (hn : ∀ a : Nat, narrow ft (.ref a) = .ref a) (hft : ∀ a : Nat, fits ft (.ref a) = true) (hL : L.set t (.inl (ci, fs.set kf (.ref x))) = L') (hd : decode M.2.1 pc = .ok (.putfield idx, 3)) (kk : kq_B M R k n E Q (pc + 3) lv st L') : kq_B M R k n E Q pc lv (.ref x :: .ref t :: st) L :=
  kq_put hf hdc ht he hkl (fun _ _ => kq_vv hx) (fun h b => by rw [kq_vr hx]; exact hn _) (fun h b => by rw [kq_vr hx]; exact hft _) hL hd kk
theorem kq_grow {s : State} {h : Nat} {H H1 : Heap} {locs : List Loc} (hS : va_S (fun q => h ≤ q) s.heap H locs) (z1 : H.size ≤ H1.size) (o1 : ∀ q : Nat, q < H.size → H1[q]? = H[q]?) : va_S (fun q => h ≤ q) s.heap H1 locs :=
  ⟨Nat.le_trans hS.1 z1, fun x h1 h2 => (o1 x (Nat.lt_of_lt_of_le h1 hS.1)).trans (hS.2.1 x h1 h2), hS.2.2⟩
theorem kq_newG {at0 : ArrayType} {ty : FieldType} {kd t0 N0 k2 n2 : Nat} {a0 : vp_A} {e0 : kq_c} {v : Int32} (hty : newarray.typeOf at0 = ty) (htt : ∀ cy : Nat → ClassId, (kv_tys cy)[t0]? = some (cy kd, ty)) (hra : ∀ (U : State) (cA : ClassId), va_RA U cA ty → U.vm.findClass ("[" ++ ty.toString) = some cA) (ha : ∀ cA, vp_cell cA a0 = arrV cA N0 (fun _ => defaultValue ty)) (hek : ∀ cy h, kq_e cy h e0 = .inl (cy kd, a0)) (harr : Cond.arrayClass ty ∈ kv_gw) (hn : ¬ v < 0) (hN : v.toNatClampNeg = N0) (hb : N0 * componentBytes ty ≤ 536870912) (hk : k + 1 = k2) (hn2 : n + N0 = n2) (hR : k2 ≤ R.cells ∧ n2 ≤ R.slots) (hlen : L.length = t) (ht : t ≠ 5000) (hd : decode M.2.1 pc = .ok (.newarray at0, 2)) (kk : kq_B M R k2 n2 E Q (pc + 2) lv (.ref t :: st) (L ++ [e0])) : kq_B M R k n E Q pc lv (.int v :: st) L := by
  subst hty
  subst hk
  subst hn2
  subst hlen
  intro l p e s m args below meth c D cy h b H locs ls hC hE hz hP hS hl
  refine va_newaK hC.1 hC.2.1 (kq_hts hC harr) rfl hd rfl hn hN hb hR.1 hR.2 rfl fun H1 cA e1 z1 o1 hAr hNm => ?_
  have hcA : cA = cy kd := Option.some.inj (hNm.symm.trans (hra s _ (hC.2.2.2.2.2.2.2.1.2 t0 _ (htt cy)).2))
  have k1 := kk l p e s m args below meth c D cy h b H1 locs ls hC hE (by rw [z1, hz, List.length_append]; rfl) (kq_push hz hP o1 (kq_one (by
    rw [hek]
    show H1[h + L.length]? = some (vp_cell (cy kd) a0)
    rw [ha, ← hcA, ← hz]
    exact e1))) (kq_grow hS (by omega) o1) hl
  have e3 : (Value.ref L.length :: st).map (kq_v h b) = Value.ref H.size :: st.map (kq_v h b) := by
    rw [List.map_cons, kq_vr ht, hz]
  rw [e3] at k1
  exact k1
theorem kq_newI {N0 k2 n2 : Nat} {v : Int32} (harr : Cond.arrayClass .int ∈ kv_gw) (hn : ¬ v < 0) (hN : v.toNatClampNeg = N0) (hb : N0 * componentBytes .int ≤ 536870912) (hk : k + 1 = k2) (hn2 : n + N0 = n2) (hR : k2 ≤ R.cells ∧ n2 ≤ R.slots) (hlen : L.length = t) (ht : t ≠ 5000) (hd : decode M.2.1 pc = .ok (.newarray .int, 2)) (kk : kq_B M R k2 n2 E Q (pc + 2) lv (.ref t :: st) (L ++ [.inr (12, N0, .inl (fun _ => 0))])) : kq_B M R k n E Q pc lv (.int v :: st) L :=
  kq_newG (ty := .int) (kd := 12) (t0 := 0) (a0 := (N0, .inl (fun _ => 0))) rfl (fun _ => rfl) (fun _ _ h => h) (fun _ => rfl) (fun _ _ => rfl) harr hn hN hb hk hn2 hR hlen ht hd kk
theorem kq_newJ {N0 k2 n2 : Nat} {v : Int32} (harr : Cond.arrayClass .long ∈ kv_gw) (hn : ¬ v < 0) (hN : v.toNatClampNeg = N0) (hb : N0 * componentBytes .long ≤ 536870912) (hk : k + 1 = k2) (hn2 : n + N0 = n2) (hR : k2 ≤ R.cells ∧ n2 ≤ R.slots) (hlen : L.length = t) (ht : t ≠ 5000) (hd : decode M.2.1 pc = .ok (.newarray .long, 2)) (kk : kq_B M R k2 n2 E Q (pc + 2) lv (.ref t :: st) (L ++ [.inr (13, N0, .inr (.inl (fun _ => 0)))])) : kq_B M R k n E Q pc lv (.int v :: st) L :=
  kq_newG (ty := .long) (kd := 13) (t0 := 1) (a0 := (N0, .inr (.inl (fun _ => 0)))) rfl (fun _ => rfl) (fun _ _ h => h) (fun _ => rfl) (fun _ _ => rfl) harr hn hN hb hk hn2 hR hlen ht hd kk
theorem kq_newZ {N0 k2 n2 : Nat} {v : Int32} (harr : Cond.arrayClass .boolean ∈ kv_gw) (hn : ¬ v < 0) (hN : v.toNatClampNeg = N0) (hb : N0 * componentBytes .boolean ≤ 536870912) (hk : k + 1 = k2) (hn2 : n + N0 = n2) (hR : k2 ≤ R.cells ∧ n2 ≤ R.slots) (hlen : L.length = t) (ht : t ≠ 5000) (hd : decode M.2.1 pc = .ok (.newarray .boolean, 2)) (kk : kq_B M R k2 n2 E Q (pc + 2) lv (.ref t :: st) (L ++ [.inr (14, N0, .inl (fun _ => 0))])) : kq_B M R k n E Q pc lv (.int v :: st) L :=
  kq_newG (ty := .boolean) (kd := 14) (t0 := 2) (a0 := (N0, .inl (fun _ => 0))) rfl (fun _ => rfl) (fun _ _ h => h) (fun _ => rfl) (fun _ _ => rfl) harr hn hN hb hk hn2 hR hlen ht hd kk
theorem kq_new {C : String} {T : u_T} {N0 k2 n2 : Nat} {ty : Nat → FieldType} (hoc : kv_okc ci C T N0 ty) (w1 : Cond.classLink M.1.cls idx C ∈ kv_gw) (w2 : Cond.instantiable C N0 ∈ kv_gw) (w3 : Cond.initialized C ∈ kv_gw) (hm : ∀ f, fs.map (kv_cv f) = fs) (hfs : ∀ j, j < N0 → defaultValue (ty j) = vp_V fs j) (hk : k + 1 = k2) (hn2 : n + N0 = n2) (hR : k2 ≤ R.cells ∧ n2 ≤ R.slots) (hlen : L.length = t) (ht : t ≠ 5000) (hd : decode M.2.1 pc = .ok (.new idx, 3)) (kk : kq_B M R k2 n2 E Q (pc + 3) lv (.ref t :: st) (L ++ [.inl (ci, fs)])) : kq_B M R k n E Q pc lv st L := by
  subst hk
  subst hn2
  subst hlen
  intro l p e s m args below meth c D cy h b H locs ls hC hE hz hP hS hl
  have hKn := hC.2.2.2.2.2.2.2.1.1 ci _ hoc.2.1
  refine W.newcK hC.1 hC.2.1 hC.2.2.2.2.2.1 (kq_hts hC w1) (kq_hts hC w2) (kq_hts hC w3) rfl hd hR.1 hR.2 hKn.2.1 rfl fun H1 kC hkC e1 z1 o1 => ?_
  have k1 := kk l p e s m args below meth c D cy h b H1 locs ls hC hE (by rw [z1, hz, List.length_append]; rfl) (kq_push hz hP o1 (kq_one (by
    show ∃ r, _
    refine ⟨_, hoc.2.1, (u_born ty hC.2.2.2.2.2.2.1 hoc.1 hKn hkC (by rw [← hz]; exact e1) hoc.2.2.2.2.1).to ?_⟩
    intro j hj
    show _ = vp_V (fs.map _) j
    rw [hm]
    exact hfs j hj))) (kq_grow hS (by omega) o1) hl
  have e3 : (Value.ref L.length :: st).map (kq_v h b) = Value.ref H.size :: st.map (kq_v h b) := by
    rw [List.map_cons, kq_vr ht, hz]
  rw [e3] at k1
  exact k1
theorem kq_anew {N0 k2 n2 : Nat} {v : Int32} (w1 : Cond.classLink M.1.cls idx "KeptLump$Shelf" ∈ kv_gw) (hn : ¬ v < 0) (hN : v.toNatClampNeg = N0) (hb : N0 * 4 ≤ 536870912) (hk : k + 1 = k2) (hn2 : n + N0 = n2) (hR : k2 ≤ R.cells ∧ n2 ≤ R.slots) (hlen : L.length = t) (ht : t ≠ 5000) (hd : decode M.2.1 pc = .ok (.anewarray idx, 3)) (kk : kq_B M R k2 n2 E Q (pc + 3) lv (.ref t :: st) (L ++ [.inr (15, N0, .inr (.inr (fun _ => none)))])) : kq_B M R k n E Q pc lv (.int v :: st) L := by
  subst hk
  subst hN
  subst hn2
  subst hlen
  intro l p e s m args below meth c D cy h b H locs ls hC hE hz hP hS hl
  refine W.anew hC.1 hC.2.1 hC.2.2.2.2.2.1 (kq_hts hC w1) (va_AO.use hC.2.2.2.2.2.2.2.2.2.1) rfl hd rfl hn hb hR.1 hR.2 fun cA kA comp f1 f2 f3 f4 => ?_
  generalize hH1 : H.push ({ cls := cA, slots := Array.replicate v.toNatClampNeg .null, vm := .none } : Cell) = H1
  have z1 : H1.size = H.size + 1 := by rw [← hH1, Array.size_push]
  have e1 : H1[H.size]? = some (arrV cA v.toNatClampNeg (fun _ => .null)) := by rw [← hH1, Array.getElem?_push_size, ← arrV_new]
  have o1 : ∀ q : Nat, q < H.size → H1[q]? = H[q]? := fun q hq => by rw [← hH1, Array.getElem?_push, if_neg (Nat.ne_of_lt hq)]
  obtain ⟨kA', comp', -, -, -, g4⟩ := (hC.2.2.2.2.2.2.2.1.2 3 _ (rfl : (kv_tys cy)[3]? = some (cy 15, .object "KeptLump$Shelf"))).2
  have hcA : cA = cy 15 := Option.some.inj (f1.symm.trans g4)
  have k1 := kk l p e s m args below meth c D cy h b H1 locs ls hC hE (by rw [z1, hz, List.length_append]; rfl) (kq_push hz hP o1 (kq_one (by
    show H1[h + L.length]? = some (vp_cell (cy 15) _)
    rw [vp_cell_q, ← hcA, ← hz]
    exact e1))) (kq_grow hS (by omega) o1) hl
  have e3 : (Value.ref L.length :: st).map (kq_v h b) = Value.ref H.size :: st.map (kq_v h b) := by
    rw [List.map_cons, kq_vr ht, hz]
  rw [e3] at k1
  exact k1
theorem kq_iast {N0 j : Nat} {f : Nat → Int32} {i x : Int32} (ht : t ≠ 5000) (he : L[t]? = some (.inr (12, N0, .inl f))) (hin : vp_in i N0) (hi : i.toNatClampNeg = j) (hL : L.set t (.inr (12, N0, .inl (upd f j x))) = L') (hd : decode M.2.1 pc = .ok (.iastore, 1)) (kk : kq_B M R k n E Q (pc + 1) lv st L') : kq_B M R k n E Q pc lv (.int x :: .int i :: .ref t :: st) L := by
  subst hi
  subst hL
  intro l p e s m args below meth c D cy h b H locs ls hC hE hz hP hS hl
  show W p l e R s m args below meth c H locs k n _ (F0 m pc ls (.int x :: .int i :: kq_v h b (.ref t) :: st.map (kq_v h b)))
  rw [kq_vr ht]
  have he' := kq_at (cy := cy) (h := h) he
  refine W.iast hC.1 hC.2.1 (hP t _ he') ((hC.2.2.2.2.2.2.2.1.2 0 _ (rfl : (kv_tys cy)[0]? = some (cy 12, .int))).1 N0 (fun j => .int (f j))) (fun q => by cases q) (by show ¬ (i < 0 ∨ (arrV _ _ _).slots.size ≤ _); rw [arrV_size]; exact hin) rfl rfl hd fun H1 e1 z oq => ?_
  have hP1 := hP.set kq_D he' (e := kq_e cy h (.inr (12, N0, .inl (upd f i.toNatClampNeg x)))) (H1 := H1) (by
    show H1[h + t]? = some (vp_cell (cy 12) (N0, .inl (upd f i.toNatClampNeg x)))
    rw [e1]
    show some (Cell.setSlot (vp_cell (cy 12) (N0, .inl f)) _ _) = _
    rw [vp_cell_i, vp_cell_i, arrV_store]
    congr 2
    funext q
    by_cases hq : q = i.toNatClampNeg
    · subst hq
      simp [updV, upd]
    · simp [updV, upd, hq]) oq
  rw [kq_set] at hP1
  exact kk l p e s m args below meth c D cy h b H1 _ ls hC hE (by rw [List.length_set, z, hz]) hP1 (hS.put z oq (Nat.le_add_right h t)) hl
theorem kq_aast {N0 j tv : Nat} {f : Nat → Option Nat} {i : Int32} {vs : List Value} (ht : t ≠ 5000) (htv : tv ≠ 5000) (he : L[t]? = some (.inr (15, N0, .inr (.inr f)))) (hv : L[tv]? = some (.inl (7, vs))) (hin : vp_in i N0) (hi : i.toNatClampNeg = j) (hL : L.set t (.inr (15, N0, .inr (.inr (va_up f j (some tv))))) = L') (hd : decode M.2.1 pc = .ok (.aastore, 1)) (kk : kq_B M R k n E Q (pc + 1) lv st L') : kq_B M R k n E Q pc lv (.ref tv :: .int i :: .ref t :: st) L := by
  subst hi
  subst hL
  intro l p e s m args below meth c D cy h b H locs ls hC hE hz hP hS hl
  show W p l e R s m args below meth c H locs k n _ (F0 m pc ls (kq_v h b (.ref tv) :: .int i :: kq_v h b (.ref t) :: st.map (kq_v h b)))
  rw [kq_vr ht, kq_vr htv]
  have he' := kq_at (cy := cy) (h := h) he
  have hlt : i.toNatClampNeg < N0 := Nat.not_le.mp fun q => hin (Or.inr q)
  have h0 : ¬ i < 0 := fun q => hin (Or.inl q)
  obtain ⟨r', hr', cellV, g1, g2, g3, -⟩ := hP tv _ (kq_at hv)
  have hr7 : r' = (kv_R7, kv_T7, 8) := Option.some.inj (hr'.symm.trans rfl)
  subst hr7
  have hcls := (hC.2.2.2.2.2.2.2.1.1 7 _ (rfl : kv_cl[7]? = some (kv_R7, kv_T7, 8))).2
  obtain ⟨kA, comp, k1, k2, k3, -⟩ := (hC.2.2.2.2.2.2.2.1.2 3 _ (rfl : (kv_tys cy)[3]? = some (cy 15, .object "KeptLump$Shelf"))).2
  have hcomp : comp = D.1 7 := Option.some.inj (k3.symm.trans hcls.1)
  subst hcomp
  obtain ⟨kC, hkC, -⟩ := hcls.2
  refine W.aast hC.1 hC.2.1 (hP t _ he') (fun q h => by cases h) (fun h => by cases h) k1 k2 rfl hkC ⟨h0, by show _ < (arrV _ _ _).slots.size; rw [arrV_size]; exact hlt⟩ g1 (fun q h => by rw [g3] at h; cases h) (by rw [g2]; exact hkC) (by rw [g2]; exact va_assign hcls) rfl rfl hd fun H1 e1 z oq => ?_
  have hP1 := hP.set kq_D he' (e := kq_e cy h (.inr (15, N0, .inr (.inr (va_up f i.toNatClampNeg (some tv)))))) (H1 := H1) (by
    show H1[h + t]? = some (vp_cell (cy 15) (N0, .inr (.inr (.inr (.inr (fun q => (va_up f i.toNatClampNeg (some tv) q).map (fun r => h + r)))))))
    rw [e1]
    show some (Cell.setSlot (vp_cell (cy 15) (N0, .inr (.inr (.inr (.inr (fun q => (f q).map (fun r => h + r))))))) _ _) = _
    rw [vp_cell_q, vp_cell_q, arrV_store]
    congr 2
    funext q
    by_cases hq : q = i.toNatClampNeg
    · subst hq
      simp [updV, va_up, va_rf]
    · simp [updV, va_up, hq]) oq
  rw [kq_set] at hP1
  exact kk l p e s m args below meth c D cy h b H1 _ ls hC hE (by rw [List.length_set, z, hz]) hP1 (hS.put z oq (Nat.le_add_right h t)) hl
theorem kq_alen {N0 : Nat} {f : Nat → Int32} {v : Int32} (ht : t ≠ 5000) (he : L[t]? = some (.inr (12, N0, .inl f))) (hv : Int32.ofNat N0 = v) (hd : decode M.2.1 pc = .ok (.arraylength, 1)) (kk : kq_B M R k n E Q (pc + 1) lv (.int v :: st) L) : kq_B M R k n E Q pc lv (.ref t :: st) L := by
  intro l p e s m args below meth c D cy h b H locs ls hC hE hz hP hS hl
  show W p l e R s m args below meth c H locs k n _ (F0 m pc ls (kq_v h b (.ref t) :: st.map (kq_v h b)))
  rw [kq_vr ht]
  exact va_alen hC.1 hC.2.1 hC.2.2.2.2.2.2.2.1 hP t 0 (x := (N0, .inl f)) (kq_at he) (rfl : (kv_tys cy)[0]? = some (cy 12, .int)) hv hd (kk l p e s m args below meth c D cy h b H locs ls hC hE hz hP hS hl)
/-! contracts of what makes -/
def kq_rm (d mc ms : Nat) : Room := { frames := d, cells := mc, slots := ms, locals := 64 * d }
def kq_Pc (D : va_G) (cy : Nat → ClassId) (h : Nat) (e0 : kq_c) (U : State) : Prop := U.heap.size = h + 1 ∧ va_P D kv_cl (kq_w cy h [e0]) U.heap ∧ va_K D kv_cl (kv_tys cy) U ∧ kv_nw U ∧ kq_ao U
def kq_Qc (D : va_G) (cy : Nat → ClassId) (h : Nat) (LE : List kq_c) : Array Value → State → Outcome → State → Prop := fun _ st oc t => (oc = .returned none ∧ t.heap.size = h + LE.length ∧ va_P D kv_cl (kq_w cy h LE) t.heap) ∧ va_F (fun q => h ≤ q) st t
def kq_C (M : kv_MI) (d mc ms : Nat) (as : List Value) (e0 : kq_c) (LE : List kq_c) : Prop :=
  ∀ (l : Launch) (D : va_G) (cy : Nat → ClassId) (h b : Nat), Met l M.1 (kv_ws M) (kq_rm d mc ms) (va_Pc (as.map (kq_v h b)) (kq_Pc D cy h e0)) (kq_Qc D cy h LE) mc ms (fun q => h ≤ q)
theorem kq_blind (D : va_G) (cy : Nat → ClassId) (h : Nat) (as : List Value) (e0 : kq_c) : FrameBlind (va_Pc as (kq_Pc D cy h e0)) := fun a U g mk q => by
  obtain ⟨q0, q1, qP, qK, qN, qA⟩ := q
  exact ⟨q0, q1, qP, va_K.moved (u := U) (U := U.calling g mk a) (Vm.Alike.refl U.vm) qK, kv_nw.same (s := U) (U := U.calling g mk a) rfl qN, va_AO.moved (u := U) (U := U.calling g mk a) (Vm.Alike.refl U.vm) qA⟩
def kq_E0 : kq_Ep := fun _ _ _ _ _ _ _ _ _ _ _ _ _ => True
def kq_Q0 (mc ms : Nat) (LE : List kq_c) : kq_Qp := fun _ _ _ s _ args below _ _ D cy h _ => MQ below (kq_Qc D cy h LE) args s mc ms (fun q => h ≤ q)
theorem kq_entry {d mc ms : Nat} {as : List Value} {e0 : kq_c} {LE : List kq_c} (hy : plainName M.1.cls = true) (hn : (lg_sl as).length ≤ M.2.2.1) (hB : kq_B M (kq_rm d mc ms) 0 0 kq_E0 (kq_Q0 mc ms LE) 0 (lv_args 0 as) [] [e0]) : kq_C M d mc ms as e0 LE := by
  intro l D cy h b
  refine Met.ofW (cc := M.2.1) (maxL := M.2.2.1) (ret := M.2.2.2) hy rfl ?_
  intro p e s m args below meth c s₁ B hml hv
  obtain ⟨rfl, hsz, hP, hK, hN0, hA0⟩ := hv
  have hts := atoms_spec (ws := kv_ws M) B.pre
  have hl := lv_entry (as.map (kq_v h b)) (n := M.2.2.1) (by rw [kq_lg_sl]; exact hn)
  rw [kq_lv_args] at hl
  rw [lg_entry_eq]
  exact hB l p e s m _ below meth c D cy h b s.heap [] _ ⟨B.exec, B.bytes, hml, B.returns, B.notSynchronized, findClass_of_methodNamed B.named, fun v hv => hts v (List.mem_cons_of_mem _ hv), hK, hN0, hA0, fun q => (name_of_methodNamed B.named B.method).1.trans q, by omega⟩ trivial hsz hP va_S.rf hl
theorem kq_vret {mc ms : Nat} {LE : List kq_c} (hk : k = mc) (hn : n = ms) (hr : M.2.2.2 = none) (hd : decode M.2.1 pc = .ok (.return_, 1)) (hL : L = LE) : kq_B M R k n E (kq_Q0 mc ms LE) pc lv [] L := by
  subst hk
  subst hn
  subst hL
  intro l p e s m args below meth c D cy h b H locs ls hC hE hz hP hS hl
  exact W.vret hC.1 hC.2.1 (hC.2.2.2.1.trans hr) (fun u hu hW => ⟨⟨rfl, by rw [hu]; exact hz, by rw [hu]; exact hP⟩, hS.F hu⟩) hS.2.2 hd hC.2.2.2.2.1
theorem kq_after {mc ms : Nat} {LE L0 : List kq_c} {e0 : kq_c} {p : Program} {l : Launch} {e : Env} {s : State} {m : MethodId} {args args2 : Array Value} {below : List Frame} {meth : Method} {c : Code} {D : va_G} {cy : Nat → ClassId} {h b : Nat} {H : Heap} {locs : List Loc} {ls : Array Slot} {st0 : List Value}
    (hC : kq_Cx M p s m args meth c D cy h) (hE : E l p e s m args below meth c D cy h b) (hz : H.size = h + (L0.length + 1)) (hP : va_P D kv_cl (kq_w cy h (L0 ++ [e0])) H) (hS : va_S (fun q => h ≤ q) s.heap H locs) (hl : lv_has ls M.2.2.1 (lv.map (fun q => (q.1, kq_v h b q.2))))
    (hr : va_Run p l e R s m args below meth c H locs k n mc ms (F0 m pc ls st0) (st.map (kq_v h b)) (kq_Qc D cy (h + L0.length) LE args2) (fun q => h + L0.length ≤ q))
    (kk : kq_B M R (k + mc) (n + ms) E Q (pc + 3) lv st (L0 ++ LE.map (kq_sh L0.length))) : W p l e R s m args below meth c H locs k n (Q l p e s m args below meth c D cy h b) (F0 m pc ls st0) := by
  intro T hT X
  obtain ⟨v, st₀, t, T', Lc, h0, X', hLc, e1, e2, ⟨⟨hv, hz2, hp⟩, hz3, hk2⟩, stp⟩ := hr T hT X
  cases hv
  rw [h0] at hz3 hk2
  have hP0 : va_P D kv_cl (kq_w cy h L0) H := by
    intro i q hq
    obtain ⟨e9, h9, rfl⟩ := kq_inv hq
    have hl9 : i < L0.length := (List.getElem?_eq_some_iff.mp h9).1
    exact hP i _ (kq_at (by rw [List.getElem?_append_left hl9]; exact h9))
  have hPn := kq_joinP (LE := LE) rfl (by omega) hP0 hk2 hp
  rw [← e1] at hPn hz2
  have hS' : va_S (fun q => h ≤ q) s.heap T'.heap (locs ++ Lc) := ⟨Nat.le_trans hS.1 (by rw [e1]; exact hz3), fun q h1 h2 => by rw [e1, hk2 q (Nat.lt_of_lt_of_le h1 hS.1) (fun z => h2 (by show h ≤ q; omega))]; exact hS.2.1 q h1 h2, fun q hq => by
      rcases List.mem_append.mp hq with h9 | h9
      · exact hS.2.2 q h9
      · have := hLc q h9
        show h ≤ q.base
        have h8 : h + L0.length ≤ q.base := this
        omega⟩
  obtain ⟨t2, a1, b1⟩ := kk l p e s m args below meth c D cy h b T'.heap (locs ++ Lc) ls hC hE (by rw [hz2, List.length_append, List.length_map]; omega) hPn hS' hl T' rfl X'
  exact ⟨t2, stp t2 a1, b1⟩
def kq_ok (N : kv_MI) (nn : Nat) : Prop := Cond.initialized N.1.cls ∈ kv_gw ∧ Cond.code N.1 N.2.1 N.2.2.1 N.2.2.2 ∈ kv_gw ∧ (N.1.cls ≠ "java/lang/invoke/MethodHandle" ∧ N.1.cls ≠ "java/lang/invoke/VarHandle") ∧ (parseMethodDescriptor N.1.desc).map (fun d => d.parameters.length) = some nn ∧ N.2.2.1 ≤ 40
def kq_room (R : Room) (k n d mc ms k2 n2 : Nat) : Prop := d + 1 ≤ R.frames ∧ 64 * (d + 1) ≤ R.locals ∧ k + mc = k2 ∧ n + ms = n2 ∧ k2 ≤ R.cells ∧ n2 ≤ R.slots
theorem kq_callB {d mc ms k2 n2 nn : Nat} {p : Program} {s : State} {m : MethodId} {args : Array Value} {meth : Method} {c : Code} {D : va_G} {cy : Nat → ClassId} {h : Nat} (hC : kq_Cx M p s m args meth c D cy h) (hok : kq_ok N nn) (hR : kq_room R k n d mc ms k2 n2) :
    ((kq_rm d mc ms).cells = mc ∧ (kq_rm d mc ms).slots = ms ∧ (kq_rm d mc ms).frames + 1 ≤ R.frames ∧ 8 + (N.2.2.1 + 11) + (kq_rm d mc ms).locals ≤ R.locals ∧ (∀ w ∈ kv_ws N, ∀ (a' : Array Value) (U : State), s.WarmedH U.vm → w.before a' U = true) ∧ Cond.code N.1 N.2.1 N.2.2.1 N.2.2.2 ∈ kv_ws N) ∧
    (Cond.code N.1 N.2.1 N.2.2.1 N.2.2.2).before args s = true ∧ (Cond.initialized N.1.cls).before args s = true ∧ (N.1.cls ≠ "java/lang/invoke/MethodHandle" ∧ N.1.cls ≠ "java/lang/invoke/VarHandle") ∧ (∀ sig, parseMethodDescriptor N.1.desc = some sig → nn = sig.parameters.length) := by
  refine ⟨⟨rfl, rfl, hR.1, ?_, ?_, List.mem_cons_self⟩, kq_hts hC hok.2.1, kq_hts hC hok.1, hok.2.2.1, ?_⟩
  · have h1 := hok.2.2.2.2
    have h2 := hR.2.1
    show 8 + (N.2.2.1 + 11) + 64 * d ≤ R.locals
    omega
  · intro w hw a' U hU
    have hg : w ∈ kv_gw := by
      rcases List.mem_cons.mp hw with h9 | h9
      · rw [h9]; exact hok.2.1
      · exact h9
    exact word_at hU (kv_gw_good hg) (kq_hts hC hg)
  · intro sig hs
    have hp := hok.2.2.2.1
    rw [hs] at hp
    exact (Option.some.inj hp).symm
theorem kq_pre {p : Program} {s : State} {m : MethodId} {args : Array Value} {meth : Method} {c : Code} {D : va_G} {cy : Nat → ClassId} {h : Nat} {H : Heap} {L0 : List kq_c} {e0 : kq_c} (hC : kq_Cx M p s m args meth c D cy h) (hz : H.size = h + (L0.length + 1)) (hP : va_P D kv_cl (kq_w cy h (L0 ++ [e0])) H) (hsh : kq_sh L0.length e0 = e0) {As : List Value} : ∀ U : State, U.heap = H → s.WarmedH U.vm → va_Pc As (kq_Pc D cy (h + L0.length) e0) As.toArray U := by
  intro U hU hW
  refine ⟨rfl, by rw [hU, hz]; omega, ?_, va_K.moved hW.alike hC.2.2.2.2.2.2.2.1, kv_nw.warm hW hC.2.2.2.2.2.2.2.2.1, va_AO.moved hW.alike hC.2.2.2.2.2.2.2.2.2.1⟩
  intro i q hq
  obtain ⟨e9, h9, rfl⟩ := kq_inv hq
  have h1 : i < 1 := (List.getElem?_eq_some_iff.mp h9).1
  have h2 : i = 0 := by omega
  subst h2
  cases h9
  have h3 := hP L0.length _ (kq_at (by rw [List.getElem?_append_right (Nat.le_refl _), Nat.sub_self]; rfl))
  rw [hU]
  rw [← kq_she, hsh]
  exact h3
theorem kq_callI {d mc ms k2 n2 : Nat} {LE L0 : List kq_c} {e0 : kq_c} (hok : kq_ok N 0) (hin : Cond.instanceMethod N.1 ∈ kv_gw) (hni : N.1.name = "<init>") (hret : N.2.2.2 = none) (hl0 : Cond.methodLink M.1.cls idx N.1 ∈ kv_gw) (hst : (st.map fun v => v.category).sum ≤ 8) (hd : decode M.2.1 pc = .ok (.invokespecial idx, 3)) (hR : kq_room R k n d mc ms k2 n2) (hL : L = L0 ++ [e0]) (hlen : L0.length = t) (ht : t ≠ 5000) (hsh : kq_sh t e0 = e0) (hN : kq_C N d mc ms [.ref 0] e0 LE) (hL' : L0 ++ LE.map (kq_sh t) = L') (kk : kq_B M R k2 n2 E Q (pc + 3) lv st L') : kq_B M R k n E Q pc lv (.ref t :: st) L := by
  subst hL
  subst hlen
  subst hL'
  obtain ⟨hR1, hR2, rfl, rfl, hR5, hR6⟩ := id hR
  intro l p e s m args below meth c D cy h b H locs ls hC hE hz hP hS hl
  rw [List.length_append] at hz
  have hcb := kq_callB (d := d) hC hok hR
  have hw := hok.2.1
  obtain ⟨⟨Nn, Nc, Nd⟩, Nb, Nl, Nr⟩ := N
  cases hret
  have hrun := va_runI (As := []) (b := h + L0.length) (rest := st.map (kq_v h b)) (H := H) (g := F0 m pc ls ((.ref L0.length :: st).map (kq_v h b))) (l := l) (e := e) (below := below) (meth := meth) (locs := locs) (cells := k) (slots := n) ⟨hC.1, hC.2.1, hC.2.2.1, hC.2.2.2.2.2.1, hC.2.2.2.2.2.2.1⟩ (hN l D cy (h + L0.length) b) ⟨⟨hcb.1.1, hcb.1.2.1, hcb.1.2.2.1, hcb.1.2.2.2.1, hcb.1.2.2.2.2.1, hcb.1.2.2.2.2.2, hcb.2.1, hcb.2.2.1, hcb.2.2.2.1, hcb.2.2.2.2, kq_hts hC hl0⟩, hni, kq_hts hC hin⟩ ⟨kq_blind _ _ _ _ _, kq_pre hC hz hP hsh⟩ rfl rfl hl.1 (by rw [List.map_cons, kq_vr ht]; rfl) (lv_room (kq_sum8 hst)) hd ⟨hR5, hR6⟩
  exact kq_after hC hE hz hP hS hl hrun kk
theorem kq_callIN {host : String} {d mc ms k2 n2 : Nat} {LE L0 : List kq_c} {e0 : kq_c} (hok : kq_ok N 0) (hin : Cond.instanceMethod N.1 ∈ kv_gw) (hni : N.1.name = "<init>") (hret : N.2.2.2 = none) (hl0 : Cond.methodLinkNest M.1.cls idx N.1 host ∈ lw_tbl) (hst : (st.map fun v => v.category).sum ≤ 8) (hd : decode M.2.1 pc = .ok (.invokespecial idx, 3)) (hR : kq_room R k n d mc ms k2 n2) (hL : L = L0 ++ [e0]) (hlen : L0.length = t) (ht : t ≠ 5000) (hsh : kq_sh t e0 = e0) (hN : kq_C N d mc ms [.ref 0] e0 LE) (hL' : L0 ++ LE.map (kq_sh t) = L') (kk : kq_B M R k2 n2 E Q (pc + 3) lv st L') : kq_B M R k n E Q pc lv (.ref t :: st) L := by
  subst hL
  subst hlen
  subst hL'
  obtain ⟨hR1, hR2, rfl, rfl, hR5, hR6⟩ := id hR
  intro l p e s m args below meth c D cy h b H locs ls hC hE hz hP hS hl
  rw [List.length_append] at hz
  have hcb := kq_callB (d := d) hC hok hR
  obtain ⟨⟨Nn, Nc, Nd⟩, Nb, Nl, Nr⟩ := N
  cases hret
  have hrun := va_runIN (As := []) (b := h + L0.length) (rest := st.map (kq_v h b)) (H := H) (g := F0 m pc ls ((.ref L0.length :: st).map (kq_v h b))) (l := l) (e := e) (below := below) (meth := meth) (locs := locs) (cells := k) (slots := n) ⟨hC.1, hC.2.1, hC.2.2.1, hC.2.2.2.2.2.1, hC.2.2.2.2.2.2.1⟩ (hN l D cy (h + L0.length) b) ⟨⟨⟨hcb.1.1, hcb.1.2.1, hcb.1.2.2.1, hcb.1.2.2.2.1, hcb.1.2.2.2.2.1, hcb.1.2.2.2.2.2⟩, hcb.2.1, hcb.2.2.1, hcb.2.2.2.1, hcb.2.2.2.2, (hC.2.2.2.2.2.2.2.2.1 _ _ _ _ hl0).use rfl⟩, hni, kq_hts hC hin⟩ ⟨kq_blind _ _ _ _ _, kq_pre hC hz hP hsh⟩ rfl rfl hl.1 (by rw [List.map_cons, kq_vr ht]; rfl) (lv_room (kq_sum8 hst)) hd ⟨hR5, hR6⟩
  exact kq_after hC hE hz hP hS hl hrun kk
theorem kq_callF {d mc ms k2 n2 : Nat} {x : Int32} {LE L0 : List kq_c} {e0 : kq_c} (hok : kq_ok N 2) (hin : Cond.static N.1 ∈ kv_gw) (hl0 : Cond.methodLink M.1.cls idx N.1 ∈ kv_gw) (hst : (st.map fun v => v.category).sum ≤ 8) (hd : decode M.2.1 pc = .ok (.invokestatic idx, 3)) (hR : kq_room R k n d mc ms k2 n2) (hL : L = L0 ++ [e0]) (hlen : L0.length = t) (ht : t ≠ 5000) (hsh : kq_sh t e0 = e0) (hN : kq_C N d mc ms [.ref 0, .int x] e0 LE) (hL' : L0 ++ LE.map (kq_sh t) = L') (kk : kq_B M R k2 n2 E Q (pc + 3) lv st L') : kq_B M R k n E Q pc lv (.int x :: .ref t :: st) L := by
  subst hL
  subst hlen
  subst hL'
  obtain ⟨hR1, hR2, rfl, rfl, hR5, hR6⟩ := id hR
  intro l p e s m args below meth c D cy h b H locs ls hC hE hz hP hS hl
  rw [List.length_append] at hz
  have hcb := kq_callB (d := d) hC hok hR
  have hrun := va_runS (As := [.ref (h + L0.length), .int x]) (rest := st.map (kq_v h b)) (H := H) (g := F0 m pc ls ((.int x :: .ref L0.length :: st).map (kq_v h b))) (l := l) (e := e) (below := below) (meth := meth) (locs := locs) (cells := k) (slots := n) ⟨hC.1, hC.2.1, hC.2.2.1, hC.2.2.2.2.2.1, hC.2.2.2.2.2.2.1⟩ (hN l D cy (h + L0.length) b) ⟨⟨hcb.1.1, hcb.1.2.1, hcb.1.2.2.1, hcb.1.2.2.2.1, hcb.1.2.2.2.2.1, hcb.1.2.2.2.2.2, hcb.2.1, hcb.2.2.1, hcb.2.2.2.1, hcb.2.2.2.2, kq_hts hC hl0⟩, kq_hts hC hin⟩ ⟨kq_blind _ _ _ _ _, kq_pre hC hz hP hsh⟩ rfl rfl hl.1 (by rw [List.map_cons, List.map_cons, kq_vr ht]; rfl) (lv_room (kq_sum8 hst)) hd ⟨hR5, hR6⟩
  exact kq_after hC hE hz hP hS hl hrun kk
end KQ
