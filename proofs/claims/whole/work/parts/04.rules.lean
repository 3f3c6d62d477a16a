/-! ===== the rules ===== -/
def kv_in (i : Int32) (n : Nat) : Bool := decide (0 ≤ i.toInt) && decide (i.toInt < (n : Int))
theorem kv_in_vp {i : Int32} {n : Nat} (h : kv_in i n = true) : vp_in i n := by
  rw [vp_in_iff]
  simpa [kv_in] using h
def kv_cp (sp dp n : Int32) (n0 n1 : Nat) : Bool := decide (0 ≤ sp.toInt) && (decide (0 ≤ dp.toInt) && (decide (0 ≤ n.toInt) && (decide (sp.toNatClampNeg + n.toNatClampNeg ≤ n0) && decide (dp.toNatClampNeg + n.toNatClampNeg ≤ n1))))
def kv_bits (f : Nat → Int32) (sp n : Nat) : Bool := (List.range n).all (fun j => f (sp + j) == 0 || f (sp + j) == 1)
def kv_stl (lv : List (Nat × Value)) (i : Nat) (v : Value) : List (Nat × Value) := (i, v) :: lv.filter (fun q => !(q.1 == i) && !(q.1 + 1 == i && q.2.category == 2))
def kv_stl2 (lv : List (Nat × Value)) (i : Nat) (v : Value) : List (Nat × Value) := (i, v) :: lv.filter (fun q => !(q.1 == i) && (!(q.1 == i + 1) && !(q.1 + 1 == i && q.2.category == 2)))
theorem kv_cat (ad : Nat → Nat) (v : Value) : (kv_cv ad v).category = v.category := by cases v <;> rfl
theorem kv_stl_map (ad : Nat → Nat) (lv : List (Nat × Value)) (i : Nat) (v : Value) : (i, kv_cv ad v) :: (lv.map (fun q => (q.1, kv_cv ad q.2))).filter (fun q => !(q.1 == i) && !(q.1 + 1 == i && q.2.category == 2)) = (kv_stl lv i v).map (fun q => (q.1, kv_cv ad q.2)) := by
  unfold kv_stl
  rw [List.map_cons, List.filter_map]
  congr 1
  congr 1
  apply List.filter_congr
  intro q _
  simp [kv_cat]
theorem kv_stl2_map (ad : Nat → Nat) (lv : List (Nat × Value)) (i : Nat) (v : Value) : (i, kv_cv ad v) :: (lv.map (fun q => (q.1, kv_cv ad q.2))).filter (fun q => !(q.1 == i) && (!(q.1 == i + 1) && !(q.1 + 1 == i && q.2.category == 2))) = (kv_stl2 lv i v).map (fun q => (q.1, kv_cv ad q.2)) := by
  unfold kv_stl2
  rw [List.map_cons, List.filter_map]
  congr 1
  congr 1
  apply List.filter_congr
  intro q _
  simp [kv_cat]
def kv_bind1 {α β : Type} (x : Option α) (K : α → Option β) : Option β := x.bind K
def kv_bind2 {α β γ : Type} (x : Option (α × β)) (K : α → β → Option γ) : Option γ := x.bind (fun a => K a.1 a.2)
def kv_bind3 {α β γ δ : Type} (x : Option (α × β × γ)) (K : α → β → γ → Option δ) : Option δ := x.bind (fun a => K a.1 a.2.1 a.2.2)
/-- a class's number, name, table -/
def kv_okc (ci : Nat) (C : String) (T : u_T) (N : Nat) (ty : Nat → FieldType) : Prop := (∀ w ∈ u_ws C T N, w ∈ kv_gw) ∧ kv_cl[ci]? = some (C, T, N) ∧ kv_nf ci = N ∧ ci < 12 ∧ (∀ k, k < N → parseFieldDescriptor (T k).2.2.1 = some (ty k)) ∧ (∀ a, a < N → ∀ b, b < N → a ≠ b → (T a).2.1 ≠ (T b).2.1)
/-- a field that a class's constant names: the class's number, the field's place, whether it may be written -/
def kv_fl (own : String) (idx ci k : Nat) (fin : Bool) (t : FieldType) : Prop := ∃ (C : String) (T : u_T) (N : Nat) (ty : Nat → FieldType), kv_okc ci C T N ty ∧ k < N ∧ Cond.fieldLink own idx (T k).1 (T k).2.1 (T k).2.2.1 ∈ kv_gw ∧ (T k).2.2.2 = fin ∧ ty k = t
def kv_okV (M : kv_MI) (n : Nat) : Prop := Cond.instanceMethod M.1 ∈ kv_gw ∧ Cond.selects M.1.cls M.1 M.1 ∈ kv_gw ∧ Cond.initialized M.1.cls ∈ kv_gw ∧ Cond.code M.1 M.2.1 M.2.2.1 M.2.2.2 ∈ kv_gw ∧ (M.1.cls ≠ "java/lang/invoke/MethodHandle" ∧ M.1.cls ≠ "java/lang/invoke/VarHandle") ∧ (parseMethodDescriptor M.1.desc).map (fun d => d.parameters.length) = some n ∧ M.2.2.1 ≤ 40
def kv_okS (M : kv_MI) (n : Nat) : Prop := Cond.static M.1 ∈ kv_gw ∧ Cond.initialized M.1.cls ∈ kv_gw ∧ Cond.code M.1 M.2.1 M.2.2.1 M.2.2.2 ∈ kv_gw ∧ (M.1.cls ≠ "java/lang/invoke/MethodHandle" ∧ M.1.cls ≠ "java/lang/invoke/VarHandle") ∧ (parseMethodDescriptor M.1.desc).map (fun d => d.parameters.length) = some n ∧ M.2.2.1 ≤ 40
theorem kv_gw_good {w : Cond} (h : w ∈ kv_gw) : (w.onTables && w.keeps) = true ∨ ∃ ty, w = .arrayClass ty := good_of_word (List.mem_filter.mp h).2
section KV
variable {α : Type} {M : kv_MI} {d : Nat} {o : Option Value × kv_W} {P : α → Prop} {x : Option α} {pc : Nat} {lv : List (Nat × Value)} {st : List Value} {w : kv_W}
theorem kv_hts {p : Program} {s : State} {m : MethodId} {args : Array Value} {meth : Method} {c : Code} {D : va_G} {cy : Nat → ClassId} {ad : Nat → Nat} {A : Nat → Prop} (hC : kv_Cx M p s m args meth c D cy ad A) {v : Cond} (h : v ∈ kv_gw) : v.before args s = true := hC.2.2.2.2.2.2.1 v (List.mem_cons_of_mem _ h)

theorem kv_iconst {n : Int} {v : Int32} (hd : decode M.2.1 pc = .ok (.iconst n, 1)) (hv : Int32.ofInt n = v) (k : kv_X M d o P x (pc + 1) lv (.int v :: st) w) : kv_X M d o P x pc lv (st) w := by
  intro z hz hp l p e s m args below meth c D cy ad A H locs ls hC hP hS hl
  exact lv_iconst hC.1 hC.2.1 hd hv (k z hz hp l p e s m args below meth c D cy ad A H locs ls hC hP hS hl)
theorem kv_bipush {n : Int} {v : Int32} (hd : decode M.2.1 pc = .ok (.bipush n, 2)) (hv : (Int8.ofInt n).toInt32 = v) (k : kv_X M d o P x (pc + 2) lv (.int v :: st) w) : kv_X M d o P x pc lv (st) w := by
  intro z hz hp l p e s m args below meth c D cy ad A H locs ls hC hP hS hl
  exact lv_bipush hC.1 hC.2.1 hd hv (k z hz hp l p e s m args below meth c D cy ad A H locs ls hC hP hS hl)
theorem kv_sipush {n : Int} {v : Int32} (hd : decode M.2.1 pc = .ok (.sipush n, 3)) (hv : (Int16.ofInt n).toInt32 = v) (k : kv_X M d o P x (pc + 3) lv (.int v :: st) w) : kv_X M d o P x pc lv (st) w := by
  intro z hz hp l p e s m args below meth c D cy ad A H locs ls hC hP hS hl
  exact lv_sipush hC.1 hC.2.1 hd hv (k z hz hp l p e s m args below meth c D cy ad A H locs ls hC hP hS hl)
theorem kv_lconst {n : Fin 2} {v : Int64} (hd : decode M.2.1 pc = .ok (.lconst n, 1)) (hv : Int64.ofNat (n : Nat) = v) (k : kv_X M d o P x (pc + 1) lv (.long v :: st) w) : kv_X M d o P x pc lv (st) w := by
  intro z hz hp l p e s m args below meth c D cy ad A H locs ls hC hP hS hl
  exact lv_lconst hC.1 hC.2.1 hd hv (k z hz hp l p e s m args below meth c D cy ad A H locs ls hC hP hS hl)
theorem kv_iadd {a b : Int32} (hd : decode M.2.1 pc = .ok (.iadd, 1))  (k : kv_X M d o P x (pc + 1) lv (.int (a + b) :: st) w) : kv_X M d o P x pc lv (.int b :: .int a :: st) w := by
  intro z hz hp l p e s m args below meth c D cy ad A H locs ls hC hP hS hl
  exact lv_iadd hC.1 hC.2.1 hd  (k z hz hp l p e s m args below meth c D cy ad A H locs ls hC hP hS hl)
theorem kv_isub {a b : Int32} (hd : decode M.2.1 pc = .ok (.isub, 1))  (k : kv_X M d o P x (pc + 1) lv (.int (a - b) :: st) w) : kv_X M d o P x pc lv (.int b :: .int a :: st) w := by
  intro z hz hp l p e s m args below meth c D cy ad A H locs ls hC hP hS hl
  exact lv_isub hC.1 hC.2.1 hd  (k z hz hp l p e s m args below meth c D cy ad A H locs ls hC hP hS hl)
theorem kv_imul {a b : Int32} (hd : decode M.2.1 pc = .ok (.imul, 1))  (k : kv_X M d o P x (pc + 1) lv (.int (a * b) :: st) w) : kv_X M d o P x pc lv (.int b :: .int a :: st) w := by
  intro z hz hp l p e s m args below meth c D cy ad A H locs ls hC hP hS hl
  exact lv_imul hC.1 hC.2.1 hd  (k z hz hp l p e s m args below meth c D cy ad A H locs ls hC hP hS hl)
theorem kv_iand {a b : Int32} (hd : decode M.2.1 pc = .ok (.iand, 1))  (k : kv_X M d o P x (pc + 1) lv (.int (a &&& b) :: st) w) : kv_X M d o P x pc lv (.int b :: .int a :: st) w := by
  intro z hz hp l p e s m args below meth c D cy ad A H locs ls hC hP hS hl
  exact lv_iand hC.1 hC.2.1 hd  (k z hz hp l p e s m args below meth c D cy ad A H locs ls hC hP hS hl)
theorem kv_ior {a b : Int32} (hd : decode M.2.1 pc = .ok (.ior, 1))  (k : kv_X M d o P x (pc + 1) lv (.int (a ||| b) :: st) w) : kv_X M d o P x pc lv (.int b :: .int a :: st) w := by
  intro z hz hp l p e s m args below meth c D cy ad A H locs ls hC hP hS hl
  exact lv_ior hC.1 hC.2.1 hd  (k z hz hp l p e s m args below meth c D cy ad A H locs ls hC hP hS hl)
theorem kv_ishl {a b : Int32} (hd : decode M.2.1 pc = .ok (.ishl, 1))  (k : kv_X M d o P x (pc + 1) lv (.int (a <<< (b &&& 31)) :: st) w) : kv_X M d o P x pc lv (.int b :: .int a :: st) w := by
  intro z hz hp l p e s m args below meth c D cy ad A H locs ls hC hP hS hl
  exact lv_ishl hC.1 hC.2.1 hd  (k z hz hp l p e s m args below meth c D cy ad A H locs ls hC hP hS hl)
theorem kv_ishr {a b : Int32} (hd : decode M.2.1 pc = .ok (.ishr, 1))  (k : kv_X M d o P x (pc + 1) lv (.int (a >>> (b &&& 31)) :: st) w) : kv_X M d o P x pc lv (.int b :: .int a :: st) w := by
  intro z hz hp l p e s m args below meth c D cy ad A H locs ls hC hP hS hl
  exact lv_ishr hC.1 hC.2.1 hd  (k z hz hp l p e s m args below meth c D cy ad A H locs ls hC hP hS hl)
theorem kv_iushr {a b : Int32} (hd : decode M.2.1 pc = .ok (.iushr, 1))  (k : kv_X M d o P x (pc + 1) lv (.int ((a.toUInt32 >>> (b.toUInt32 &&& Int32.toUInt32 31)).toInt32) :: st) w) : kv_X M d o P x pc lv (.int b :: .int a :: st) w := by
  intro z hz hp l p e s m args below meth c D cy ad A H locs ls hC hP hS hl
  exact lv_iushr hC.1 hC.2.1 hd rfl (k z hz hp l p e s m args below meth c D cy ad A H locs ls hC hP hS hl)
theorem kv_ladd {a b : Int64} (hd : decode M.2.1 pc = .ok (.ladd, 1))  (k : kv_X M d o P x (pc + 1) lv (.long (a + b) :: st) w) : kv_X M d o P x pc lv (.long b :: .long a :: st) w := by
  intro z hz hp l p e s m args below meth c D cy ad A H locs ls hC hP hS hl
  exact lv_ladd hC.1 hC.2.1 hd  (k z hz hp l p e s m args below meth c D cy ad A H locs ls hC hP hS hl)
theorem kv_lsub {a b : Int64} (hd : decode M.2.1 pc = .ok (.lsub, 1))  (k : kv_X M d o P x (pc + 1) lv (.long (a - b) :: st) w) : kv_X M d o P x pc lv (.long b :: .long a :: st) w := by
  intro z hz hp l p e s m args below meth c D cy ad A H locs ls hC hP hS hl
  exact lv_lsub hC.1 hC.2.1 hd  (k z hz hp l p e s m args below meth c D cy ad A H locs ls hC hP hS hl)
theorem kv_lmul {a b : Int64} (hd : decode M.2.1 pc = .ok (.lmul, 1))  (k : kv_X M d o P x (pc + 1) lv (.long (a * b) :: st) w) : kv_X M d o P x pc lv (.long b :: .long a :: st) w := by
  intro z hz hp l p e s m args below meth c D cy ad A H locs ls hC hP hS hl
  exact lv_lmul hC.1 hC.2.1 hd  (k z hz hp l p e s m args below meth c D cy ad A H locs ls hC hP hS hl)
theorem kv_ineg {a : Int32} (hd : decode M.2.1 pc = .ok (.ineg, 1))  (k : kv_X M d o P x (pc + 1) lv (.int (-a) :: st) w) : kv_X M d o P x pc lv (.int a :: st) w := by
  intro z hz hp l p e s m args below meth c D cy ad A H locs ls hC hP hS hl
  exact lv_ineg hC.1 hC.2.1 hd  (k z hz hp l p e s m args below meth c D cy ad A H locs ls hC hP hS hl)
theorem kv_lneg {a : Int64} (hd : decode M.2.1 pc = .ok (.lneg, 1))  (k : kv_X M d o P x (pc + 1) lv (.long (-a) :: st) w) : kv_X M d o P x pc lv (.long a :: st) w := by
  intro z hz hp l p e s m args below meth c D cy ad A H locs ls hC hP hS hl
  exact lv_lneg hC.1 hC.2.1 hd  (k z hz hp l p e s m args below meth c D cy ad A H locs ls hC hP hS hl)
theorem kv_i2l {a : Int32} (hd : decode M.2.1 pc = .ok (.i2l, 1))  (k : kv_X M d o P x (pc + 1) lv (.long a.toInt64 :: st) w) : kv_X M d o P x pc lv (.int a :: st) w := by
  intro z hz hp l p e s m args below meth c D cy ad A H locs ls hC hP hS hl
  exact lv_i2l hC.1 hC.2.1 hd rfl (k z hz hp l p e s m args below meth c D cy ad A H locs ls hC hP hS hl)
theorem kv_l2i {a : Int64} (hd : decode M.2.1 pc = .ok (.l2i, 1))  (k : kv_X M d o P x (pc + 1) lv (.int a.toInt32 :: st) w) : kv_X M d o P x pc lv (.long a :: st) w := by
  intro z hz hp l p e s m args below meth c D cy ad A H locs ls hC hP hS hl
  exact lv_l2i hC.1 hC.2.1 hd rfl (k z hz hp l p e s m args below meth c D cy ad A H locs ls hC hP hS hl)
theorem kv_i2b {a : Int32} (hd : decode M.2.1 pc = .ok (.i2b, 1))  (k : kv_X M d o P x (pc + 1) lv (.int a.toInt8.toInt32 :: st) w) : kv_X M d o P x pc lv (.int a :: st) w := by
  intro z hz hp l p e s m args below meth c D cy ad A H locs ls hC hP hS hl
  exact lv_i2b hC.1 hC.2.1 hd rfl (k z hz hp l p e s m args below meth c D cy ad A H locs ls hC hP hS hl)
theorem kv_i2s {a : Int32} (hd : decode M.2.1 pc = .ok (.i2s, 1))  (k : kv_X M d o P x (pc + 1) lv (.int a.toInt16.toInt32 :: st) w) : kv_X M d o P x pc lv (.int a :: st) w := by
  intro z hz hp l p e s m args below meth c D cy ad A H locs ls hC hP hS hl
  exact lv_i2s hC.1 hC.2.1 hd rfl (k z hz hp l p e s m args below meth c D cy ad A H locs ls hC hP hS hl)
theorem kv_idiv {a b : Int32} (hd : decode M.2.1 pc = .ok (.idiv, 1)) (hne : ¬ b = 0) (k : kv_X M d o P x (pc + 1) lv (.int (a / b) :: st) w) : kv_X M d o P x pc lv (.int b :: .int a :: st) w := by
  intro z hz hp l p e s m args below meth c D cy ad A H locs ls hC hP hS hl
  exact lv_idiv hC.1 hC.2.1 hd hne (k z hz hp l p e s m args below meth c D cy ad A H locs ls hC hP hS hl)
theorem kv_idivG {a b : Int32} {A : Option α} (hd : decode M.2.1 pc = .ok (.idiv, 1)) (k : kv_X M d o P A (pc + 1) lv (.int (a / b) :: st) w) : kv_X M d o P (if b = 0 then none else A) pc lv (.int b :: .int a :: st) w := by
  intro z hz hp
  by_cases h : b = 0
  · rw [if_pos h] at hz; cases hz
  · rw [if_neg h] at hz
    exact kv_idiv hd h k z hz hp
theorem kv_irem {a b : Int32} (hd : decode M.2.1 pc = .ok (.irem, 1)) (hne : ¬ b = 0) (k : kv_X M d o P x (pc + 1) lv (.int (a - a / b * b) :: st) w) : kv_X M d o P x pc lv (.int b :: .int a :: st) w := by
  intro z hz hp l p e s m args below meth c D cy ad A H locs ls hC hP hS hl
  exact lv_irem hC.1 hC.2.1 hd hne (k z hz hp l p e s m args below meth c D cy ad A H locs ls hC hP hS hl)
theorem kv_iremG {a b : Int32} {A : Option α} (hd : decode M.2.1 pc = .ok (.irem, 1)) (k : kv_X M d o P A (pc + 1) lv (.int (a - a / b * b) :: st) w) : kv_X M d o P (if b = 0 then none else A) pc lv (.int b :: .int a :: st) w := by
  intro z hz hp
  by_cases h : b = 0
  · rw [if_pos h] at hz; cases hz
  · rw [if_neg h] at hz
    exact kv_irem hd h k z hz hp
theorem kv_dupI {a : Int32} (hd : decode M.2.1 pc = .ok (.dup, 1))  (k : kv_X M d o P x (pc + 1) lv (.int a :: .int a :: st) w) : kv_X M d o P x pc lv (.int a :: st) w := by
  intro z hz hp l p e s m args below meth c D cy ad A H locs ls hC hP hS hl
  exact lv_dup hC.1 hC.2.1 hd rfl (k z hz hp l p e s m args below meth c D cy ad A H locs ls hC hP hS hl)
theorem kv_dupR {a : Nat} (hd : decode M.2.1 pc = .ok (.dup, 1))  (k : kv_X M d o P x (pc + 1) lv (.ref a :: .ref a :: st) w) : kv_X M d o P x pc lv (.ref a :: st) w := by
  intro z hz hp l p e s m args below meth c D cy ad A H locs ls hC hP hS hl
  exact lv_dup hC.1 hC.2.1 hd rfl (k z hz hp l p e s m args below meth c D cy ad A H locs ls hC hP hS hl)
theorem kv_dup2RI {a : Nat} {b : Int32} (hd : decode M.2.1 pc = .ok (.dup2, 1))  (k : kv_X M d o P x (pc + 1) lv (.int b :: .ref a :: .int b :: .ref a :: st) w) : kv_X M d o P x pc lv (.int b :: .ref a :: st) w := by
  intro z hz hp l p e s m args below meth c D cy ad A H locs ls hC hP hS hl
  exact lv_dup2_11 hC.1 hC.2.1 hd rfl rfl (k z hz hp l p e s m args below meth c D cy ad A H locs ls hC hP hS hl)
theorem kv_popI {a : Int32} (hd : decode M.2.1 pc = .ok (.pop, 1))  (k : kv_X M d o P x (pc + 1) lv (st) w) : kv_X M d o P x pc lv (.int a :: st) w := by
  intro z hz hp l p e s m args below meth c D cy ad A H locs ls hC hP hS hl
  exact lv_pop hC.1 hC.2.1 hd rfl (k z hz hp l p e s m args below meth c D cy ad A H locs ls hC hP hS hl)
theorem kv_iload {i : Nat} {v : Int32} (j : Nat) (hj : lv[j]? = some (i, .int v)) (hd : decode M.2.1 pc = .ok (.iload i, 2)) (k : kv_X M d o P x (pc + 2) lv (.int v :: st) w) : kv_X M d o P x pc lv st w := by
  intro z hz hp l p e s m args below meth c D cy ad A H locs ls hC hP hS hl
  exact lv_iload hC.1 hC.2.1 hd (by have q := lv_at hl j (i := i) (v := kv_cv ad (.int v)) (by rw [List.getElem?_map, hj]; rfl); exact q) (k z hz hp l p e s m args below meth c D cy ad A H locs ls hC hP hS hl)
theorem kv_iload_n {n : Fin 4} {i : Nat} {v : Int32} (j : Nat) (hj : lv[j]? = some (i, .int v)) (hi : (n : Nat) = i) (hd : decode M.2.1 pc = .ok (.iload_n n, 1)) (k : kv_X M d o P x (pc + 1) lv (.int v :: st) w) : kv_X M d o P x pc lv st w := by
  intro z hz hp l p e s m args below meth c D cy ad A H locs ls hC hP hS hl
  exact lv_iload_n hC.1 hC.2.1 hd hi (by have q := lv_at hl j (i := i) (v := kv_cv ad (.int v)) (by rw [List.getElem?_map, hj]; rfl); exact q) (k z hz hp l p e s m args below meth c D cy ad A H locs ls hC hP hS hl)
theorem kv_lload {i : Nat} {v : Int64} (j : Nat) (hj : lv[j]? = some (i, .long v)) (hd : decode M.2.1 pc = .ok (.lload i, 2)) (k : kv_X M d o P x (pc + 2) lv (.long v :: st) w) : kv_X M d o P x pc lv st w := by
  intro z hz hp l p e s m args below meth c D cy ad A H locs ls hC hP hS hl
  exact lv_lload hC.1 hC.2.1 hd (by have q := lv_at hl j (i := i) (v := kv_cv ad (.long v)) (by rw [List.getElem?_map, hj]; rfl); exact q) (k z hz hp l p e s m args below meth c D cy ad A H locs ls hC hP hS hl)
theorem kv_lload_n {n : Fin 4} {i : Nat} {v : Int64} (j : Nat) (hj : lv[j]? = some (i, .long v)) (hi : (n : Nat) = i) (hd : decode M.2.1 pc = .ok (.lload_n n, 1)) (k : kv_X M d o P x (pc + 1) lv (.long v :: st) w) : kv_X M d o P x pc lv st w := by
  intro z hz hp l p e s m args below meth c D cy ad A H locs ls hC hP hS hl
  exact lv_lload_n hC.1 hC.2.1 hd hi (by have q := lv_at hl j (i := i) (v := kv_cv ad (.long v)) (by rw [List.getElem?_map, hj]; rfl); exact q) (k z hz hp l p e s m args below meth c D cy ad A H locs ls hC hP hS hl)
theorem kv_aload {i : Nat} {v : Nat} (j : Nat) (hj : lv[j]? = some (i, .ref v)) (hd : decode M.2.1 pc = .ok (.aload i, 2)) (k : kv_X M d o P x (pc + 2) lv (.ref v :: st) w) : kv_X M d o P x pc lv st w := by
  intro z hz hp l p e s m args below meth c D cy ad A H locs ls hC hP hS hl
  exact lv_aload hC.1 hC.2.1 hd (by have q := lv_at hl j (i := i) (v := kv_cv ad (.ref v)) (by rw [List.getElem?_map, hj]; rfl); exact q) (k z hz hp l p e s m args below meth c D cy ad A H locs ls hC hP hS hl)
theorem kv_aload_n {n : Fin 4} {i : Nat} {v : Nat} (j : Nat) (hj : lv[j]? = some (i, .ref v)) (hi : (n : Nat) = i) (hd : decode M.2.1 pc = .ok (.aload_n n, 1)) (k : kv_X M d o P x (pc + 1) lv (.ref v :: st) w) : kv_X M d o P x pc lv st w := by
  intro z hz hp l p e s m args below meth c D cy ad A H locs ls hC hP hS hl
  exact lv_aload_n hC.1 hC.2.1 hd hi (by have q := lv_at hl j (i := i) (v := kv_cv ad (.ref v)) (by rw [List.getElem?_map, hj]; rfl); exact q) (k z hz hp l p e s m args below meth c D cy ad A H locs ls hC hP hS hl)
theorem kv_istore {i : Nat} {v : Int32} {lv' : List (Nat × Value)} (hs : kv_stl lv i (.int v) = lv') (hn : i < M.2.2.1) (hd : decode M.2.1 pc = .ok (.istore i, 2)) (k : kv_X M d o P x (pc + 2) lv' st w) : kv_X M d o P x pc lv (.int v :: st) w := by
  subst hs
  intro z hz hp l p e s m args below meth c D cy ad A H locs ls hC hP hS hl
  refine lv_istore (nL := M.2.2.1) hC.1 hC.2.1 hd hl hn (kv_stl_map ad lv i (.int v)) (fun ls2 hl2 => ?_)
  exact k z hz hp l p e s m args below meth c D cy ad A H locs ls2 hC hP hS hl2
theorem kv_istore_n {n : Fin 4} {i : Nat} {v : Int32} {lv' : List (Nat × Value)} (hs : kv_stl lv i (.int v) = lv') (hn : i < M.2.2.1) (hi : (n : Nat) = i) (hd : decode M.2.1 pc = .ok (.istore_n n, 1)) (k : kv_X M d o P x (pc + 1) lv' st w) : kv_X M d o P x pc lv (.int v :: st) w := by
  subst hs
  intro z hz hp l p e s m args below meth c D cy ad A H locs ls hC hP hS hl
  refine lv_istore_n (nL := M.2.2.1) hC.1 hC.2.1 hd hi hl hn (kv_stl_map ad lv i (.int v)) (fun ls2 hl2 => ?_)
  exact k z hz hp l p e s m args below meth c D cy ad A H locs ls2 hC hP hS hl2
theorem kv_astore {i : Nat} {v : Nat} {lv' : List (Nat × Value)} (hs : kv_stl lv i (.ref v) = lv') (hn : i < M.2.2.1) (hd : decode M.2.1 pc = .ok (.astore i, 2)) (k : kv_X M d o P x (pc + 2) lv' st w) : kv_X M d o P x pc lv (.ref v :: st) w := by
  subst hs
  intro z hz hp l p e s m args below meth c D cy ad A H locs ls hC hP hS hl
  refine lv_astore (nL := M.2.2.1) hC.1 hC.2.1 hd hl hn (kv_stl_map ad lv i (.ref v)) (fun ls2 hl2 => ?_)
  exact k z hz hp l p e s m args below meth c D cy ad A H locs ls2 hC hP hS hl2
theorem kv_astore_n {n : Fin 4} {i : Nat} {v : Nat} {lv' : List (Nat × Value)} (hs : kv_stl lv i (.ref v) = lv') (hn : i < M.2.2.1) (hi : (n : Nat) = i) (hd : decode M.2.1 pc = .ok (.astore_n n, 1)) (k : kv_X M d o P x (pc + 1) lv' st w) : kv_X M d o P x pc lv (.ref v :: st) w := by
  subst hs
  intro z hz hp l p e s m args below meth c D cy ad A H locs ls hC hP hS hl
  refine lv_astore_n (nL := M.2.2.1) hC.1 hC.2.1 hd hi hl hn (kv_stl_map ad lv i (.ref v)) (fun ls2 hl2 => ?_)
  exact k z hz hp l p e s m args below meth c D cy ad A H locs ls2 hC hP hS hl2
theorem kv_lstore {i : Nat} {v : Int64} {lv' : List (Nat × Value)} (hs : kv_stl2 lv i (.long v) = lv') (hn : i + 1 < M.2.2.1) (hd : decode M.2.1 pc = .ok (.lstore i, 2)) (k : kv_X M d o P x (pc + 2) lv' st w) : kv_X M d o P x pc lv (.long v :: st) w := by
  subst hs
  intro z hz hp l p e s m args below meth c D cy ad A H locs ls hC hP hS hl
  refine lv_lstore (nL := M.2.2.1) hC.1 hC.2.1 hd hl hn (kv_stl2_map ad lv i (.long v)) (fun ls2 hl2 => ?_)
  exact k z hz hp l p e s m args below meth c D cy ad A H locs ls2 hC hP hS hl2
theorem kv_lstore_n {n : Fin 4} {i : Nat} {v : Int64} {lv' : List (Nat × Value)} (hs : kv_stl2 lv i (.long v) = lv') (hn : i + 1 < M.2.2.1) (hi : (n : Nat) = i) (hd : decode M.2.1 pc = .ok (.lstore_n n, 1)) (k : kv_X M d o P x (pc + 1) lv' st w) : kv_X M d o P x pc lv (.long v :: st) w := by
  subst hs
  intro z hz hp l p e s m args below meth c D cy ad A H locs ls hC hP hS hl
  refine lv_lstore_n (nL := M.2.2.1) hC.1 hC.2.1 hd hi hl hn (kv_stl2_map ad lv i (.long v)) (fun ls2 hl2 => ?_)
  exact k z hz hp l p e s m args below meth c D cy ad A H locs ls2 hC hP hS hl2
theorem kv_iinc {i : Nat} {n : Int} {v kk : Int32} {lv' : List (Nat × Value)} (j : Nat) (hj : lv[j]? = some (i, .int v)) (hv : Int32.ofInt n = kk) (hs : kv_stl lv i (.int (v + kk)) = lv') (hn : i < M.2.2.1) (hd : decode M.2.1 pc = .ok (.iinc i n, 3)) (k : kv_X M d o P x (pc + 3) lv' st w) : kv_X M d o P x pc lv st w := by
  subst hs
  intro z hz hp l p e s m args below meth c D cy ad A H locs ls hC hP hS hl
  refine lv_iinc (nL := M.2.2.1) (k := j) (x := v) (v := v + kk) hC.1 hC.2.1 hd hl (by rw [List.getElem?_map, hj]; rfl) (by rw [hv]) hn (kv_stl_map ad lv i (.int (v + kk))) (fun ls2 hl2 => ?_)
  exact k z hz hp l p e s m args below meth c D cy ad A H locs ls2 hC hP hS hl2
theorem kv_sub {lv' : List (Nat × Value)} (ks : List Nat) (hs : lv_pick lv ks = lv') (k : kv_X M d o P x pc lv' st w) : kv_X M d o P x pc lv st w := by
  subst hs
  intro z hz hp l p e s m args below meth c D cy ad A H locs ls hC hP hS hl
  refine k z hz hp l p e s m args below meth c D cy ad A H locs ls hC hP hS (lv_sub hl ks ?_)
  unfold lv_pick
  rw [List.map_filterMap]
  congr 1
  funext i
  rw [List.getElem?_map]
theorem kv_ldc {idx : Nat} {v : Int32} (hc : Cond.constant M.1.cls idx v ∈ kv_gw) (hd : decode M.2.1 pc = .ok (.ldc idx, 2)) (k : kv_X M d o P x (pc + 2) lv (.int v :: st) w) : kv_X M d o P x pc lv st w := by
  intro z hz hp l p e s m args below meth c D cy ad A H locs ls hC hP hS hl
  exact lv_ldc hC.1 hC.2.1 hC.2.2.2.2.2.1 (kv_hts hC hc) hd (k z hz hp l p e s m args below meth c D cy ad A H locs ls hC hP hS hl)
theorem kv_ldcw {idx : Nat} {v : Int32} (hc : Cond.constant M.1.cls idx v ∈ kv_gw) (hd : decode M.2.1 pc = .ok (.ldc_w idx, 3)) (k : kv_X M d o P x (pc + 3) lv (.int v :: st) w) : kv_X M d o P x pc lv st w := by
  intro z hz hp l p e s m args below meth c D cy ad A H locs ls hC hP hS hl
  exact lv_ldcw hC.1 hC.2.1 hC.2.2.2.2.2.1 (kv_hts hC hc) hd (k z hz hp l p e s m args below meth c D cy ad A H locs ls hC hP hS hl)
theorem kv_ldc2 {idx : Nat} {v : Int64} (hc : Cond.constantLong M.1.cls idx v ∈ kv_gw) (hd : decode M.2.1 pc = .ok (.ldc2_w idx, 3)) (k : kv_X M d o P x (pc + 3) lv (.long v :: st) w) : kv_X M d o P x pc lv st w := by
  intro z hz hp l p e s m args below meth c D cy ad A H locs ls hC hP hS hl
  exact lv_ldc2 hC.1 hC.2.1 hC.2.2.2.2.2.1 (kv_hts hC hc) hd (k z hz hp l p e s m args below meth c D cy ad A H locs ls hC hP hS hl)
theorem kv_if_ne {a : Int32} {off : Int} {tgt : Nat} {X Y : Option α} (hd : decode M.2.1 pc = .ok (.ifCond .ne off, 3)) (ht : (pc : Int) + off = (tgt : Int)) (kt : kv_X M d o P X tgt lv st w) (kf : kv_X M d o P Y (pc + 3) lv st w) : kv_X M d o P (if a = 0 then Y else X) pc lv (.int a :: st) w := by
  intro z hz hp l p e s m args below meth c D cy ad A H locs ls hC hP hS hl
  refine lv_if_ne hC.1 hC.2.1 hd ht (fun q => ?_) (fun q => ?_)
  · rw [if_neg q] at hz
    exact kt z hz hp l p e s m args below meth c D cy ad A H locs ls hC hP hS hl
  · rw [if_pos q] at hz
    exact kf z hz hp l p e s m args below meth c D cy ad A H locs ls hC hP hS hl
theorem kv_icmp_ne {a b : Int32} {off : Int} {tgt : Nat} {X Y : Option α} (hd : decode M.2.1 pc = .ok (.if_icmp .ne off, 3)) (ht : (pc : Int) + off = (tgt : Int)) (kt : kv_X M d o P X tgt lv st w) (kf : kv_X M d o P Y (pc + 3) lv st w) : kv_X M d o P (if a = b then Y else X) pc lv (.int b :: .int a :: st) w := by
  intro z hz hp l p e s m args below meth c D cy ad A H locs ls hC hP hS hl
  refine lv_icmp_ne hC.1 hC.2.1 hd ht (fun q => ?_) (fun q => ?_)
  · rw [if_neg q] at hz
    exact kt z hz hp l p e s m args below meth c D cy ad A H locs ls hC hP hS hl
  · rw [if_pos q] at hz
    exact kf z hz hp l p e s m args below meth c D cy ad A H locs ls hC hP hS hl
theorem kv_if_eq {a : Int32} {off : Int} {tgt : Nat} {X Y : Option α} (hd : decode M.2.1 pc = .ok (.ifCond .eq off, 3)) (ht : (pc : Int) + off = (tgt : Int)) (kt : kv_X M d o P X tgt lv st w) (kf : kv_X M d o P Y (pc + 3) lv st w) : kv_X M d o P (if a = 0 then X else Y) pc lv (.int a :: st) w := by
  intro z hz hp l p e s m args below meth c D cy ad A H locs ls hC hP hS hl
  refine lv_if_eq hC.1 hC.2.1 hd ht (fun q => ?_) (fun q => ?_)
  · have q2 : a = 0 := q
    rw [if_pos q2] at hz
    exact kt z hz hp l p e s m args below meth c D cy ad A H locs ls hC hP hS hl
  · have q2 : ¬ (a = 0) := q
    rw [if_neg q2] at hz
    exact kf z hz hp l p e s m args below meth c D cy ad A H locs ls hC hP hS hl
theorem kv_icmp_eq {a b : Int32} {off : Int} {tgt : Nat} {X Y : Option α} (hd : decode M.2.1 pc = .ok (.if_icmp .eq off, 3)) (ht : (pc : Int) + off = (tgt : Int)) (kt : kv_X M d o P X tgt lv st w) (kf : kv_X M d o P Y (pc + 3) lv st w) : kv_X M d o P (if a = b then X else Y) pc lv (.int b :: .int a :: st) w := by
  intro z hz hp l p e s m args below meth c D cy ad A H locs ls hC hP hS hl
  refine lv_icmp_eq hC.1 hC.2.1 hd ht (fun q => ?_) (fun q => ?_)
  · have q2 : a = b := q
    rw [if_pos q2] at hz
    exact kt z hz hp l p e s m args below meth c D cy ad A H locs ls hC hP hS hl
  · have q2 : ¬ (a = b) := q
    rw [if_neg q2] at hz
    exact kf z hz hp l p e s m args below meth c D cy ad A H locs ls hC hP hS hl
theorem kv_if_lt {a : Int32} {off : Int} {tgt : Nat} {X Y : Option α} (hd : decode M.2.1 pc = .ok (.ifCond .lt off, 3)) (ht : (pc : Int) + off = (tgt : Int)) (kt : kv_X M d o P X tgt lv st w) (kf : kv_X M d o P Y (pc + 3) lv st w) : kv_X M d o P (if a < 0 then X else Y) pc lv (.int a :: st) w := by
  intro z hz hp l p e s m args below meth c D cy ad A H locs ls hC hP hS hl
  refine lv_if_lt hC.1 hC.2.1 hd ht (fun q => ?_) (fun q => ?_)
  · have q2 : a < 0 := q
    rw [if_pos q2] at hz
    exact kt z hz hp l p e s m args below meth c D cy ad A H locs ls hC hP hS hl
  · have q2 : ¬ (a < 0) := q
    rw [if_neg q2] at hz
    exact kf z hz hp l p e s m args below meth c D cy ad A H locs ls hC hP hS hl
theorem kv_icmp_lt {a b : Int32} {off : Int} {tgt : Nat} {X Y : Option α} (hd : decode M.2.1 pc = .ok (.if_icmp .lt off, 3)) (ht : (pc : Int) + off = (tgt : Int)) (kt : kv_X M d o P X tgt lv st w) (kf : kv_X M d o P Y (pc + 3) lv st w) : kv_X M d o P (if a < b then X else Y) pc lv (.int b :: .int a :: st) w := by
  intro z hz hp l p e s m args below meth c D cy ad A H locs ls hC hP hS hl
  refine lv_icmp_lt hC.1 hC.2.1 hd ht (fun q => ?_) (fun q => ?_)
  · have q2 : a < b := q
    rw [if_pos q2] at hz
    exact kt z hz hp l p e s m args below meth c D cy ad A H locs ls hC hP hS hl
  · have q2 : ¬ (a < b) := q
    rw [if_neg q2] at hz
    exact kf z hz hp l p e s m args below meth c D cy ad A H locs ls hC hP hS hl
theorem kv_if_ge {a : Int32} {off : Int} {tgt : Nat} {X Y : Option α} (hd : decode M.2.1 pc = .ok (.ifCond .ge off, 3)) (ht : (pc : Int) + off = (tgt : Int)) (kt : kv_X M d o P X tgt lv st w) (kf : kv_X M d o P Y (pc + 3) lv st w) : kv_X M d o P (if 0 ≤ a then X else Y) pc lv (.int a :: st) w := by
  intro z hz hp l p e s m args below meth c D cy ad A H locs ls hC hP hS hl
  refine lv_if_ge hC.1 hC.2.1 hd ht (fun q => ?_) (fun q => ?_)
  · have q2 : 0 ≤ a := q
    rw [if_pos q2] at hz
    exact kt z hz hp l p e s m args below meth c D cy ad A H locs ls hC hP hS hl
  · have q2 : ¬ (0 ≤ a) := q
    rw [if_neg q2] at hz
    exact kf z hz hp l p e s m args below meth c D cy ad A H locs ls hC hP hS hl
theorem kv_icmp_ge {a b : Int32} {off : Int} {tgt : Nat} {X Y : Option α} (hd : decode M.2.1 pc = .ok (.if_icmp .ge off, 3)) (ht : (pc : Int) + off = (tgt : Int)) (kt : kv_X M d o P X tgt lv st w) (kf : kv_X M d o P Y (pc + 3) lv st w) : kv_X M d o P (if b ≤ a then X else Y) pc lv (.int b :: .int a :: st) w := by
  intro z hz hp l p e s m args below meth c D cy ad A H locs ls hC hP hS hl
  refine lv_icmp_ge hC.1 hC.2.1 hd ht (fun q => ?_) (fun q => ?_)
  · have q2 : b ≤ a := q
    rw [if_pos q2] at hz
    exact kt z hz hp l p e s m args below meth c D cy ad A H locs ls hC hP hS hl
  · have q2 : ¬ (b ≤ a) := q
    rw [if_neg q2] at hz
    exact kf z hz hp l p e s m args below meth c D cy ad A H locs ls hC hP hS hl
theorem kv_if_gt {a : Int32} {off : Int} {tgt : Nat} {X Y : Option α} (hd : decode M.2.1 pc = .ok (.ifCond .gt off, 3)) (ht : (pc : Int) + off = (tgt : Int)) (kt : kv_X M d o P X tgt lv st w) (kf : kv_X M d o P Y (pc + 3) lv st w) : kv_X M d o P (if 0 < a then X else Y) pc lv (.int a :: st) w := by
  intro z hz hp l p e s m args below meth c D cy ad A H locs ls hC hP hS hl
  refine lv_if_gt hC.1 hC.2.1 hd ht (fun q => ?_) (fun q => ?_)
  · have q2 : 0 < a := q
    rw [if_pos q2] at hz
    exact kt z hz hp l p e s m args below meth c D cy ad A H locs ls hC hP hS hl
  · have q2 : ¬ (0 < a) := q
    rw [if_neg q2] at hz
    exact kf z hz hp l p e s m args below meth c D cy ad A H locs ls hC hP hS hl
theorem kv_icmp_gt {a b : Int32} {off : Int} {tgt : Nat} {X Y : Option α} (hd : decode M.2.1 pc = .ok (.if_icmp .gt off, 3)) (ht : (pc : Int) + off = (tgt : Int)) (kt : kv_X M d o P X tgt lv st w) (kf : kv_X M d o P Y (pc + 3) lv st w) : kv_X M d o P (if b < a then X else Y) pc lv (.int b :: .int a :: st) w := by
  intro z hz hp l p e s m args below meth c D cy ad A H locs ls hC hP hS hl
  refine lv_icmp_gt hC.1 hC.2.1 hd ht (fun q => ?_) (fun q => ?_)
  · have q2 : b < a := q
    rw [if_pos q2] at hz
    exact kt z hz hp l p e s m args below meth c D cy ad A H locs ls hC hP hS hl
  · have q2 : ¬ (b < a) := q
    rw [if_neg q2] at hz
    exact kf z hz hp l p e s m args below meth c D cy ad A H locs ls hC hP hS hl
theorem kv_if_le {a : Int32} {off : Int} {tgt : Nat} {X Y : Option α} (hd : decode M.2.1 pc = .ok (.ifCond .le off, 3)) (ht : (pc : Int) + off = (tgt : Int)) (kt : kv_X M d o P X tgt lv st w) (kf : kv_X M d o P Y (pc + 3) lv st w) : kv_X M d o P (if a ≤ 0 then X else Y) pc lv (.int a :: st) w := by
  intro z hz hp l p e s m args below meth c D cy ad A H locs ls hC hP hS hl
  refine lv_if_le hC.1 hC.2.1 hd ht (fun q => ?_) (fun q => ?_)
  · have q2 : a ≤ 0 := q
    rw [if_pos q2] at hz
    exact kt z hz hp l p e s m args below meth c D cy ad A H locs ls hC hP hS hl
  · have q2 : ¬ (a ≤ 0) := q
    rw [if_neg q2] at hz
    exact kf z hz hp l p e s m args below meth c D cy ad A H locs ls hC hP hS hl
theorem kv_icmp_le {a b : Int32} {off : Int} {tgt : Nat} {X Y : Option α} (hd : decode M.2.1 pc = .ok (.if_icmp .le off, 3)) (ht : (pc : Int) + off = (tgt : Int)) (kt : kv_X M d o P X tgt lv st w) (kf : kv_X M d o P Y (pc + 3) lv st w) : kv_X M d o P (if a ≤ b then X else Y) pc lv (.int b :: .int a :: st) w := by
  intro z hz hp l p e s m args below meth c D cy ad A H locs ls hC hP hS hl
  refine lv_icmp_le hC.1 hC.2.1 hd ht (fun q => ?_) (fun q => ?_)
  · have q2 : a ≤ b := q
    rw [if_pos q2] at hz
    exact kt z hz hp l p e s m args below meth c D cy ad A H locs ls hC hP hS hl
  · have q2 : ¬ (a ≤ b) := q
    rw [if_neg q2] at hz
    exact kf z hz hp l p e s m args below meth c D cy ad A H locs ls hC hP hS hl
theorem kv_b_0 (b : Bool) : kv_b b = 0 ↔ ¬ b = true := by cases b <;> decide
theorem kv_zif_eq {b : Bool} {off : Int} {tgt : Nat} {X Y : Option α} (hd : decode M.2.1 pc = .ok (.ifCond .eq off, 3)) (ht : (pc : Int) + off = (tgt : Int)) (kt : kv_X M d o P X tgt lv st w) (kf : kv_X M d o P Y (pc + 3) lv st w) : kv_X M d o P (if b = true then Y else X) pc lv (.int (kv_b b) :: st) w := by
  intro z hz hp l p e s m args below meth c D cy ad A H locs ls hC hP hS hl
  refine lv_if_eq hC.1 hC.2.1 hd ht (fun q => ?_) (fun q => ?_)
  · rw [if_neg ((kv_b_0 b).mp q)] at hz
    exact kt z hz hp l p e s m args below meth c D cy ad A H locs ls hC hP hS hl
  · rw [if_pos (by have := mt (kv_b_0 b).mpr q; simpa using this)] at hz
    exact kf z hz hp l p e s m args below meth c D cy ad A H locs ls hC hP hS hl
theorem kv_zif_ne {b : Bool} {off : Int} {tgt : Nat} {X Y : Option α} (hd : decode M.2.1 pc = .ok (.ifCond .ne off, 3)) (ht : (pc : Int) + off = (tgt : Int)) (kt : kv_X M d o P X tgt lv st w) (kf : kv_X M d o P Y (pc + 3) lv st w) : kv_X M d o P (if b = true then X else Y) pc lv (.int (kv_b b) :: st) w := by
  intro z hz hp l p e s m args below meth c D cy ad A H locs ls hC hP hS hl
  refine lv_if_ne hC.1 hC.2.1 hd ht (fun q => ?_) (fun q => ?_)
  · rw [if_pos (by have := mt (kv_b_0 b).mpr q; simpa using this)] at hz
    exact kt z hz hp l p e s m args below meth c D cy ad A H locs ls hC hP hS hl
  · rw [if_neg ((kv_b_0 b).mp q)] at hz
    exact kf z hz hp l p e s m args below meth c D cy ad A H locs ls hC hP hS hl
theorem kv_lg_eq (a b : Int64) : lg_cmp a b = 0 ↔ a = b := by
  unfold lg_cmp
  by_cases h : a > b
  · rw [if_pos h]
    exact ⟨fun q => absurd q (by decide), fun q => by subst q; exact absurd h (by simp)⟩
  · rw [if_neg h]
    by_cases h2 : a = b
    · rw [if_pos h2]; exact ⟨fun _ => h2, fun _ => rfl⟩
    · rw [if_neg h2]; exact ⟨fun q => absurd q (by decide), fun q => absurd q h2⟩
theorem kv_lg_lt (a b : Int64) : lg_cmp a b < 0 ↔ a < b := by
  unfold lg_cmp
  by_cases h : a > b
  · rw [if_pos h]
    refine ⟨fun q => absurd q (by decide), fun q => ?_⟩
    simp only [gt_iff_lt, Int64.lt_iff_toInt_lt] at h q
    omega
  · rw [if_neg h]
    by_cases h2 : a = b
    · rw [if_pos h2]
      refine ⟨fun q => absurd q (by decide), fun q => ?_⟩
      subst h2
      simp only [Int64.lt_iff_toInt_lt] at q
      omega
    · rw [if_neg h2]
      refine ⟨fun _ => ?_, fun _ => by decide⟩
      simp only [gt_iff_lt, Int64.lt_iff_toInt_lt, ← Int64.toInt_inj] at h h2 ⊢
      omega
theorem kv_lg_gt (a b : Int64) : 0 < lg_cmp a b ↔ b < a := by
  unfold lg_cmp
  by_cases h : a > b
  · rw [if_pos h]
    exact ⟨fun _ => h, fun _ => by decide⟩
  · rw [if_neg h]
    by_cases h2 : a = b
    · rw [if_pos h2]
      exact ⟨fun q => absurd q (by decide), fun q => absurd q h⟩
    · rw [if_neg h2]
      exact ⟨fun q => absurd q (by decide), fun q => absurd q h⟩
theorem kv_lg_ge (a b : Int64) : 0 ≤ lg_cmp a b ↔ b ≤ a := lg_cmp_ge a b
theorem kv_lg_le (a b : Int64) : lg_cmp a b ≤ 0 ↔ a ≤ b := by
  have h := kv_lg_gt a b
  have h1 : lg_cmp a b ≤ 0 ↔ ¬ 0 < lg_cmp a b := by
    simp only [Int32.lt_iff_toInt_lt, Int32.le_iff_toInt_le]
    omega
  rw [h1, h]
  simp only [Int64.lt_iff_toInt_lt, Int64.le_iff_toInt_le]
  omega
theorem kv_lg_ne (a b : Int64) : ¬ lg_cmp a b = 0 ↔ ¬ a = b := not_congr (kv_lg_eq a b)
theorem kv_lcmp_ne {a b : Int64} {off : Int} {tgt : Nat} {X Y : Option α} (hd0 : decode M.2.1 pc = .ok (.lcmp, 1)) (hd : decode M.2.1 (pc + 1) = .ok (.ifCond .ne off, 3)) (ht : ((pc + 1 : Nat) : Int) + off = (tgt : Int)) (kt : kv_X M d o P X tgt lv st w) (kf : kv_X M d o P Y (pc + 1 + 3) lv st w) : kv_X M d o P (if a = b then Y else X) pc lv (.long b :: .long a :: st) w := by
  intro z hz hp l p e s m args below meth c D cy ad A H locs ls hC hP hS hl
  refine W.lcmp hC.1 hC.2.1 hd0 ?_
  refine lv_if_ne hC.1 hC.2.1 hd ht (fun q => ?_) (fun q => ?_)
  · rw [if_neg (fun q2 => q ((kv_lg_eq a b).mpr q2))] at hz
    exact kt z hz hp l p e s m args below meth c D cy ad A H locs ls hC hP hS hl
  · rw [if_pos ((kv_lg_eq a b).mp q)] at hz
    exact kf z hz hp l p e s m args below meth c D cy ad A H locs ls hC hP hS hl
theorem kv_lcmp_eq {a b : Int64} {off : Int} {tgt : Nat} {X Y : Option α} (hd0 : decode M.2.1 pc = .ok (.lcmp, 1)) (hd : decode M.2.1 (pc + 1) = .ok (.ifCond .eq off, 3)) (ht : ((pc + 1 : Nat) : Int) + off = (tgt : Int)) (kt : kv_X M d o P X tgt lv st w) (kf : kv_X M d o P Y (pc + 1 + 3) lv st w) : kv_X M d o P (if a = b then X else Y) pc lv (.long b :: .long a :: st) w := by
  intro z hz hp l p e s m args below meth c D cy ad A H locs ls hC hP hS hl
  refine W.lcmp hC.1 hC.2.1 hd0 ?_
  refine lv_if_eq hC.1 hC.2.1 hd ht (fun q => ?_) (fun q => ?_)
  · rw [if_pos ((kv_lg_eq a b).mp q)] at hz
    exact kt z hz hp l p e s m args below meth c D cy ad A H locs ls hC hP hS hl
  · rw [if_neg (fun q2 => q ((kv_lg_eq a b).mpr q2))] at hz
    exact kf z hz hp l p e s m args below meth c D cy ad A H locs ls hC hP hS hl
theorem kv_lcmp_lt {a b : Int64} {off : Int} {tgt : Nat} {X Y : Option α} (hd0 : decode M.2.1 pc = .ok (.lcmp, 1)) (hd : decode M.2.1 (pc + 1) = .ok (.ifCond .lt off, 3)) (ht : ((pc + 1 : Nat) : Int) + off = (tgt : Int)) (kt : kv_X M d o P X tgt lv st w) (kf : kv_X M d o P Y (pc + 1 + 3) lv st w) : kv_X M d o P (if a < b then X else Y) pc lv (.long b :: .long a :: st) w := by
  intro z hz hp l p e s m args below meth c D cy ad A H locs ls hC hP hS hl
  refine W.lcmp hC.1 hC.2.1 hd0 ?_
  refine lv_if_lt hC.1 hC.2.1 hd ht (fun q => ?_) (fun q => ?_)
  · rw [if_pos ((kv_lg_lt a b).mp q)] at hz
    exact kt z hz hp l p e s m args below meth c D cy ad A H locs ls hC hP hS hl
  · rw [if_neg (fun q2 => q ((kv_lg_lt a b).mpr q2))] at hz
    exact kf z hz hp l p e s m args below meth c D cy ad A H locs ls hC hP hS hl
theorem kv_lcmp_ge {a b : Int64} {off : Int} {tgt : Nat} {X Y : Option α} (hd0 : decode M.2.1 pc = .ok (.lcmp, 1)) (hd : decode M.2.1 (pc + 1) = .ok (.ifCond .ge off, 3)) (ht : ((pc + 1 : Nat) : Int) + off = (tgt : Int)) (kt : kv_X M d o P X tgt lv st w) (kf : kv_X M d o P Y (pc + 1 + 3) lv st w) : kv_X M d o P (if b ≤ a then X else Y) pc lv (.long b :: .long a :: st) w := by
  intro z hz hp l p e s m args below meth c D cy ad A H locs ls hC hP hS hl
  refine W.lcmp hC.1 hC.2.1 hd0 ?_
  refine lv_if_ge hC.1 hC.2.1 hd ht (fun q => ?_) (fun q => ?_)
  · rw [if_pos ((kv_lg_ge a b).mp q)] at hz
    exact kt z hz hp l p e s m args below meth c D cy ad A H locs ls hC hP hS hl
  · rw [if_neg (fun q2 => q ((kv_lg_ge a b).mpr q2))] at hz
    exact kf z hz hp l p e s m args below meth c D cy ad A H locs ls hC hP hS hl
theorem kv_lcmp_gt {a b : Int64} {off : Int} {tgt : Nat} {X Y : Option α} (hd0 : decode M.2.1 pc = .ok (.lcmp, 1)) (hd : decode M.2.1 (pc + 1) = .ok (.ifCond .gt off, 3)) (ht : ((pc + 1 : Nat) : Int) + off = (tgt : Int)) (kt : kv_X M d o P X tgt lv st w) (kf : kv_X M d o P Y (pc + 1 + 3) lv st w) : kv_X M d o P (if b < a then X else Y) pc lv (.long b :: .long a :: st) w := by
  intro z hz hp l p e s m args below meth c D cy ad A H locs ls hC hP hS hl
  refine W.lcmp hC.1 hC.2.1 hd0 ?_
  refine lv_if_gt hC.1 hC.2.1 hd ht (fun q => ?_) (fun q => ?_)
  · rw [if_pos ((kv_lg_gt a b).mp q)] at hz
    exact kt z hz hp l p e s m args below meth c D cy ad A H locs ls hC hP hS hl
  · rw [if_neg (fun q2 => q ((kv_lg_gt a b).mpr q2))] at hz
    exact kf z hz hp l p e s m args below meth c D cy ad A H locs ls hC hP hS hl
theorem kv_lcmp_le {a b : Int64} {off : Int} {tgt : Nat} {X Y : Option α} (hd0 : decode M.2.1 pc = .ok (.lcmp, 1)) (hd : decode M.2.1 (pc + 1) = .ok (.ifCond .le off, 3)) (ht : ((pc + 1 : Nat) : Int) + off = (tgt : Int)) (kt : kv_X M d o P X tgt lv st w) (kf : kv_X M d o P Y (pc + 1 + 3) lv st w) : kv_X M d o P (if a ≤ b then X else Y) pc lv (.long b :: .long a :: st) w := by
  intro z hz hp l p e s m args below meth c D cy ad A H locs ls hC hP hS hl
  refine W.lcmp hC.1 hC.2.1 hd0 ?_
  refine lv_if_le hC.1 hC.2.1 hd ht (fun q => ?_) (fun q => ?_)
  · rw [if_pos ((kv_lg_le a b).mp q)] at hz
    exact kt z hz hp l p e s m args below meth c D cy ad A H locs ls hC hP hS hl
  · rw [if_neg (fun q2 => q ((kv_lg_le a b).mpr q2))] at hz
    exact kf z hz hp l p e s m args below meth c D cy ad A H locs ls hC hP hS hl
theorem kv_goto {off : Int} {tgt : Nat} (hd : decode M.2.1 pc = .ok (.goto off, 3)) (ht : (pc : Int) + off = (tgt : Int)) (k : kv_X M d o P x tgt lv st w) : kv_X M d o P x pc lv st w := by
  intro z hz hp l p e s m args below meth c D cy ad A H locs ls hC hP hS hl
  exact lv_goto hC.1 hC.2.1 hd ht (k z hz hp l p e s m args below meth c D cy ad A H locs ls hC hP hS hl)
theorem kv_pc {pc2 : Nat} (h : pc = pc2) (k : kv_X M d o P x pc2 lv st w) : kv_X M d o P x pc lv st w := h ▸ k
theorem kv_letI {v : Int32} {K : Int32 → Option α} (k : ∀ u : Int32, kv_X M d o P (K u) pc lv (.int u :: st) w) : kv_X M d o P (kv_let v K) pc lv (.int v :: st) w := k v
theorem kv_letJ {v : Int64} {K : Int64 → Option α} (k : ∀ u : Int64, kv_X M d o P (K u) pc lv (.long u :: st) w) : kv_X M d o P (kv_let v K) pc lv (.long v :: st) w := k v
theorem kv_zt {v : Int32} {K : Bool → Option α} (k : ∀ b : Bool, kv_X M d o P (K b) pc lv (.int (kv_b b) :: st) w) : kv_X M d o P (kv_bind1 (kv_z v) K) pc lv (.int v :: st) w := by
  intro z hz hp
  unfold kv_z at hz
  by_cases h0 : v = 0
  · subst h0
    exact k false z hz hp
  · rw [if_neg h0] at hz
    by_cases h1 : v = 1
    · subst h1
      exact k true z hz hp
    · rw [if_neg h1] at hz; cases hz
theorem kv_leaf {a : α} (h : P a → kv_B M d o pc lv st w) : kv_X M d o P (some a) pc lv st w := by
  intro z hz hp
  cases hz
  exact h hp
theorem kv_none : kv_X M d o P none pc lv st w := fun z hz => by cases hz
theorem kv_end {s t : State} {D : va_G} {cy : Nat → ClassId} {ad : Nat → Nat} {A : Nat → Prop} {H : Heap} {locs : List Loc} {v : Option Value} {args : Array Value} (hP : va_P D kv_cl (kv_wl cy ad w) H) (hS : va_S A s.heap H locs) (hK : va_K D kv_cl (kv_tys cy) s) (ht : t.heap = H) (hW : s.WarmedH t.vm) : kv_Q D cy ad A (v, w) args s (.returned (v.map (kv_cv ad))) t :=
  ⟨⟨rfl, by rw [ht]; exact hP, va_K.moved hW.alike hK⟩, hS.F ht⟩
theorem kv_iret {v : Int32} {a : α} (h : P a → o = (some (.int v), w)) (hr : M.2.2.2 = some .int) (hd : decode M.2.1 pc = .ok (.ireturn, 1)) : kv_X M d o P (some a) pc lv ([.int v]) w := by
  intro z hz hp l p e s m args below meth c D cy ad A H locs ls hC hP hS hl
  cases hz
  rw [h hp]
  exact W.iret hC.1 hC.2.1 (hC.2.2.2.1.trans hr) (fun t ht hW => kv_end (v := some (.int v)) hP hS hC.2.2.2.2.2.2.2.1 ht hW) hS.2.2 hd hC.2.2.2.2.1
theorem kv_lret {v : Int64} {a : α} (h : P a → o = (some (.long v), w)) (hr : M.2.2.2 = some .long) (hd : decode M.2.1 pc = .ok (.lreturn, 1)) : kv_X M d o P (some a) pc lv ([.long v]) w := by
  intro z hz hp l p e s m args below meth c D cy ad A H locs ls hC hP hS hl
  cases hz
  rw [h hp]
  exact W.lret hC.1 hC.2.1 (hC.2.2.2.1.trans hr) (fun t ht hW => kv_end (v := some (.long v)) hP hS hC.2.2.2.2.2.2.2.1 ht hW) hS.2.2 hd hC.2.2.2.2.1
theorem kv_vret {a : α} (h : P a → o = (none, w)) (hr : M.2.2.2 = none) (hd : decode M.2.1 pc = .ok (.return_, 1)) : kv_X M d o P (some a) pc lv ([]) w := by
  intro z hz hp l p e s m args below meth c D cy ad A H locs ls hC hP hS hl
  cases hz
  rw [h hp]
  exact W.vret hC.1 hC.2.1 (hC.2.2.2.1.trans hr) (fun t ht hW => kv_end (v := none) hP hS hC.2.2.2.2.2.2.2.1 ht hW) hS.2.2 hd hC.2.2.2.2.1
theorem kv_zret {b : Bool} {a : α} (h : P a → o = (some (.int (kv_b b)), w)) (hr : M.2.2.2 = some .boolean) (hd : decode M.2.1 pc = .ok (.ireturn, 1)) : kv_X M d o P (some a) pc lv [.int (kv_b b)] w := by
  intro z hz hp l p e s m args below meth c D cy ad A H locs ls hC hP hS hl
  cases hz
  rw [h hp]
  exact W.zret hC.1 hC.2.1 (hC.2.2.2.1.trans hr) (by cases b <;> rfl) (fun t ht hW => kv_end (v := some (.int (kv_b b))) hP hS hC.2.2.2.2.2.2.2.1 ht hW) hS.2.2 hd hC.2.2.2.2.1
end KV
