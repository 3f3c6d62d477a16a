/-! ===== the abstract machine: worlds of numbered cells, one judgement of a method's body, its rules ===== -/
abbrev kv_MI : Type := MethodName × ByteArray × Nat × Option FieldType
/-- the class's ints, the reference's ints, its longs, the law's own long -/
abbrev kv_W : Type := (Nat → Nat → Int32) × (Nat → Nat → Int32) × (Nat → Int64) × (Nat → Int64)
def kv_gw : List Cond := lw_tbl.filter goodWord
def kv_ws (M : kv_MI) : List Cond := Cond.code M.1 M.2.1 M.2.2.1 M.2.2.2 :: kv_gw
def kv_rm (d : Nat) : Room := { frames := d, cells := 0, slots := 0, locals := 64 * d }
def kv_gi (w : kv_W) (r : Nat) : Nat → Int32 := if r < kv_NC then w.1 r else w.2.1 r
def kv_gl (w : kv_W) (r : Nat) : Nat → Int64 := if r = kv_FAR then w.2.2.1 else w.2.2.2
def kv_cv (ad : Nat → Nat) : Value → Value
  | .ref r => .ref (ad r)
  | v => v
def kv_fv (ad : Nat → Nat) (w : kv_W) (r k : Nat) : Value := if kv_fk (kv_kd r) k = 0 then .int (kv_gi w r k) else if kv_fk (kv_kd r) k = 1 then .ref (ad (kv_tg r k)) else .ref (ad (kv_gi w r k).toNatClampNeg)
def kv_cell (cy : Nat → ClassId) (ad : Nat → Nat) (w : kv_W) (r : Nat) : va_E :=
  if kv_kd r < 12 then .inr (kv_kd r, (List.range (kv_nf (kv_kd r))).map (kv_fv ad w r))
  else if kv_kd r = 13 then .inl (cy 13, kv_ln r, .inr (.inl (kv_gl w r)))
  else if kv_kd r < 15 then .inl (cy (kv_kd r), kv_ln r, .inl (kv_gi w r))
  else .inl (cy (kv_kd r), kv_ln r, .inr (.inr (.inr (.inr (fun k => some (ad (kv_tg r k)))))))
def kv_wl (cy : Nat → ClassId) (ad : Nat → Nat) (w : kv_W) : va_W := (List.range kv_N).map (fun r => (ad r, kv_cell cy ad w r))
def kv_tys (cy : Nat → ClassId) : List (ClassId × FieldType) := [(cy 12, .int), (cy 13, .long), (cy 14, .boolean), (cy 15, .object "KeptLump$Shelf")]
def kv_inj (ad : Nat → Nat) : Prop := ∀ i j, i < kv_N → j < kv_N → ad i = ad j → i = j
def kv_A (ad : Nat → Nat) (sz : Nat) : Nat → Prop := fun q => (∃ r, r < kv_N ∧ q = ad r) ∨ sz ≤ q
/-- the words of private members of nest mates -/
def kv_nw (U : State) : Prop := ∀ (a : String) (i : Nat) (x : MethodName) (h : String), Cond.methodLinkNest a i x h ∈ lw_tbl → va_Nw (.methodLinkNest a i x h) U
theorem kv_nw.warm {s U : State} (hW : s.WarmedH U.vm) (h : kv_nw s) : kv_nw U := fun a i x q hm => (h a i x q hm).warmM hW
theorem kv_nw.same {s U : State} (hv : s.vm = U.vm) (h : kv_nw s) : kv_nw U := fun a i x q hm => (h a i x q hm).same rfl hv
def kv_Q (D : va_G) (cy : Nat → ClassId) (ad : Nat → Nat) (A : Nat → Prop) (o : Option Value × kv_W) : Array Value → State → Outcome → State → Prop := fun _ st oc t => (oc = .returned (o.1.map (kv_cv ad)) ∧ va_P D kv_cl (kv_wl cy ad o.2) t.heap ∧ va_K D kv_cl (kv_tys cy) t) ∧ va_F A st t
def kv_Cx (M : kv_MI) (p : Program) (s : State) (m : MethodId) (args : Array Value) (meth : Method) (c : Code) (D : va_G) (cy : Nat → ClassId) (ad : Nat → Nat) (A : Nat → Prop) : Prop :=
  p.tables.exec = Jvm.exec ∧ c.code = M.2.1 ∧ c.maxLocals = M.2.2.1 ∧ meth.sig.returnType = M.2.2.2 ∧ meth.locks = false ∧ s.vm.findClass M.1.cls = some m.cls ∧ (∀ w ∈ kv_ws M, w.before args s = true) ∧ va_K D kv_cl (kv_tys cy) s ∧ kv_inj ad ∧ (∀ i, i < kv_N → A (ad i)) ∧ (∀ q, s.heap.size ≤ q → A q) ∧ kv_nw s
/-- the body of M, at pc, with these locals and this stack, in this world: comes to the outcome o -/
def kv_B (M : kv_MI) (d : Nat) (o : Option Value × kv_W) (pc : Nat) (lv : List (Nat × Value)) (st : List Value) (w : kv_W) : Prop :=
  ∀ (l : Launch) (p : Program) (e : Env) (s : State) (m : MethodId) (args : Array Value) (below : List Frame) (meth : Method) (c : Code) (D : va_G) (cy : Nat → ClassId) (ad : Nat → Nat) (A : Nat → Prop) (H : Heap) (locs : List Loc) (ls : Array Slot),
    kv_Cx M p s m args meth c D cy ad A → va_P D kv_cl (kv_wl cy ad w) H → va_S A s.heap H locs → lv_has ls M.2.2.1 (lv.map (fun q => (q.1, kv_cv ad q.2))) →
    W p l e (kv_rm d) s m args below meth c H locs 0 0 (MQ below (kv_Q D cy ad A o) args s 0 0 A) (F0 m pc ls (st.map (kv_cv ad)))
/-- M's contract, called with these values in this world -/
def kv_C (M : kv_MI) (d : Nat) (as : List Value) (w : kv_W) (o : Option Value × kv_W) : Prop :=
  ∀ (l : Launch) (D : va_G) (cy : Nat → ClassId) (ad : Nat → Nat) (sz : Nat), kv_inj ad → Met l M.1 (kv_ws M) (kv_rm d) (va_Pc (as.map (kv_cv ad)) (fun U => U.heap.size = sz ∧ va_P D kv_cl (kv_wl cy ad w) U.heap ∧ va_K D kv_cl (kv_tys cy) U ∧ kv_nw U)) (kv_Q D cy ad (kv_A ad sz) o) 0 0 (kv_A ad sz)
/-- a body that follows the text x of a function to one of its ends a, of which P is known -/
def kv_X {α : Type} (M : kv_MI) (d : Nat) (o : Option Value × kv_W) (P : α → Prop) (x : Option α) (pc : Nat) (lv : List (Nat × Value)) (st : List Value) (w : kv_W) : Prop :=
  ∀ a, x = some a → P a → kv_B M d o pc lv st w
def kv_CX {α : Type} (M : kv_MI) (d : Nat) (E : α → Option Value × kv_W) (x : Option α) (as : List Value) (w : kv_W) : Prop := ∀ a, x = some a → kv_C M d as w (E a)
def kv_let {α β : Type} (e : α) (K : α → β) : β := K e
def kv_st (c : Nat → Nat → Int32) (r k : Nat) (v : Int32) : Nat → Nat → Int32 := va_up c r (upd (c r) k v)
def kv_b (b : Bool) : Int32 := cond b 1 0
def kv_z (v : Int32) : Option Bool := if v = 0 then some false else if v = 1 then some true else none
/-! loops -/
def kv_loopN {σ ρ : Type} (body : σ → Option (σ ⊕ ρ)) : Nat → σ → Option ρ
  | 0, _ => none
  | n + 1, s => (body s).bind (fun z => Sum.elim (kv_loopN body n) some z)
noncomputable def kv_loop {σ ρ : Type} (body : σ → Option (σ ⊕ ρ)) (s : σ) : Option ρ :=
  @dite _ (∃ r n, kv_loopN body n s = some r) (Classical.propDecidable _) (fun h => some h.choose) (fun _ => none)
theorem kv_loopN_mono {σ ρ : Type} {body : σ → Option (σ ⊕ ρ)} : ∀ (n : Nat) (s : σ) (r : ρ), kv_loopN body n s = some r → kv_loopN body (n + 1) s = some r := by
  intro n
  induction n with
  | zero => intro s r h; cases h
  | succ n ih =>
    intro s r h
    rw [kv_loopN] at h ⊢
    cases hb : body s with
    | none => rw [hb] at h; cases h
    | some z =>
      rw [hb] at h
      cases z with
      | inl s2 => exact ih s2 r h
      | inr r2 => exact h
theorem kv_loopN_le {σ ρ : Type} {body : σ → Option (σ ⊕ ρ)} {n m : Nat} {s : σ} {r : ρ} (hm : n ≤ m) (h : kv_loopN body n s = some r) : kv_loopN body m s = some r := by
  induction hm with
  | refl => exact h
  | step _ ih => exact kv_loopN_mono _ _ _ ih
theorem kv_loop_some {σ ρ : Type} {body : σ → Option (σ ⊕ ρ)} {s : σ} {r : ρ} : kv_loop body s = some r ↔ ∃ n, kv_loopN body n s = some r := by
  unfold kv_loop
  constructor
  · intro h
    split at h
    · rename_i hx
      obtain ⟨n, hn⟩ := hx.choose_spec
      cases h
      exact ⟨n, hn⟩
    · cases h
  · intro ⟨n, hn⟩
    have hx : ∃ r n, kv_loopN body n s = some r := ⟨r, n, hn⟩
    rw [dif_pos hx]
    obtain ⟨k, hk⟩ := hx.choose_spec
    have h1 := kv_loopN_le (Nat.le_max_left n k) hn
    have h2 := kv_loopN_le (Nat.le_max_right n k) hk
    rw [← h1, ← h2]
theorem kv_loop_eq {σ ρ : Type} (body : σ → Option (σ ⊕ ρ)) (s : σ) : kv_loop body s = (body s).bind (fun z => Sum.elim (kv_loop body) some z) := by
  apply Option.ext
  intro r
  rw [kv_loop_some]
  constructor
  · intro ⟨n, hn⟩
    cases n with
    | zero => cases hn
    | succ n =>
      rw [kv_loopN] at hn
      cases hb : body s with
      | none => rw [hb] at hn; cases hn
      | some z =>
        rw [hb] at hn
        cases z with
        | inl s2 => exact kv_loop_some.mpr ⟨n, hn⟩
        | inr r2 => exact hn
  · intro h
    cases hb : body s with
    | none => rw [hb] at h; cases h
    | some z =>
      rw [hb] at h
      cases z with
      | inl s2 =>
        obtain ⟨n, hn⟩ := kv_loop_some.mp h
        exact ⟨n + 1, by rw [kv_loopN, hb]; exact hn⟩
      | inr r2 => exact ⟨1, by rw [kv_loopN, hb]; exact h⟩
/-! the world -/
theorem kv_wl_at {cy : Nat → ClassId} {ad : Nat → Nat} {w : kv_W} {r : Nat} (h : r < kv_N) : (kv_wl cy ad w)[r]? = some (ad r, kv_cell cy ad w r) := by
  unfold kv_wl
  rw [List.getElem?_map, List.getElem?_range h]
  rfl
theorem kv_wl_D {cy : Nat → ClassId} {ad : Nat → Nat} {w : kv_W} {A : Nat → Prop} (hi : kv_inj ad) (hA : ∀ i, i < kv_N → A (ad i)) : va_D A (kv_wl cy ad w) := by
  have key : ∀ (i : Nat) (p : Nat × va_E), (kv_wl cy ad w)[i]? = some p → i < kv_N ∧ p.1 = ad i := by
    intro i p h
    have hlt : i < kv_N := by
      have := (List.getElem?_eq_some_iff.mp h).1
      simpa [kv_wl] using this
    rw [kv_wl_at hlt] at h
    cases h
    exact ⟨hlt, rfl⟩
  refine ⟨fun i j p q hp hq he => ?_, fun k q hq => ?_⟩
  · obtain ⟨a1, a2⟩ := key i p hp
    obtain ⟨b1, b2⟩ := key j q hq
    exact hi i j a1 b1 (by rw [← a2, ← b2]; exact he)
  · obtain ⟨a1, a2⟩ := key k q hq
    rw [a2]
    exact hA k a1
theorem kv_wl_set {cy : Nat → ClassId} {ad : Nat → Nat} {w w' : kv_W} {r : Nat} {e : va_E} (hr : r < kv_N) (h1 : e = kv_cell cy ad w' r) (h2 : ∀ j, j < kv_N → j ≠ r → kv_cell cy ad w j = kv_cell cy ad w' j) : (kv_wl cy ad w).set r (ad r, e) = kv_wl cy ad w' := by
  apply List.ext_getElem?
  intro j
  rw [List.getElem?_set]
  by_cases hj : r = j
  · subst hj
    rw [if_pos rfl, kv_wl_at hr, h1]
    have : r < (kv_wl cy ad w).length := by simpa [kv_wl] using hr
    rw [if_pos this]
  · rw [if_neg hj]
    by_cases hl : j < kv_N
    · rw [kv_wl_at hl, kv_wl_at hl, h2 j hl (fun q => hj q.symm)]
    · have a1 : (kv_wl cy ad w)[j]? = none := by simp [kv_wl]; omega
      have a2 : (kv_wl cy ad w')[j]? = none := by simp [kv_wl]; omega
      rw [a1, a2]
theorem kv_kd_lt {r k : Nat} (h : kv_kd r = k) (hk : k < 99) : r < kv_N := by
  rcases Nat.lt_or_ge r kv_N with q | q
  · exact q
  · have : kv_kd r = 99 := by
      unfold kv_kd
      rw [List.getD_eq_getElem?_getD, List.getElem?_eq_none (by exact q)]
      rfl
    omega
theorem kv_cell_obj {cy : Nat → ClassId} {ad : Nat → Nat} {w : kv_W} {r ci : Nat} (h : kv_kd r = ci) (hc : ci < 12) : kv_cell cy ad w r = .inr (ci, (List.range (kv_nf ci)).map (kv_fv ad w r)) := by
  unfold kv_cell
  rw [h, if_pos hc]
theorem kv_cell_I {cy : Nat → ClassId} {ad : Nat → Nat} {w : kv_W} {r : Nat} (h : kv_kd r = 12) : kv_cell cy ad w r = .inl (cy 12, kv_ln r, .inl (kv_gi w r)) := by
  unfold kv_cell
  rw [h]; rfl
theorem kv_cell_Z {cy : Nat → ClassId} {ad : Nat → Nat} {w : kv_W} {r : Nat} (h : kv_kd r = 14) : kv_cell cy ad w r = .inl (cy 14, kv_ln r, .inl (kv_gi w r)) := by
  unfold kv_cell
  rw [h]; rfl
theorem kv_cell_J {cy : Nat → ClassId} {ad : Nat → Nat} {w : kv_W} {r : Nat} (h : kv_kd r = 13) : kv_cell cy ad w r = .inl (cy 13, kv_ln r, .inr (.inl (kv_gl w r))) := by
  unfold kv_cell
  rw [h]; rfl
theorem kv_cell_A {cy : Nat → ClassId} {ad : Nat → Nat} {w : kv_W} {r k : Nat} (h : kv_kd r = k) (hk : k = 15 ∨ k = 16) : kv_cell cy ad w r = .inl (cy k, kv_ln r, .inr (.inr (.inr (.inr (fun i => some (ad (kv_tg r i))))))) := by
  unfold kv_cell
  rcases hk with rfl | rfl <;> (rw [h]; rfl)
theorem kv_fs_at {ad : Nat → Nat} {w : kv_W} {r ci k : Nat} (hk : k < kv_nf ci) : ((List.range (kv_nf ci)).map (kv_fv ad w r))[k]? = some (kv_fv ad w r k) := by
  rw [List.getElem?_map, List.getElem?_range hk]
  rfl
/-- w2 is w, but for one int row r (its kind: object or array of ints) -/
def kv_row (w w2 : kv_W) (r : Nat) : Prop := (∀ j, j ≠ r → kv_gi w2 j = kv_gi w j) ∧ kv_gl w2 = kv_gl w
theorem kv_row_c {c : Nat → Nat → Int32} {y : (Nat → Nat → Int32) × (Nat → Int64) × (Nat → Int64)} {r : Nat} {g : Nat → Int32} (h : r < kv_NC) : kv_row (c, y) (va_up c r g, y) r ∧ kv_gi (va_up c r g, y) r = g := by
  refine ⟨⟨fun j hj => ?_, rfl⟩, ?_⟩
  · unfold kv_gi
    by_cases q : j < kv_NC
    · rw [if_pos q, if_pos q]; exact if_neg hj
    · rw [if_neg q, if_neg q]
  · unfold kv_gi
    rw [if_pos h]; exact if_pos rfl
theorem kv_row_m {c m : Nat → Nat → Int32} {y : (Nat → Int64) × (Nat → Int64)} {r : Nat} {g : Nat → Int32} (h : ¬ r < kv_NC) : kv_row (c, m, y) (c, va_up m r g, y) r ∧ kv_gi (c, va_up m r g, y) r = g := by
  refine ⟨⟨fun j hj => ?_, rfl⟩, ?_⟩
  · unfold kv_gi
    by_cases q : j < kv_NC
    · rw [if_pos q, if_pos q]
    · rw [if_neg q, if_neg q]; exact if_neg hj
  · unfold kv_gi
    rw [if_neg h]; exact if_pos rfl
theorem kv_cell_same {cy : Nat → ClassId} {ad : Nat → Nat} {w w2 : kv_W} {j : Nat} (h : kv_gi w2 j = kv_gi w j) (h2 : kv_gl w2 j = kv_gl w j) : kv_cell cy ad w j = kv_cell cy ad w2 j := by
  have hf : kv_fv ad w j = kv_fv ad w2 j := by
    funext k
    unfold kv_fv
    rw [h]
  unfold kv_cell
  rw [hf, h, h2]
