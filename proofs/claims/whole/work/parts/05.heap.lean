/-! ===== the rules of cells: fields, arrays ===== -/
section KVH
variable {α : Type} {M : kv_MI} {d : Nat} {o : Option Value × kv_W} {P : α → Prop} {x : Option α} {pc : Nat} {lv : List (Nat × Value)} {st : List Value} {w w2 : kv_W} {r ci k idx : Nat} {fin : Bool} {ft : FieldType} {c m : Nat → Nat → Int32} {y : (Nat → Nat → Int32) × (Nat → Int64) × (Nat → Int64)} {f : Nat → Int64} {u : Nat → Int64} {y2 : (Nat → Int64) × (Nat → Int64)}
theorem kv_getG (v : Value) (hf : kv_fl M.1.cls idx ci k fin ft) (hr : kv_kd r = ci) (hv : ∀ ad, kv_fv ad w r k = kv_cv ad v) (hd : decode M.2.1 pc = .ok (.getfield idx, 3)) (kk : kv_X M d o P x (pc + 3) lv (v :: st) w) : kv_X M d o P x pc lv (.ref r :: st) w := by
  obtain ⟨C, T, N, ty, ⟨h1, h2, h3, h4, h5, h6⟩, hk, hl0, hfin, ht⟩ := hf
  have hlt : r < kv_N := kv_kd_lt hr (by omega)
  intro z hz hp l p e s m args below meth c D cy ad A H locs ls hC hP hS hl
  refine va_get (own := M.1.cls) (ref := (T k).1) (C := C) (T := T) (N := N) (ci := ci) (fs := (List.range N).map (kv_fv ad w r)) (v := kv_fv ad w r k) hC.1 hC.2.1 hC.2.2.2.2.2.2.1 (fun q hq => List.mem_cons_of_mem _ (h1 q hq)) hC.2.2.2.2.2.1 hC.2.2.2.2.2.2.2.1 hP r ?_ h2 k hk (kv_hts hC hl0) (fun _ h => h) ?_ hd ?_
  · rw [kv_wl_at hlt, kv_cell_obj hr h4, h3]
  · rw [← h3]; exact kv_fs_at (by rw [h3]; exact hk)
  · rw [hv ad]
    exact kk z hz hp l p e s m args below meth c D cy ad A H locs ls hC hP hS hl
theorem kv_gi_c (hc : r < kv_NC) : kv_gi (c, y) r = c r := if_pos hc
theorem kv_gi_m (hc : ¬ r < kv_NC) : kv_gi (c, m, y2) r = m r := if_neg hc
theorem kv_getC (hf : kv_fl M.1.cls idx ci k fin ft) (hr : kv_kd r = ci) (hc : r < kv_NC) (h0 : kv_fk ci k = 0) (hd : decode M.2.1 pc = .ok (.getfield idx, 3)) (kk : kv_X M d o P x (pc + 3) lv (.int (c r k) :: st) (c, y)) : kv_X M d o P x pc lv (.ref r :: st) (c, y) :=
  kv_getG (.int (c r k)) hf hr (fun ad => by unfold kv_fv; rw [hr, if_pos h0, kv_gi_c hc]; rfl) hd kk
theorem kv_getM (hf : kv_fl M.1.cls idx ci k fin ft) (hr : kv_kd r = ci) (hc : ¬ r < kv_NC) (h0 : kv_fk ci k = 0) (hd : decode M.2.1 pc = .ok (.getfield idx, 3)) (kk : kv_X M d o P x (pc + 3) lv (.int (m r k) :: st) (c, m, y2)) : kv_X M d o P x pc lv (.ref r :: st) (c, m, y2) :=
  kv_getG (.int (m r k)) hf hr (fun ad => by unfold kv_fv; rw [hr, if_pos h0, kv_gi_m hc]; rfl) hd kk
theorem kv_getR {t : Nat} (hf : kv_fl M.1.cls idx ci k fin ft) (hr : kv_kd r = ci) (h1 : kv_fk ci k = 1) (ht : kv_tg r k = t) (hd : decode M.2.1 pc = .ok (.getfield idx, 3)) (kk : kv_X M d o P x (pc + 3) lv (.ref t :: st) w) : kv_X M d o P x pc lv (.ref r :: st) w :=
  kv_getG (.ref t) hf hr (fun ad => by unfold kv_fv; rw [hr, h1, if_neg (by decide), if_pos rfl, ht]; rfl) hd kk
/-- a field whose array may change: its number stands in the world -/
def kv_tx {β : Type} (t : Nat) (K : Nat → Option β) : Option β := if kv_kd t = 12 ∧ ¬ t < kv_NC then K t else none
theorem kv_getV {K : Nat → Option α} (hf : kv_fl M.1.cls idx ci k fin ft) (hr : kv_kd r = ci) (hc : ¬ r < kv_NC) (h2 : kv_fk ci k = 2) (hd : decode M.2.1 pc = .ok (.getfield idx, 3)) (kk : ∀ t, kv_kd t = 12 → ¬ t < kv_NC → kv_X M d o P (K t) (pc + 3) lv (.ref t :: st) (c, m, y2)) : kv_X M d o P (kv_tx (m r k).toNatClampNeg K) pc lv (.ref r :: st) (c, m, y2) := by
  intro z hz hp
  unfold kv_tx at hz
  by_cases q : kv_kd (m r k).toNatClampNeg = 12 ∧ ¬ (m r k).toNatClampNeg < kv_NC
  · rw [if_pos q] at hz
    refine kv_getG (.ref (m r k).toNatClampNeg) hf hr (fun ad => ?_) hd (kk _ q.1 q.2) z hz hp
    unfold kv_fv
    rw [hr, h2, if_neg (by decide), if_neg (by decide), kv_gi_m hc]; rfl
  · rw [if_neg q] at hz; cases hz
theorem kv_putG (v : Value) (hf : kv_fl M.1.cls idx ci k false ft) (hr : kv_kd r = ci) (hw : kv_row w w2 r) (hv : ∀ ad, kv_fv ad w2 r k = kv_cv ad v) (ho : ∀ ad j, j ≠ k → kv_fv ad w2 r j = kv_fv ad w r j) (hn : ∀ ad, narrow ft (kv_cv ad v) = kv_cv ad v) (hft : ∀ ad, fits ft (kv_cv ad v) = true) (hd : decode M.2.1 pc = .ok (.putfield idx, 3)) (kk : kv_X M d o P x (pc + 3) lv st w2) : kv_X M d o P x pc lv (v :: .ref r :: st) w := by
  obtain ⟨C, T, N, ty, ⟨h1, h2, h3, h4, h5, h6⟩, hk, hl0, hfin, ht⟩ := hf
  have hlt : r < kv_N := kv_kd_lt hr (by omega)
  intro z hz hp l p e s m args below meth c D cy ad A H locs ls hC hP hS hl
  have hD : va_D A (kv_wl cy ad w) := kv_wl_D hC.2.2.2.2.2.2.2.2.1 hC.2.2.2.2.2.2.2.2.2.1
  refine va_put (own := M.1.cls) (ref := (T k).1) (C := C) (T := T) (N := N) (ci := ci) (fs := (List.range N).map (kv_fv ad w r)) (v := kv_cv ad v) (ty := ft) hC.1 hC.2.1 hC.2.2.2.2.2.2.1 (fun q hq => List.mem_cons_of_mem _ (h1 q hq)) ty h5 h6 hC.2.2.2.2.2.1 hC.2.2.2.2.2.2.2.1 hP hD hS r ?_ h2 k hk (kv_hts hC hl0) (fun _ h => h) hfin (by rw [h5 k hk, ht]) (hn ad) (hft ad) (by simpa using hk) hd ?_
  · rw [kv_wl_at hlt, kv_cell_obj hr h4, h3]
  · intro H1 locs1 hP1 _ hS1
    have e1 : (kv_wl cy ad w).set r (ad r, .inr (ci, ((List.range N).map (kv_fv ad w r)).set k (kv_cv ad v))) = kv_wl cy ad w2 := by
      refine kv_wl_set hlt ?_ (fun j _ hj => kv_cell_same (hw.1 j hj) (by rw [hw.2]))
      rw [kv_cell_obj hr h4, h3]
      congr 2
      apply List.ext_getElem?
      intro j
      rw [List.getElem?_set]
      by_cases hj : k = j
      · subst hj
        rw [if_pos rfl, List.getElem?_map, List.getElem?_range hk]
        simp [hk, hv ad]
      · rw [if_neg hj, List.getElem?_map, List.getElem?_map]
        by_cases hjn : j < N
        · rw [List.getElem?_range hjn]
          simp [ho ad j (fun q => hj q.symm)]
        · simp [hjn]
    rw [e1] at hP1
    exact kk z hz hp l p e s m args below meth c D cy ad A H1 locs1 ls hC hP1 hS1 hl
theorem kv_putC {v : Int32} {K : (Nat → Nat → Int32) → Option α} (hf : kv_fl M.1.cls idx ci k false ft) (hr : kv_kd r = ci) (hc : r < kv_NC) (h0 : kv_fk ci k = 0) (hn : narrow ft (.int v) = .int v) (hft : fits ft (.int v) = true) (hd : decode M.2.1 pc = .ok (.putfield idx, 3)) (kk : ∀ c2, kv_X M d o P (K c2) (pc + 3) lv st (c2, y)) : kv_X M d o P (kv_let (kv_st c r k v) K) pc lv (.int v :: .ref r :: st) (c, y) := by
  have hw := kv_row_c (c := c) (y := y) (g := upd (c r) k v) hc
  refine kv_putG (w2 := (kv_st c r k v, y)) (.int v) hf hr hw.1 (fun ad => ?_) (fun ad j hj => ?_) (fun _ => hn) (fun _ => hft) hd (kk _)
  · unfold kv_fv
    rw [hr, if_pos h0]
    show Value.int (kv_gi (va_up c r (upd (c r) k v), y) r k) = _
    rw [hw.2, pk_us]; rfl
  · unfold kv_fv
    rw [hr]
    have e2 : kv_gi (kv_st c r k v, y) r j = kv_gi (c, y) r j := by
      show kv_gi (va_up c r (upd (c r) k v), y) r j = _
      rw [hw.2, pk_un hj, kv_gi_c hc]
    rw [e2]
theorem kv_putMv {v : Value} {n : Int32} (hf : kv_fl M.1.cls idx ci k false ft) (hr : kv_kd r = ci) (hc : ¬ r < kv_NC) (h0 : ∀ ad : Nat → Nat, (if kv_fk ci k = 0 then Value.int n else if kv_fk ci k = 1 then .ref (ad (kv_tg r k)) else .ref (ad n.toNatClampNeg)) = kv_cv ad v) (hn : ∀ ad, narrow ft (kv_cv ad v) = kv_cv ad v) (hft : ∀ ad, fits ft (kv_cv ad v) = true) (hd : decode M.2.1 pc = .ok (.putfield idx, 3)) (kk : kv_X M d o P x (pc + 3) lv st (c, kv_st m r k n, y2)) : kv_X M d o P x pc lv (v :: .ref r :: st) (c, m, y2) := by
  have hw := kv_row_m (c := c) (m := m) (y := y2) (g := upd (m r) k n) hc
  refine kv_putG (w2 := (c, kv_st m r k n, y2)) v hf hr hw.1 (fun ad => ?_) (fun ad j hj => ?_) hn hft hd kk
  · unfold kv_fv
    rw [hr]
    have e2 : kv_gi (c, kv_st m r k n, y2) r k = n := by
      show kv_gi (c, va_up m r (upd (m r) k n), y2) r k = _
      rw [hw.2, pk_us]
    rw [e2]
    exact h0 ad
  · unfold kv_fv
    rw [hr]
    have e2 : kv_gi (c, kv_st m r k n, y2) r j = kv_gi (c, m, y2) r j := by
      show kv_gi (c, va_up m r (upd (m r) k n), y2) r j = _
      rw [hw.2, pk_un hj, kv_gi_m hc]
    rw [e2]
theorem kv_putM {v : Int32} {K : (Nat → Nat → Int32) → Option α} (hf : kv_fl M.1.cls idx ci k false ft) (hr : kv_kd r = ci) (hc : ¬ r < kv_NC) (h0 : kv_fk ci k = 0) (hn : narrow ft (.int v) = .int v) (hft : fits ft (.int v) = true) (hd : decode M.2.1 pc = .ok (.putfield idx, 3)) (kk : ∀ m2, kv_X M d o P (K m2) (pc + 3) lv st (c, m2, y2)) : kv_X M d o P (kv_let (kv_st m r k v) K) pc lv (.int v :: .ref r :: st) (c, m, y2) :=
  kv_putMv (v := .int v) (n := v) hf hr hc (fun ad => by rw [if_pos h0]; rfl) (fun _ => hn) (fun _ => hft) hd (kk _)
theorem kv_putV {t : Nat} {K : (Nat → Nat → Int32) → Option α} (hf : kv_fl M.1.cls idx ci k false ft) (hr : kv_kd r = ci) (hc : ¬ r < kv_NC) (h2 : kv_fk ci k = 2) (ht : t < 2147483648) (hn : ∀ a : Nat, narrow ft (.ref a) = .ref a) (hft : ∀ a : Nat, fits ft (.ref a) = true) (hd : decode M.2.1 pc = .ok (.putfield idx, 3)) (kk : ∀ m2, kv_X M d o P (K m2) (pc + 3) lv st (c, m2, y2)) : kv_X M d o P (kv_let (kv_st m r k (nI t)) K) pc lv (.ref t :: .ref r :: st) (c, m, y2) :=
  kv_putMv (v := .ref t) (n := nI t) hf hr hc (fun ad => by rw [h2, if_neg (by decide), if_neg (by decide), nI_clamp (by omega)]; rfl) (fun ad => hn _) (fun ad => hft _) hd (kk _)
/-! arrays -/
theorem kv_aldG {i : Int32} {n : Nat} (g : Nat → Int32) (hr : kv_kd r = 12) (hg : kv_gi w r = g) (hn : kv_ln r = n) (hin : kv_in i n = true) (hd : decode M.2.1 pc = .ok (.iaload, 1)) (kk : kv_X M d o P x (pc + 1) lv (.int (g i.toNatClampNeg) :: st) w) : kv_X M d o P x pc lv (.int i :: .ref r :: st) w := by
  have hlt : r < kv_N := kv_kd_lt hr (by omega)
  intro z hz hp l p e s m args below meth c D cy ad A H locs ls hC hP hS hl
  refine va_iald (n := n) (f := g) hC.1 hC.2.1 hC.2.2.2.2.2.2.2.1 hP r 0 (cA := cy 12) ?_ rfl (kv_in_vp hin) hd ?_
  · rw [kv_wl_at hlt, kv_cell_I hr, hg, hn]
  · exact kk z hz hp l p e s m args below meth c D cy ad A H locs ls hC hP hS hl
theorem kv_aldGz {i : Int32} {n : Nat} (g : Nat → Int32) (hr : kv_kd r = 14) (hg : kv_gi w r = g) (hn : kv_ln r = n) (hin : kv_in i n = true) (hd : decode M.2.1 pc = .ok (.baload, 1)) (kk : kv_X M d o P x (pc + 1) lv (.int (g i.toNatClampNeg) :: st) w) : kv_X M d o P x pc lv (.int i :: .ref r :: st) w := by
  have hlt : r < kv_N := kv_kd_lt hr (by omega)
  intro z hz hp l p e s m args below meth c D cy ad A H locs ls hC hP hS hl
  refine va_zald (n := n) (f := g) hC.1 hC.2.1 hC.2.2.2.2.2.2.2.1 hP r 2 (cA := cy 14) ?_ rfl (kv_in_vp hin) hd ?_
  · rw [kv_wl_at hlt, kv_cell_Z hr, hg, hn]
  · exact kk z hz hp l p e s m args below meth c D cy ad A H locs ls hC hP hS hl
/-- a guard in the text -/
def kv_gd {β : Type} (b : Bool) (A : Option β) : Option β := if b = true then A else none
theorem kv_guard {b : Bool} {A : Option α} (k : b = true → kv_X M d o P A pc lv st w) : kv_X M d o P (kv_gd b A) pc lv st w := by
  intro z hz hp
  unfold kv_gd at hz
  by_cases h : b = true
  · rw [if_pos h] at hz; exact k h z hz hp
  · rw [if_neg h] at hz; cases hz
theorem kv_aldC {i : Int32} {n j : Nat} (hr : kv_kd r = 12) (hc : r < kv_NC) (hn : kv_ln r = n) (hin : kv_in i n = true) (hj : i.toNatClampNeg = j) (hd : decode M.2.1 pc = .ok (.iaload, 1)) (kk : kv_X M d o P x (pc + 1) lv (.int (c r j) :: st) (c, y)) : kv_X M d o P x pc lv (.int i :: .ref r :: st) (c, y) := by
  subst hj
  exact kv_aldG (c r) hr (kv_gi_c hc) hn hin hd kk
theorem kv_aldM {i : Int32} {n j : Nat} (hr : kv_kd r = 12) (hc : ¬ r < kv_NC) (hn : kv_ln r = n) (hin : kv_in i n = true) (hj : i.toNatClampNeg = j) (hd : decode M.2.1 pc = .ok (.iaload, 1)) (kk : kv_X M d o P x (pc + 1) lv (.int (m r j) :: st) (c, m, y2)) : kv_X M d o P x pc lv (.int i :: .ref r :: st) (c, m, y2) := by
  subst hj
  exact kv_aldG (m r) hr (kv_gi_m hc) hn hin hd kk
theorem kv_aldZC {i : Int32} {n j : Nat} (hr : kv_kd r = 14) (hc : r < kv_NC) (hn : kv_ln r = n) (hin : kv_in i n = true) (hj : i.toNatClampNeg = j) (hd : decode M.2.1 pc = .ok (.baload, 1)) (kk : kv_X M d o P x (pc + 1) lv (.int (c r j) :: st) (c, y)) : kv_X M d o P x pc lv (.int i :: .ref r :: st) (c, y) := by
  subst hj
  exact kv_aldGz (c r) hr (kv_gi_c hc) hn hin hd kk
theorem kv_aldJ {i : Int32} {n j : Nat} (hr : kv_FAR = r) (hk : kv_kd r = 13) (hn : kv_ln r = n) (hin : kv_in i n = true) (hj : i.toNatClampNeg = j) (hd : decode M.2.1 pc = .ok (.laload, 1)) (kk : kv_X M d o P x (pc + 1) lv (.long (f j) :: st) (c, m, f, u)) : kv_X M d o P x pc lv (.int i :: .ref r :: st) (c, m, f, u) := by
  subst hj
  have hlt : r < kv_N := kv_kd_lt hk (by omega)
  intro z hz hp l p e s m2 args below meth c2 D cy ad A H locs ls hC hP hS hl
  refine va_lald (n := n) (f := f) hC.1 hC.2.1 hC.2.2.2.2.2.2.2.1 hP r 1 (cA := cy 13) ?_ rfl (kv_in_vp hin) hd ?_
  · rw [kv_wl_at hlt, kv_cell_J hk, hn]
    have : kv_gl (c, m, f, u) r = f := if_pos hr.symm
    rw [this]
  · exact kk z hz hp l p e s m2 args below meth c2 D cy ad A H locs ls hC hP hS hl
theorem kv_astG {i v : Int32} {n : Nat} (g : Nat → Int32) (hr : kv_kd r = 12) (hg : kv_gi w r = g) (hn : kv_ln r = n) (hin : kv_in i n = true) (hw : kv_row w w2 r) (hg2 : kv_gi w2 r = upd g i.toNatClampNeg v) (hd : decode M.2.1 pc = .ok (.iastore, 1)) (kk : kv_X M d o P x (pc + 1) lv st w2) : kv_X M d o P x pc lv (.int v :: .int i :: .ref r :: st) w := by
  have hlt : r < kv_N := kv_kd_lt hr (by omega)
  intro z hz hp l p e s m args below meth c D cy ad A H locs ls hC hP hS hl
  have hD : va_D A (kv_wl cy ad w) := kv_wl_D hC.2.2.2.2.2.2.2.2.1 hC.2.2.2.2.2.2.2.2.2.1
  refine va_iast (n := n) (f := g) hC.1 hC.2.1 hC.2.2.2.2.2.2.2.1 hP hD hS r 0 (cA := cy 12) ?_ rfl (kv_in_vp hin) hd ?_
  · rw [kv_wl_at hlt, kv_cell_I hr, hg, hn]
  · intro H1 locs1 hP1 _ hS1
    rw [kv_wl_set (w' := w2) hlt (by rw [kv_cell_I hr, hg2, hn]) (fun j _ hj => kv_cell_same (hw.1 j hj) (by rw [hw.2]))] at hP1
    exact kk z hz hp l p e s m args below meth c D cy ad A H1 locs1 ls hC hP1 hS1 hl
theorem kv_astGz {i v : Int32} {n : Nat} (g : Nat → Int32) (hr : kv_kd r = 14) (hg : kv_gi w r = g) (hn : kv_ln r = n) (hin : kv_in i n = true) (hw : kv_row w w2 r) (hg2 : kv_gi w2 r = upd g i.toNatClampNeg (vp_nar .boolean v)) (hd : decode M.2.1 pc = .ok (.bastore, 1)) (kk : kv_X M d o P x (pc + 1) lv st w2) : kv_X M d o P x pc lv (.int v :: .int i :: .ref r :: st) w := by
  have hlt : r < kv_N := kv_kd_lt hr (by omega)
  intro z hz hp l p e s m args below meth c D cy ad A H locs ls hC hP hS hl
  have hD : va_D A (kv_wl cy ad w) := kv_wl_D hC.2.2.2.2.2.2.2.2.1 hC.2.2.2.2.2.2.2.2.2.1
  refine va_zast (n := n) (f := g) hC.1 hC.2.1 hC.2.2.2.2.2.2.2.1 hP hD hS r 2 (cA := cy 14) ?_ rfl (kv_in_vp hin) hd ?_
  · rw [kv_wl_at hlt, kv_cell_Z hr, hg, hn]
  · intro H1 locs1 hP1 _ hS1
    rw [kv_wl_set (w' := w2) hlt (by rw [kv_cell_Z hr, hg2, hn]) (fun j _ hj => kv_cell_same (hw.1 j hj) (by rw [hw.2]))] at hP1
    exact kk z hz hp l p e s m args below meth c D cy ad A H1 locs1 ls hC hP1 hS1 hl
theorem kv_astC {i v : Int32} {n j : Nat} {K : (Nat → Nat → Int32) → Option α} (hr : kv_kd r = 12) (hc : r < kv_NC) (hn : kv_ln r = n) (hin : kv_in i n = true) (hj : i.toNatClampNeg = j) (hd : decode M.2.1 pc = .ok (.iastore, 1)) (kk : ∀ c2, kv_X M d o P (K c2) (pc + 1) lv st (c2, y)) : kv_X M d o P (kv_let (kv_st c r j v) K) pc lv (.int v :: .int i :: .ref r :: st) (c, y) := by
  subst hj
  have hw := kv_row_c (c := c) (y := y) (g := upd (c r) i.toNatClampNeg v) hc
  exact kv_astG (w2 := (kv_st c r i.toNatClampNeg v, y)) (c r) hr (kv_gi_c hc) hn hin hw.1 hw.2 hd (kk _)
theorem kv_astZC {i v : Int32} {n j : Nat} {K : (Nat → Nat → Int32) → Option α} (hr : kv_kd r = 14) (hc : r < kv_NC) (hn : kv_ln r = n) (hin : kv_in i n = true) (hj : i.toNatClampNeg = j) (hd : decode M.2.1 pc = .ok (.bastore, 1)) (kk : ∀ c2, kv_X M d o P (K c2) (pc + 1) lv st (c2, y)) : kv_X M d o P (kv_let (kv_st c r j (vp_nar .boolean v)) K) pc lv (.int v :: .int i :: .ref r :: st) (c, y) := by
  subst hj
  have hw := kv_row_c (c := c) (y := y) (g := upd (c r) i.toNatClampNeg (vp_nar .boolean v)) hc
  exact kv_astGz (w2 := (kv_st c r i.toNatClampNeg (vp_nar .boolean v), y)) (c r) hr (kv_gi_c hc) hn hin hw.1 hw.2 hd (kk _)
theorem kv_astM {i v : Int32} {n j : Nat} {K : (Nat → Nat → Int32) → Option α} (hr : kv_kd r = 12) (hc : ¬ r < kv_NC) (hn : kv_ln r = n) (hin : kv_in i n = true) (hj : i.toNatClampNeg = j) (hd : decode M.2.1 pc = .ok (.iastore, 1)) (kk : ∀ m2, kv_X M d o P (K m2) (pc + 1) lv st (c, m2, y2)) : kv_X M d o P (kv_let (kv_st m r j v) K) pc lv (.int v :: .int i :: .ref r :: st) (c, m, y2) := by
  subst hj
  have hw := kv_row_m (c := c) (m := m) (y := y2) (g := upd (m r) i.toNatClampNeg v) hc
  exact kv_astG (w2 := (c, kv_st m r i.toNatClampNeg v, y2)) (m r) hr (kv_gi_m hc) hn hin hw.1 hw.2 hd (kk _)
theorem kv_astJ {i : Int32} {v : Int64} {n j : Nat} {K : (Nat → Int64) → Option α} (hr : kv_FAR = r) (hk : kv_kd r = 13) (hn : kv_ln r = n) (hin : kv_in i n = true) (hj : i.toNatClampNeg = j) (hd : decode M.2.1 pc = .ok (.lastore, 1)) (kk : ∀ f2, kv_X M d o P (K f2) (pc + 1) lv st (c, m, f2, u)) : kv_X M d o P (kv_let (vp_updL f j v) K) pc lv (.long v :: .int i :: .ref r :: st) (c, m, f, u) := by
  subst hj
  have hlt : r < kv_N := kv_kd_lt hk (by omega)
  intro z hz hp l p e s m2 args below meth c2 D cy ad A H locs ls hC hP hS hl
  have hD : va_D A (kv_wl cy ad (c, m, f, u)) := kv_wl_D hC.2.2.2.2.2.2.2.2.1 hC.2.2.2.2.2.2.2.2.2.1
  refine va_last (n := n) (f := f) hC.1 hC.2.1 hC.2.2.2.2.2.2.2.1 hP hD hS r 1 (cA := cy 13) ?_ rfl (kv_in_vp hin) hd ?_
  · rw [kv_wl_at hlt, kv_cell_J hk, hn]
    have : kv_gl (c, m, f, u) r = f := if_pos hr.symm
    rw [this]
  · intro H1 locs1 hP1 _ hS1
    have hg : kv_gl (c, m, vp_updL f i.toNatClampNeg v, u) r = vp_updL f i.toNatClampNeg v := if_pos hr.symm
    have e1 : (kv_wl cy ad (c, m, f, u)).set r (ad r, .inl (cy 13, n, .inr (.inl (vp_updL f i.toNatClampNeg v)))) = kv_wl cy ad (c, m, vp_updL f i.toNatClampNeg v, u) := by
      refine kv_wl_set hlt ?_ (fun j _ hj => kv_cell_same rfl ?_)
      · rw [kv_cell_J hk, hg, hn]
      · have h9 : ¬ j = kv_FAR := fun q => hj (q.trans hr)
        unfold kv_gl
        rw [if_neg h9, if_neg h9]
    rw [e1] at hP1
    exact kk _ z hz hp l p e s m2 args below meth c2 D cy ad A H1 locs1 ls hC hP1 hS1 hl
theorem kv_aald {i : Int32} {n t : Nat} (hr : kv_kd r = 15) (hn : kv_ln r = n) (hin : kv_in i n = true) (ht : kv_tg r i.toNatClampNeg = t) (hd : decode M.2.1 pc = .ok (.aaload, 1)) (kk : kv_X M d o P x (pc + 1) lv (.ref t :: st) w) : kv_X M d o P x pc lv (.int i :: .ref r :: st) w := by
  subst ht
  have hvp := kv_in_vp hin
  intro z hz hp l p e s m args below meth c D cy ad A H locs ls hC hP hS hl
  have hlt : r < kv_N := kv_kd_lt hr (by omega)
  refine va_aldq (n := n) (f := fun i => some (ad (kv_tg r i))) (C := "KeptLump$Shelf") hC.1 hC.2.1 hC.2.2.2.2.2.2.2.1 hP r 3 (cA := cy 15) ?_ rfl hvp hd ?_
  · rw [kv_wl_at hlt, kv_cell_A hr (Or.inl rfl), hn]
  · exact kk z hz hp l p e s m args below meth c D cy ad A H locs ls hC hP hS hl
theorem kv_alen {n : Nat} {v : Int32} (hr : kv_kd r = 12) (hn : kv_ln r = n) (hv : Int32.ofNat n = v) (hd : decode M.2.1 pc = .ok (.arraylength, 1)) (kk : kv_X M d o P x (pc + 1) lv (.int v :: st) w) : kv_X M d o P x pc lv (.ref r :: st) w := by
  have hlt : r < kv_N := kv_kd_lt hr (by omega)
  intro z hz hp l p e s m args below meth c D cy ad A H locs ls hC hP hS hl
  refine va_alen (x := (n, .inl (kv_gi w r))) (v := v) (ty := .int) hC.1 hC.2.1 hC.2.2.2.2.2.2.2.1 hP r 0 (cA := cy 12) ?_ rfl hv hd ?_
  · rw [kv_wl_at hlt, kv_cell_I hr, hn]
  · exact kk z hz hp l p e s m args below meth c D cy ad A H locs ls hC hP hS hl
/-! System.arraycopy, among the class's own rows -/
theorem kv_copyC {r0 n0 n1 : Nat} {sp dp n : Int32} {K : (Nat → Nat → Int32) → Option α} (hr0 : kv_kd r0 = 12) (hr : kv_kd r = 12) (hc0 : r0 < kv_NC) (hc : r < kv_NC) (hn0 : kv_ln r0 = n0) (hn1 : kv_ln r = n1) (hg : kv_cp sp dp n n0 n1 = true) (hw1 : Cond.methodLink M.1.cls idx arraycopyName ∈ kv_gw) (hw2 : Cond.native arraycopyName ∈ kv_gw) (hw3 : Cond.static arraycopyName ∈ kv_gw) (hw4 : Cond.initialized "java/lang/System" ∈ kv_gw) (hst : (st.map fun v => v.category).sum ≤ 8) (hd : decode M.2.1 pc = .ok (.invokestatic idx, 3)) (kk : ∀ c2, kv_X M (d + 1) o P (K c2) (pc + 3) lv st (c2, y)) : kv_X M (d + 1) o P (kv_let (va_up c r (va_cpy (c r0) (c r) sp.toNatClampNeg dp.toNatClampNeg n.toNatClampNeg)) K) pc lv (.int n :: .int dp :: .ref r :: .int sp :: .ref r0 :: st) (c, y) := by
  have hlt : r < kv_N := kv_kd_lt hr (by omega)
  have hlt0 : r0 < kv_N := kv_kd_lt hr0 (by omega)
  have hw := kv_row_c (c := c) (y := y) (g := va_cpy (c r0) (c r) sp.toNatClampNeg dp.toNatClampNeg n.toNatClampNeg) hc
  simp only [kv_cp, Bool.and_eq_true, decide_eq_true_eq] at hg
  obtain ⟨g1, g2, g3, g4, g5⟩ := hg
  have neg : ∀ q : Int32, 0 ≤ q.toInt → ¬ q < 0 := fun q h => by
    rw [Int32.lt_iff_toInt_lt]
    exact Int.not_lt.mpr h
  intro z hz hp l p e s m args below meth c2 D cy ad A H locs ls hC hP hS hl
  have hD : va_D A (kv_wl cy ad (c, y)) := kv_wl_D hC.2.2.2.2.2.2.2.2.1 hC.2.2.2.2.2.2.2.2.2.1
  refine va_copyi (own := M.1.cls) (f := c r0) (g := c r) (ty := .int) (n0 := n0) (n1 := n1) hC.1 hC.2.1 (by rw [hC.2.2.1]; exact hl.1.symm) hC.2.2.2.2.2.1 (kv_hts hC hw1) (kv_hts hC hw2) (kv_hts hC hw3) (kv_hts hC hw4) hC.2.2.2.2.2.2.2.1 hP hD hS r0 r 0 0 (c0 := cy 12) (c1 := cy 12) ?_ ?_ rfl rfl rfl (neg _ g1) (neg _ g2) (neg _ g3) g4 g5 (fun _ _ => rfl) (Nat.succ_le_succ (Nat.zero_le d)) ?_ hd ?_
  · rw [kv_wl_at hlt0, kv_cell_I hr0, hn0, kv_gi_c hc0]
  · rw [kv_wl_at hlt, kv_cell_I hr, hn1, kv_gi_c hc]
  · have e1 : (List.map (fun v => v.category) (List.map (kv_cv ad) st)) = List.map (fun v => v.category) st := by
      rw [List.map_map]
      exact List.map_congr_left fun v _ => kv_cat ad v
    rw [e1]
    have e2 : nativeFrameWords "java/lang/System" "arraycopy" 5 + 11 ≤ 56 := by decide
    have e3 : (kv_rm (d + 1)).locals = 64 * (d + 1) := rfl
    omega
  · intro H1 locs1 hP1 _ hS1
    rw [kv_wl_set (w' := (va_up c r (va_cpy (c r0) (c r) sp.toNatClampNeg dp.toNatClampNeg n.toNatClampNeg), y)) hlt (by rw [kv_cell_I hr, hw.2, hn1]) (fun j _ hj => kv_cell_same (hw.1.1 j hj) (by rw [hw.1.2]))] at hP1
    exact kk _ z hz hp l p e s m args below meth c2 D cy ad A H1 locs1 ls hC hP1 hS1 hl
theorem kv_copyZ {r0 n0 n1 : Nat} {sp dp n : Int32} {K : (Nat → Nat → Int32) → Option α} (hr0 : kv_kd r0 = 14) (hr : kv_kd r = 14) (hc0 : r0 < kv_NC) (hc : r < kv_NC) (hn0 : kv_ln r0 = n0) (hn1 : kv_ln r = n1) (hg : kv_cp sp dp n n0 n1 = true) (hbits : kv_bits (c r0) sp.toNatClampNeg n.toNatClampNeg = true) (hw1 : Cond.methodLink M.1.cls idx arraycopyName ∈ kv_gw) (hw2 : Cond.native arraycopyName ∈ kv_gw) (hw3 : Cond.static arraycopyName ∈ kv_gw) (hw4 : Cond.initialized "java/lang/System" ∈ kv_gw) (hst : (st.map fun v => v.category).sum ≤ 8) (hd : decode M.2.1 pc = .ok (.invokestatic idx, 3)) (kk : ∀ c2, kv_X M (d + 1) o P (K c2) (pc + 3) lv st (c2, y)) : kv_X M (d + 1) o P (kv_let (va_up c r (va_cpy (c r0) (c r) sp.toNatClampNeg dp.toNatClampNeg n.toNatClampNeg)) K) pc lv (.int n :: .int dp :: .ref r :: .int sp :: .ref r0 :: st) (c, y) := by
  have hlt : r < kv_N := kv_kd_lt hr (by omega)
  have hlt0 : r0 < kv_N := kv_kd_lt hr0 (by omega)
  have hw := kv_row_c (c := c) (y := y) (g := va_cpy (c r0) (c r) sp.toNatClampNeg dp.toNatClampNeg n.toNatClampNeg) hc
  simp only [kv_cp, Bool.and_eq_true, decide_eq_true_eq] at hg
  obtain ⟨g1, g2, g3, g4, g5⟩ := hg
  have neg : ∀ q : Int32, 0 ≤ q.toInt → ¬ q < 0 := fun q h => by
    rw [Int32.lt_iff_toInt_lt]
    exact Int.not_lt.mpr h
  intro z hz hp l p e s m args below meth c2 D cy ad A H locs ls hC hP hS hl
  have hD : va_D A (kv_wl cy ad (c, y)) := kv_wl_D hC.2.2.2.2.2.2.2.2.1 hC.2.2.2.2.2.2.2.2.2.1
  refine va_copyi (own := M.1.cls) (f := c r0) (g := c r) (ty := .boolean) (n0 := n0) (n1 := n1) hC.1 hC.2.1 (by rw [hC.2.2.1]; exact hl.1.symm) hC.2.2.2.2.2.1 (kv_hts hC hw1) (kv_hts hC hw2) (kv_hts hC hw3) (kv_hts hC hw4) hC.2.2.2.2.2.2.2.1 hP hD hS r0 r 2 2 (c0 := cy 14) (c1 := cy 14) ?_ ?_ rfl rfl rfl (neg _ g1) (neg _ g2) (neg _ g3) g4 g5 ?_ (Nat.succ_le_succ (Nat.zero_le d)) ?_ hd ?_
  · rw [kv_wl_at hlt0, kv_cell_Z hr0, hn0, kv_gi_c hc0]
  · rw [kv_wl_at hlt, kv_cell_Z hr, hn1, kv_gi_c hc]
  · intro i hi
    have h1 := List.all_eq_true.mp hbits i (List.mem_range.mpr hi)
    simp only [Bool.or_eq_true, beq_iff_eq] at h1
    rcases h1 with h1 | h1 <;> (rw [h1]; rfl)
  · have e1 : (List.map (fun v => v.category) (List.map (kv_cv ad) st)) = List.map (fun v => v.category) st := by
      rw [List.map_map]
      exact List.map_congr_left fun v _ => kv_cat ad v
    rw [e1]
    have e2 : nativeFrameWords "java/lang/System" "arraycopy" 5 + 11 ≤ 56 := by decide
    have e3 : (kv_rm (d + 1)).locals = 64 * (d + 1) := rfl
    omega
  · intro H1 locs1 hP1 _ hS1
    rw [kv_wl_set (w' := (va_up c r (va_cpy (c r0) (c r) sp.toNatClampNeg dp.toNatClampNeg n.toNatClampNeg), y)) hlt (by rw [kv_cell_Z hr, hw.2, hn1]) (fun j _ hj => kv_cell_same (hw.1.1 j hj) (by rw [hw.1.2]))] at hP1
    exact kk _ z hz hp l p e s m args below meth c2 D cy ad A H1 locs1 ls hC hP1 hS1 hl
end KVH
