/-! ===== calls of methods that throw, or catch ===== -/
def kx_ws (M : kv_MI) (hh : List (Nat × Nat × Nat × Nat)) : List Cond := Cond.codeWith M.1 M.2.1 M.2.2.1 M.2.2.2 hh :: kv_gw
/-- the contract of a method that catches -/
def kx_D (M : kv_MI) (hh : List (Nat × Nat × Nat × Nat)) (d : Nat) (as : List Value) (w : kv_W) (o : Option Value × kv_W) : Prop :=
  ∀ (l : Launch) (D : va_G) (cy : Nat → ClassId) (ad : Nat → Nat) (sz s1 s2 s3 : Nat), l.stackTraces = false → kv_inj ad → Met l M.1 (kx_ws M hh) (kx_rm d) (va_Pc (as.map (kv_cv ad)) (kx_Pc D cy ad sz s1 s2 s3 w)) (kv_Q D cy ad (kv_A ad sz) o) 1 6 (kv_A ad sz)
def kx_EH (hh : List (Nat × Nat × Nat × Nat)) : kz_E := fun l p e s m args below meth c D cy ad A => l.stackTraces = false ∧ c.exceptionTable.toList = tableOf hh ∧ ∃ s1 s2 s3, kx_w s s1 s2 s3 ∧ kx_h A s s.heap
def kx_QD (o : Option Value × kv_W) : kz_Q := fun l p e s m args below meth c D cy ad A => MQ below (kv_Q D cy ad A o) args s 1 6 A
theorem kx_ofWH {l : Launch} {y : MethodName} {ws ws' : List Cond} {rm : Room} {Pc : Array Value → State → Prop} {Qc : Array Value → State → Outcome → State → Prop} {mc ms : Nat} {free : Addr → Prop} {cc : ByteArray} {maxL : Nat} {ret : Option FieldType} {hh : List (Nat × Nat × Nat × Nat)}
    (hy : plainName y.cls = true) (hw : ws = Cond.codeWith y cc maxL ret hh :: ws')
    (body : ∀ p e s m args below meth c s₁, BodyLoose p l y (headSpec ws rm) cc maxL ret e s m args below meth c s₁ → c.maxLocals = maxL → Pc args s →
      W p l e (headSpec ws rm).room s m args below meth c s.heap [] 0 0 (MQ below Qc args s mc ms free) (entryFrame m args maxL)) : Met l y ws rm Pc Qc mc ms free := by
  refine MetFree.of_bodyS (code := cc) (maxLocals := maxL) (ret := ret) hy ?_ ?_
  · intro args s m h hn
    obtain ⟨m9, meth, c, hn9, h1, h2, h3, h4, -, h5, h6, -⟩ := Cond.codeWith_spec (atoms_spec (ws := ws) h _ (by rw [hw]; exact List.mem_cons_self))
    cases hn.symm.trans hn9
    exact ⟨meth, c, h1, h2, h3, h4, h5, h6⟩
  · intro p e s m args below meth c s₁ B hml hP _
    have hh0 : s₁.heap = s.heap := by rw [B.state]; rfl
    obtain ⟨t, a1, o, b1, b2, b3⟩ := body p e s m args below meth c s₁ B hml hP s₁ hh0 (Stand.of_body B)
    exact ⟨t, o, a1, b1, b2, ⟨b3.1, b3.2⟩⟩
theorem kx_entryD {M : kv_MI} {hh : List (Nat × Nat × Nat × Nat)} {d : Nat} {as : List Value} {w : kv_W} {o : Option Value × kv_W} (hy : plainName M.1.cls = true) (hn : (lg_sl as).length ≤ M.2.2.1) (h : kz_B M (kx_rm d) 0 0 (kx_EH hh) (kx_QD o) 0 (lv_args 0 as) [] w) : kx_D M hh d as w o := by
  intro l D cy ad sz s1 s2 s3 hfl hi
  refine kx_ofWH (cc := M.2.1) (maxL := M.2.2.1) (ret := M.2.2.2) (hh := hh) hy rfl ?_
  intro p e s m args below meth c s₁ B hml hv
  obtain ⟨rfl, hsz, hP, hK, hN0, hW0, hH0⟩ := hv
  have hts := atoms_spec (ws := kx_ws M hh) B.pre
  have htab := vx_table (x := M.1) B (hts _ List.mem_cons_self)
  have hl := lv_entry (as.map (kv_cv ad)) (n := M.2.2.1) (by rw [kv_lg_sl]; exact hn)
  rw [kv_lv_args] at hl
  rw [lg_entry_eq]
  exact h l p e s m _ below meth c D cy ad (kv_A ad sz) s.heap [] _ ⟨B.exec, B.bytes, hml, B.returns, B.notSynchronized, findClass_of_methodNamed B.named, fun v hv => hts v (List.mem_cons_of_mem _ hv), hK, hi, fun i hi => Or.inl ⟨i, hi, rfl⟩, fun q hq => Or.inr (by rw [← hsz]; exact hq), hN0⟩ ⟨hfl, htab, s1, s2, s3, hW0, hH0⟩ hP va_S.rf hl
/-- an exception over the frame -/
def kz_V (M : kv_MI) (R : Room) (k n : Nat) (E : kz_E) (Q : kz_Q) (pc : Nat) (lv : List (Nat × Value)) (st : List Value) (E0 : String) (w : kv_W) : Prop :=
  ∀ (l : Launch) (p : Program) (e : Env) (s : State) (m : MethodId) (args : Array Value) (below : List Frame) (meth : Method) (c : Code) (D : va_G) (cy : Nat → ClassId) (ad : Nat → Nat) (A : Nat → Prop) (H : Heap) (locs : List Loc) (ls : Array Slot) (q : Addr) (ce : Cell),
    kz_Cx M p s m args meth c D cy ad A → E l p e s m args below meth c D cy ad A → va_P D kv_cl (kv_wl cy ad w) H → va_S A s.heap H locs → lv_has ls M.2.2.1 (lv.map (fun q => (q.1, kv_cv ad q.2))) → H[q]? = some ce → ce.vm = .none → s.vm.findClass E0 = some ce.cls →
    vx_W p l e R s m args below meth c H locs k n (Q l p e s m args below meth c D cy ad A) (F0 m pc ls (st.map (kv_cv ad))) q
def kz_X (E : kz_E) : Prop := ∀ l p e s m args below meth c D cy ad A, E l p e s m args below meth c D cy ad A → l.stackTraces = false ∧ ∃ s1 s2 s3, kx_w s s1 s2 s3 ∧ kx_h A s s.heap
section KZX
variable {M N : kv_MI} {R : Room} {k n d : Nat} {E : kz_E} {Q : kz_Q} {pc : Nat} {lv : List (Nat × Value)} {st as : List Value} {w : kv_W} {r ci nn idx : Nat} {o2 : Option Value × kv_W} {x : (String × kv_W) ⊕ (Option Value × kv_W)}
theorem kz_pre {p : Program} {s : State} {m : MethodId} {args : Array Value} {meth : Method} {c : Code} {D : va_G} {cy : Nat → ClassId} {ad : Nat → Nat} {A : Nat → Prop} {H : Heap} {locs : List Loc} {s1 s2 s3 : Nat} (hC : kz_Cx M p s m args meth c D cy ad A) (hP : va_P D kv_cl (kv_wl cy ad w) H) (hS : va_S A s.heap H locs) (hW0 : kx_w s s1 s2 s3) (hH0 : kx_h A s s.heap) (U : State) (hU : U.heap = H) (hW : s.WarmedH U.vm) : kx_Pc D cy ad H.size s1 s2 s3 w U := by
  have hA : ∀ q, kv_A ad H.size q → A q := by
    intro q hq
    rcases hq with ⟨i, hi, rfl⟩ | hq
    · exact hC.2.2.2.2.2.2.2.2.2.1 i hi
    · exact hC.2.2.2.2.2.2.2.2.2.2.1 q (Nat.le_trans hS.1 hq)
  exact ⟨by rw [hU], by rw [hU]; exact hP, va_K.moved hW.alike hC.2.2.2.2.2.2.2.1, kv_nw.warm hW hC.2.2.2.2.2.2.2.2.2.2.2, kx_w.warm hW hW0, by rw [hU]; exact kx_h.moved hW.alike ((hH0.kept hS.2.1).narrow hA)⟩
theorem kz_callBX {p : Program} {s : State} {m : MethodId} {args : Array Value} {meth : Method} {c : Code} {D : va_G} {cy : Nat → ClassId} {ad : Nat → Nat} {A : Nat → Prop} {cw : Cond} (hC : kz_Cx M p s m args meth c D cy ad A) (hcode : cw ∈ kv_gw) (hini : Cond.initialized N.1.cls ∈ kv_gw) (hy : N.1.cls ≠ "java/lang/invoke/MethodHandle" ∧ N.1.cls ≠ "java/lang/invoke/VarHandle") (hp : (parseMethodDescriptor N.1.desc).map (fun d => d.parameters.length) = some nn) (hR : kz_room R (k + 1) (n + 6) d N.2.2.1) :
    ((kx_rm d).cells = 1 ∧ (kx_rm d).slots = 6 ∧ (kx_rm d).frames + 1 ≤ R.frames ∧ 8 + (N.2.2.1 + 11) + (kx_rm d).locals ≤ R.locals ∧ (∀ w ∈ cw :: kv_gw, ∀ (a' : Array Value) (U : State), s.WarmedH U.vm → w.before a' U = true) ∧ cw ∈ cw :: kv_gw) ∧
    cw.before args s = true ∧ (Cond.initialized N.1.cls).before args s = true ∧ (N.1.cls ≠ "java/lang/invoke/MethodHandle" ∧ N.1.cls ≠ "java/lang/invoke/VarHandle") ∧ (∀ sig, parseMethodDescriptor N.1.desc = some sig → nn = sig.parameters.length) := by
  refine ⟨⟨rfl, rfl, hR.1, hR.2.1, ?_, List.mem_cons_self⟩, kz_hts hC hcode, kz_hts hC hini, hy, ?_⟩
  · intro w hw a' U hU
    have hg : w ∈ kv_gw := by
      rcases List.mem_cons.mp hw with h | h
      · rw [h]; exact hcode
      · exact h
    exact word_at hU (kv_gw_good hg) (kz_hts hC hg)
  · intro sig hs
    rw [hs] at hp
    exact (Option.some.inj hp).symm
theorem kz_callVX {C : String} {T : u_T} {Nf : Nat} {ty : Nat → FieldType} (hX : kz_X E) (hok : kv_okV N nn) (hoc : kv_okc ci C T Nf ty) (hcn : C = N.1.cls) (hn : as.length = nn) (hr : kv_kd r = ci) (hl0 : Cond.methodLink M.1.cls idx N.1 ∈ kv_gw) (hst : (st.map fun v => v.category).sum ≤ 8) (hd : decode M.2.1 pc = .ok (.invokevirtual idx, 3)) (hR : kz_room R (k + 1) (n + 6) d N.2.2.1) (hN : kx_C N d (.ref r :: as) w x) (kr : ∀ o, x = .inr o → kz_B M R (k + 1) (n + 6) E Q (pc + 3) lv (o.1.toList ++ st) o.2) (kt : ∀ E0 wx, x = .inl (E0, wx) → kz_V M R (k + 1) (n + 6) E Q pc lv st E0 wx) : kz_B M R k n E Q pc lv (as.reverse ++ .ref r :: st) w := by
  have hlt : r < kv_N := kv_kd_lt hr (by have := hoc.2.2.2.1; omega)
  intro l p e s m args below meth c D cy ad A H locs ls hC hE hP hS hl
  obtain ⟨hfl, s1, s2, s3, hW0, hH0⟩ := hX l p e s m args below meth c D cy ad A hE
  have hcb := kz_callBX (N := N) (k := k) (n := n) (d := d) hC hok.2.2.2.1 hok.2.2.1 hok.2.2.2.2.1 hok.2.2.2.2.2.1 hR
  have hrun := vx_runV (As := as.map (kv_cv ad)) (rest := st.map (kv_cv ad)) (C := N.1.cls) (b := ad r) (H := H) (g := F0 m pc ls ((as.reverse ++ .ref r :: st).map (kv_cv ad))) (l := l) (e := e) (below := below) (meth := meth) (locs := locs) (cells := k) (slots := n) ⟨hC.1, hC.2.1, hC.2.2.1, hC.2.2.2.2.2.1, hC.2.2.2.2.2.2.1⟩ (hN l D cy ad H.size s1 s2 s3 hfl hC.2.2.2.2.2.2.2.2.1) ⟨⟨hcb.1.1, hcb.1.2.1, hcb.1.2.2.1, hcb.1.2.2.2.1, hcb.1.2.2.2.2.1, hcb.1.2.2.2.2.2, hcb.2.1, hcb.2.2.1, hcb.2.2.2.1, hcb.2.2.2.2, kz_hts hC hl0⟩, kz_hts hC hok.1, kz_hts hC hok.2.1⟩ ⟨kx_blind _ _ _ _ _ _ _ _ _, ?_, fun U hU hW => ⟨rfl, kz_pre hC hP hS hW0 hH0 U hU hW⟩⟩ rfl (by rw [List.length_map]; exact hn) hl.1 (by rw [List.map_append, List.map_reverse]; rfl) (lv_room (kv_sum8 ad hst)) hd ⟨hR.2.2.1, hR.2.2.2⟩
  rotate_left
  · have h1 := va_recv (q := (C, T, Nf)) hC.2.2.2.2.2.2.2.1 hP hoc.2.1 (q0 := r) (a := ad r) (fs := (List.range (kv_nf ci)).map (kv_fv ad w r)) (by rw [kv_wl_at hlt, kv_cell_obj hr hoc.2.2.2.1])
    rw [← hcn]
    exact h1
  have hA : ∀ q, kv_A ad H.size q → A q := by
    intro q hq
    rcases hq with ⟨i, hi, rfl⟩ | hq
    · exact hC.2.2.2.2.2.2.2.2.2.1 i hi
    · exact hC.2.2.2.2.2.2.2.2.2.2.1 q (Nat.le_trans hS.1 hq)
  have hS2 : ∀ (T' : State) (t st₀ : State) (L : List Loc), st₀.heap = H → T'.heap = t.heap → va_F (kv_A ad H.size) st₀ t → (∀ q ∈ L, kv_A ad H.size q.base) → va_S A s.heap T'.heap (locs ++ L) := by
    intro T' t st₀ L h0 e1 hF hL
    obtain ⟨hz, hk2⟩ := hF
    rw [h0] at hz hk2
    exact ⟨Nat.le_trans hS.1 (by rw [e1]; exact hz), fun q h1 h2 => by rw [e1, hk2 q (Nat.lt_of_lt_of_le h1 hS.1) (fun z => h2 (hA q z))]; exact hS.2.1 q h1 h2, fun q hq => by
      rcases List.mem_append.mp hq with h | h
      · exact hS.2.2 q h
      · exact hA _ (hL q h)⟩
  intro T2 hT X
  rcases hrun T2 hT X with ⟨v, st₀, t, T', L, h0, X', hL, e1, e2, ⟨o, hxo, ⟨hv, hp, hk⟩, hF⟩, stp⟩ | ⟨q, st₀, t, T', L, E0, ce, h0, X', hL, e1, e2, ⟨wx, hxo, hp, hk, hF⟩, hce, hcv, hcl, stp⟩
  · cases hv
    have hS' := hS2 T' t st₀ L h0 e1 hF hL
    rw [← e1] at hp
    have k1 := kr o hxo l p e s m args below meth c D cy ad A T'.heap (locs ++ L) ls hC hE hp hS' hl
    have e3 : (o.1.toList ++ st).map (kv_cv ad) = (Option.map (kv_cv ad) o.1).toList ++ st.map (kv_cv ad) := by
      rw [List.map_append]
      cases o.1 <;> rfl
    rw [e3] at k1
    obtain ⟨t2, a1, b1⟩ := k1 T' rfl X'
    exact ⟨t2, stp t2 a1, b1⟩
  · have hS' := hS2 T' t st₀ L h0 e1 hF hL
    rw [← e1] at hp hce
    obtain ⟨t2, a1, b1⟩ := kt E0 wx hxo l p e s m args below meth c D cy ad A T'.heap (locs ++ L) ls q ce hC hE hp hS' hl hce hcv hcl T' rfl X'
    exact ⟨t2, stp.trans a1, b1⟩
/-- a call of a method that catches -/
theorem kz_callVW {hh : List (Nat × Nat × Nat × Nat)} {C : String} {T : u_T} {Nf : Nat} {ty : Nat → FieldType} (hX : kz_X E) (ho1 : Cond.instanceMethod N.1 ∈ kv_gw) (ho2 : Cond.selects N.1.cls N.1 N.1 ∈ kv_gw) (ho3 : Cond.initialized N.1.cls ∈ kv_gw) (ho4 : Cond.codeWith N.1 N.2.1 N.2.2.1 N.2.2.2 hh ∈ kv_gw) (ho5 : N.1.cls ≠ "java/lang/invoke/MethodHandle" ∧ N.1.cls ≠ "java/lang/invoke/VarHandle") (ho6 : (parseMethodDescriptor N.1.desc).map (fun d => d.parameters.length) = some nn) (hoc : kv_okc ci C T Nf ty) (hcn : C = N.1.cls) (hn : as.length = nn) (hr : kv_kd r = ci) (hl0 : Cond.methodLink M.1.cls idx N.1 ∈ kv_gw) (hst : (st.map fun v => v.category).sum ≤ 8) (hd : decode M.2.1 pc = .ok (.invokevirtual idx, 3)) (hR : kz_room R (k + 1) (n + 6) d N.2.2.1) (hN : kx_D N hh d (.ref r :: as) w o2) (kk : kz_B M R (k + 1) (n + 6) E Q (pc + 3) lv (o2.1.toList ++ st) o2.2) : kz_B M R k n E Q pc lv (as.reverse ++ .ref r :: st) w := by
  have hlt : r < kv_N := kv_kd_lt hr (by have := hoc.2.2.2.1; omega)
  intro l p e s m args below meth c D cy ad A H locs ls hC hE hP hS hl
  obtain ⟨hfl, s1, s2, s3, hW0, hH0⟩ := hX l p e s m args below meth c D cy ad A hE
  have hcb := kz_callBX (N := N) (k := k) (n := n) (d := d) hC ho4 ho3 ho5 ho6 hR
  have hrun := vx_runVW (hh := hh) (As := as.map (kv_cv ad)) (rest := st.map (kv_cv ad)) (C := N.1.cls) (b := ad r) (H := H) (g := F0 m pc ls ((as.reverse ++ .ref r :: st).map (kv_cv ad))) (l := l) (e := e) (below := below) (meth := meth) (locs := locs) (cells := k) (slots := n) ⟨hC.1, hC.2.1, hC.2.2.1, hC.2.2.2.2.2.1, hC.2.2.2.2.2.2.1⟩ (hN l D cy ad H.size s1 s2 s3 hfl hC.2.2.2.2.2.2.2.2.1) ⟨hcb.1, hcb.2.1, hcb.2.2.1, hcb.2.2.2.1, hcb.2.2.2.2, kz_hts hC hl0, kz_hts hC ho1, kz_hts hC ho2⟩ ⟨kx_blind _ _ _ _ _ _ _ _ _, ?_, fun U hU hW => ⟨rfl, kz_pre hC hP hS hW0 hH0 U hU hW⟩⟩ rfl (by rw [List.length_map]; exact hn) hl.1 (by rw [List.map_append, List.map_reverse]; rfl) (lv_room (kv_sum8 ad hst)) hd ⟨hR.2.2.1, hR.2.2.2⟩
  · exact kz_back hC hE hS hl hrun kk
  · have h1 := va_recv (q := (C, T, Nf)) hC.2.2.2.2.2.2.2.1 hP hoc.2.1 (q0 := r) (a := ad r) (fs := (List.range (kv_nf ci)).map (kv_fv ad w r)) (by rw [kv_wl_at hlt, kv_cell_obj hr hoc.2.2.2.1])
    rw [← hcn]
    exact h1
theorem kz_callSW {hh : List (Nat × Nat × Nat × Nat)} (hX : kz_X E) (ho1 : Cond.static N.1 ∈ kv_gw) (ho3 : Cond.initialized N.1.cls ∈ kv_gw) (ho4 : Cond.codeWith N.1 N.2.1 N.2.2.1 N.2.2.2 hh ∈ kv_gw) (ho5 : N.1.cls ≠ "java/lang/invoke/MethodHandle" ∧ N.1.cls ≠ "java/lang/invoke/VarHandle") (ho6 : (parseMethodDescriptor N.1.desc).map (fun d => d.parameters.length) = some nn) (hn : as.length = nn) (hl0 : Cond.methodLink M.1.cls idx N.1 ∈ kv_gw) (hst : (st.map fun v => v.category).sum ≤ 8) (hd : decode M.2.1 pc = .ok (.invokestatic idx, 3)) (hR : kz_room R (k + 1) (n + 6) d N.2.2.1) (hN : kx_D N hh d as w o2) (kk : kz_B M R (k + 1) (n + 6) E Q (pc + 3) lv (o2.1.toList ++ st) o2.2) : kz_B M R k n E Q pc lv (as.reverse ++ st) w := by
  intro l p e s m args below meth c D cy ad A H locs ls hC hE hP hS hl
  obtain ⟨hfl, s1, s2, s3, hW0, hH0⟩ := hX l p e s m args below meth c D cy ad A hE
  have hcb := kz_callBX (N := N) (k := k) (n := n) (d := d) hC ho4 ho3 ho5 ho6 hR
  have hrun := vx_runSW (hh := hh) (As := as.map (kv_cv ad)) (rest := st.map (kv_cv ad)) (H := H) (g := F0 m pc ls ((as.reverse ++ st).map (kv_cv ad))) (l := l) (e := e) (below := below) (meth := meth) (locs := locs) (cells := k) (slots := n) ⟨hC.1, hC.2.1, hC.2.2.1, hC.2.2.2.2.2.1, hC.2.2.2.2.2.2.1⟩ (hN l D cy ad H.size s1 s2 s3 hfl hC.2.2.2.2.2.2.2.2.1) ⟨hcb.1, hcb.2.1, hcb.2.2.1, hcb.2.2.2.1, hcb.2.2.2.2, kz_hts hC hl0, kz_hts hC ho1⟩ ⟨kx_blind _ _ _ _ _ _ _ _ _, fun U hU hW => ⟨rfl, kz_pre hC hP hS hW0 hH0 U hU hW⟩⟩ rfl (by rw [List.length_map]; exact hn) hl.1 (by rw [List.map_append, List.map_reverse]) (lv_room (kv_sum8 ad hst)) hd ⟨hR.2.2.1, hR.2.2.2⟩
  exact kz_back hC hE hS hl hrun kk
/-- caught, and put away -/
theorem kz_catch {E0 name : String} {hp : Nat} (pre : List ExceptionTableEntry) (y : ExceptionTableEntry) (suf : List ExceptionTableEntry) (htab : ∀ l p e s m args below meth c D cy ad A, E l p e s m args below meth c D cy ad A → c.exceptionTable.toList = pre ++ y :: suf)
    (hpass : ∀ z ∈ pre, covers z pc = false ∨ (z.catchType ≠ 0 ∧ ∃ nm : String, Cond.classLink M.1.cls z.catchType nm ∈ kv_gw ∧ ∀ l p e s m args below meth c D cy ad A, E l p e s m args below meth c D cy ad A → va_Nc E0 nm s)) (hcov : covers y pc = true) (h0 : y.catchType ≠ 0) (hlink : Cond.classLink M.1.cls y.catchType name ∈ kv_gw)
    (hcast : ∀ l p e s m args below meth c D cy ad A, E l p e s m args below meth c D cy ad A → va_Nw (.castable E0 name) s) (hpc : y.handlerPc = hp)
    (kk : ∀ (l : Launch) (p : Program) (e : Env) (s : State) (m : MethodId) (args : Array Value) (below : List Frame) (meth : Method) (c : Code) (D : va_G) (cy : Nat → ClassId) (ad : Nat → Nat) (A : Nat → Prop) (H : Heap) (locs : List Loc) (ls : Array Slot) (q : Addr), kz_Cx M p s m args meth c D cy ad A → E l p e s m args below meth c D cy ad A → va_P D kv_cl (kv_wl cy ad w) H → va_S A s.heap H locs → lv_has ls M.2.2.1 (lv.map (fun q => (q.1, kv_cv ad q.2))) → W p l e R s m args below meth c H locs k n (Q l p e s m args below meth c D cy ad A) (F0 m hp ls [.ref q])) : kz_V M R k n E Q pc lv st E0 w := by
  intro l p e s m args below meth c D cy ad A H locs ls q ce hC hE hP hS hl hce hcv hcl
  subst hpc
  exact vx_catch hC.2.2.2.2.2.1 pre y suf (htab l p e s m args below meth c D cy ad A hE) (fun z hz => by
    rcases hpass z hz with h | ⟨h1, nm, h2, h3⟩
    · exact Or.inl h
    · exact Or.inr ⟨h1, nm, kz_hts hC h2, h3 l p e s m args below meth c D cy ad A hE⟩) hcov h0 (kz_hts hC hlink) (va_Nw.use rfl (hcast l p e s m args below meth c D cy ad A hE)) hce hcv hcl (kk l p e s m args below meth c D cy ad A H locs ls q hC hE hP hS hl)
end KZX
