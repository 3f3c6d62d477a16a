/-! ===== calls in the second judgement ===== -/
section KZC
variable {M N : kv_MI} {R : Room} {k n d : Nat} {E : kz_E} {Q : kz_Q} {pc : Nat} {lv : List (Nat × Value)} {st as : List Value} {w : kv_W} {r ci nn idx : Nat} {o2 : Option Value × kv_W}
theorem kz_back {mc ms : Nat} {p : Program} {l : Launch} {e : Env} {s : State} {m : MethodId} {args args2 : Array Value} {below : List Frame} {meth : Method} {c : Code} {D : va_G} {cy : Nat → ClassId} {ad : Nat → Nat} {A : Nat → Prop} {H : Heap} {locs : List Loc} {ls : Array Slot} {st0 : List Value}
    (hC : kz_Cx M p s m args meth c D cy ad A) (hE : E l p e s m args below meth c D cy ad A) (hS : va_S A s.heap H locs) (hl : lv_has ls M.2.2.1 (lv.map (fun q => (q.1, kv_cv ad q.2))))
    (hr : va_Run p l e R s m args below meth c H locs k n mc ms (F0 m pc ls st0) (st.map (kv_cv ad)) (kv_Q D cy ad (kv_A ad H.size) o2 args2) (kv_A ad H.size))
    (kk : kz_B M R (k + mc) (n + ms) E Q (pc + 3) lv (o2.1.toList ++ st) o2.2) : W p l e R s m args below meth c H locs k n (Q l p e s m args below meth c D cy ad A) (F0 m pc ls st0) := by
  have hA : ∀ q, kv_A ad H.size q → A q := by
    intro q hq
    rcases hq with ⟨i, hi, rfl⟩ | hq
    · exact hC.2.2.2.2.2.2.2.2.2.1 i hi
    · exact hC.2.2.2.2.2.2.2.2.2.2.1 q (Nat.le_trans hS.1 hq)
  intro T hT X
  obtain ⟨v, st₀, t, T', L, h0, X', hL, e1, e2, ⟨⟨hv, hp, hk⟩, hz, hk2⟩, stp⟩ := hr T hT X
  cases hv
  rw [h0] at hz hk2
  have hS' : va_S A s.heap T'.heap (locs ++ L) := ⟨Nat.le_trans hS.1 (by rw [e1]; exact hz), fun q h1 h2 => by rw [e1, hk2 q (Nat.lt_of_lt_of_le h1 hS.1) (fun z => h2 (hA q z))]; exact hS.2.1 q h1 h2, fun q hq => by
      rcases List.mem_append.mp hq with h | h
      · exact hS.2.2 q h
      · exact hA _ (hL q h)⟩
  rw [← e1] at hp
  have k1 := kk l p e s m args below meth c D cy ad A T'.heap (locs ++ L) ls hC hE hp hS' hl
  have e3 : (o2.1.toList ++ st).map (kv_cv ad) = (Option.map (kv_cv ad) o2.1).toList ++ st.map (kv_cv ad) := by
    rw [List.map_append]
    cases o2.1 <;> rfl
  rw [e3] at k1
  obtain ⟨t2, a1, b1⟩ := k1 T' rfl X'
  exact ⟨t2, stp t2 a1, b1⟩
def kz_room (R : Room) (k n d x : Nat) : Prop := d + 1 ≤ R.frames ∧ 8 + (x + 11) + 64 * d ≤ R.locals ∧ k ≤ R.cells ∧ n ≤ R.slots
theorem kz_callB {p : Program} {s : State} {m : MethodId} {args : Array Value} {meth : Method} {c : Code} {D : va_G} {cy : Nat → ClassId} {ad : Nat → Nat} {A : Nat → Prop} (hC : kz_Cx M p s m args meth c D cy ad A) (hcode : Cond.code N.1 N.2.1 N.2.2.1 N.2.2.2 ∈ kv_gw) (hini : Cond.initialized N.1.cls ∈ kv_gw) (hy : N.1.cls ≠ "java/lang/invoke/MethodHandle" ∧ N.1.cls ≠ "java/lang/invoke/VarHandle") (hp : (parseMethodDescriptor N.1.desc).map (fun d => d.parameters.length) = some nn) (hR : kz_room R k n d N.2.2.1) :
    ((kv_rm d).cells = 0 ∧ (kv_rm d).slots = 0 ∧ (kv_rm d).frames + 1 ≤ R.frames ∧ 8 + (N.2.2.1 + 11) + (kv_rm d).locals ≤ R.locals ∧ (∀ w ∈ kv_ws N, ∀ (a' : Array Value) (U : State), s.WarmedH U.vm → w.before a' U = true) ∧ Cond.code N.1 N.2.1 N.2.2.1 N.2.2.2 ∈ kv_ws N) ∧
    (Cond.code N.1 N.2.1 N.2.2.1 N.2.2.2).before args s = true ∧ (Cond.initialized N.1.cls).before args s = true ∧ (N.1.cls ≠ "java/lang/invoke/MethodHandle" ∧ N.1.cls ≠ "java/lang/invoke/VarHandle") ∧ (∀ sig, parseMethodDescriptor N.1.desc = some sig → nn = sig.parameters.length) := by
  refine ⟨⟨rfl, rfl, hR.1, hR.2.1, ?_, List.mem_cons_self⟩, kz_hts hC hcode, kz_hts hC hini, hy, ?_⟩
  · intro w hw a' U hU
    have hg : w ∈ kv_gw := by
      rcases List.mem_cons.mp hw with h | h
      · rw [h]; exact hcode
      · exact h
    exact word_at hU (kv_gw_good hg) (kz_hts hC hg)
  · intro sig hs
    rw [hs] at hp
    exact (Option.some.inj hp).symm
theorem kz_callV {C : String} {T : u_T} {Nf : Nat} {ty : Nat → FieldType} (hok : kv_okV N nn) (hoc : kv_okc ci C T Nf ty) (hcn : C = N.1.cls) (hn : as.length = nn) (hr : kv_kd r = ci) (hl0 : Cond.methodLink M.1.cls idx N.1 ∈ kv_gw) (hst : (st.map fun v => v.category).sum ≤ 8) (hd : decode M.2.1 pc = .ok (.invokevirtual idx, 3)) (hR : kz_room R k n d N.2.2.1) (hN : kv_C N d (.ref r :: as) w o2) (kk : kz_B M R k n E Q (pc + 3) lv (o2.1.toList ++ st) o2.2) : kz_B M R k n E Q pc lv (as.reverse ++ .ref r :: st) w := by
  have hlt : r < kv_N := kv_kd_lt hr (by have := hoc.2.2.2.1; omega)
  intro l p e s m args below meth c D cy ad A H locs ls hC hE hP hS hl
  have hcb := kz_callB (d := d) hC hok.2.2.2.1 hok.2.2.1 hok.2.2.2.2.1 hok.2.2.2.2.2.1 hR
  have hrun := va_runV (As := as.map (kv_cv ad)) (rest := st.map (kv_cv ad)) (C := N.1.cls) (b := ad r) (H := H) (g := F0 m pc ls ((as.reverse ++ .ref r :: st).map (kv_cv ad))) (l := l) (e := e) (below := below) (meth := meth) (locs := locs) (cells := k) (slots := n) ⟨hC.1, hC.2.1, hC.2.2.1, hC.2.2.2.2.2.1, hC.2.2.2.2.2.2.1⟩ (hN l D cy ad H.size hC.2.2.2.2.2.2.2.2.1) ⟨⟨hcb.1.1, hcb.1.2.1, hcb.1.2.2.1, hcb.1.2.2.2.1, hcb.1.2.2.2.2.1, hcb.1.2.2.2.2.2, hcb.2.1, hcb.2.2.1, hcb.2.2.2.1, hcb.2.2.2.2, kz_hts hC hl0⟩, kz_hts hC hok.1, kz_hts hC hok.2.1⟩ ⟨kv_blind _ _ _ _ _ _, ?_, ?_⟩ rfl (by rw [List.length_map]; exact hn) hl.1 (by rw [List.map_append, List.map_reverse]; rfl) (lv_room (kv_sum8 ad hst)) hd ⟨hR.2.2.1, hR.2.2.2⟩
  · exact kz_back hC hE hS hl hrun kk
  · have h1 := va_recv (q := (C, T, Nf)) hC.2.2.2.2.2.2.2.1 hP hoc.2.1 (q0 := r) (a := ad r) (fs := (List.range (kv_nf ci)).map (kv_fv ad w r)) (by rw [kv_wl_at hlt, kv_cell_obj hr hoc.2.2.2.1])
    rw [← hcn]
    exact h1
  · intro U hU hW
    exact ⟨rfl, by rw [hU], by rw [hU]; exact hP, va_K.moved hW.alike hC.2.2.2.2.2.2.2.1, kv_nw.warm hW hC.2.2.2.2.2.2.2.2.2.2.2⟩
theorem kz_callS (hok : kv_okS N nn) (hn : as.length = nn) (hl0 : Cond.methodLink M.1.cls idx N.1 ∈ kv_gw) (hst : (st.map fun v => v.category).sum ≤ 8) (hd : decode M.2.1 pc = .ok (.invokestatic idx, 3)) (hR : kz_room R k n d N.2.2.1) (hN : kv_C N d as w o2) (kk : kz_B M R k n E Q (pc + 3) lv (o2.1.toList ++ st) o2.2) : kz_B M R k n E Q pc lv (as.reverse ++ st) w := by
  intro l p e s m args below meth c D cy ad A H locs ls hC hE hP hS hl
  have hcb := kz_callB (d := d) hC hok.2.2.1 hok.2.1 hok.2.2.2.1 hok.2.2.2.2.1 hR
  have hrun := va_runS (As := as.map (kv_cv ad)) (rest := st.map (kv_cv ad)) (H := H) (g := F0 m pc ls ((as.reverse ++ st).map (kv_cv ad))) (l := l) (e := e) (below := below) (meth := meth) (locs := locs) (cells := k) (slots := n) ⟨hC.1, hC.2.1, hC.2.2.1, hC.2.2.2.2.2.1, hC.2.2.2.2.2.2.1⟩ (hN l D cy ad H.size hC.2.2.2.2.2.2.2.2.1) ⟨⟨hcb.1.1, hcb.1.2.1, hcb.1.2.2.1, hcb.1.2.2.2.1, hcb.1.2.2.2.2.1, hcb.1.2.2.2.2.2, hcb.2.1, hcb.2.2.1, hcb.2.2.2.1, hcb.2.2.2.2, kz_hts hC hl0⟩, kz_hts hC hok.1⟩ ⟨kv_blind _ _ _ _ _ _, ?_⟩ rfl (by rw [List.length_map]; exact hn) hl.1 (by rw [List.map_append, List.map_reverse]) (lv_room (kv_sum8 ad hst)) hd ⟨hR.2.2.1, hR.2.2.2⟩
  · exact kz_back hC hE hS hl hrun kk
  · intro U hU hW
    exact ⟨rfl, by rw [hU], by rw [hU]; exact hP, va_K.moved hW.alike hC.2.2.2.2.2.2.2.1, kv_nw.warm hW hC.2.2.2.2.2.2.2.2.2.2.2⟩
end KZC
