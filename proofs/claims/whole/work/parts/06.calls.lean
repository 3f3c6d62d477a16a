/-! ===== entry, calls, loops, switches ===== -/
theorem kv_lv_args (ad : Nat → Nat) : ∀ (as : List Value) (i : Nat), lv_args i (as.map (kv_cv ad)) = (lv_args i as).map (fun q => (q.1, kv_cv ad q.2))
  | [], _ => rfl
  | v :: as, i => by
    show (i, kv_cv ad v) :: lv_args _ (as.map (kv_cv ad)) = (i, kv_cv ad v) :: (lv_args _ as).map _
    rw [kv_cat, kv_lv_args ad as]
theorem kv_lg_sl (ad : Nat → Nat) : ∀ as : List Value, (lg_sl (as.map (kv_cv ad))).length = (lg_sl as).length
  | [] => rfl
  | v :: as => by
    have ih := kv_lg_sl ad as
    unfold lg_sl at ih ⊢
    rw [List.map_cons, List.flatMap_cons, List.flatMap_cons, List.length_append, List.length_append, ih, kv_cat]
    split <;> rfl
theorem kv_entry {M : kv_MI} {d : Nat} {as : List Value} {w : kv_W} {o : Option Value × kv_W} (hy : plainName M.1.cls = true) (hn : (lg_sl as).length ≤ M.2.2.1) (h : kv_B M d o 0 (lv_args 0 as) [] w) : kv_C M d as w o := by
  intro l D cy ad sz hi
  refine Met.ofW (cc := M.2.1) (maxL := M.2.2.1) (ret := M.2.2.2) hy rfl ?_
  intro p e s m args below meth c s₁ B hml hv
  obtain ⟨rfl, hsz, hP, hK, hN0⟩ := hv
  have hts := atoms_spec (ws := kv_ws M) B.pre
  have hl := lv_entry (as.map (kv_cv ad)) (n := M.2.2.1) (by rw [kv_lg_sl]; exact hn)
  rw [kv_lv_args] at hl
  rw [lg_entry_eq]
  exact h l p e s m _ below meth c D cy ad (kv_A ad sz) s.heap [] _ ⟨B.exec, B.bytes, hml, B.returns, B.notSynchronized, findClass_of_methodNamed B.named, hts, hK, hi, fun i hi => Or.inl ⟨i, hi, rfl⟩, fun q hq => Or.inr (by rw [← hsz]; exact hq), hN0⟩ hP va_S.rf hl
theorem kv_entryX {α : Type} {M : kv_MI} {d : Nat} {as : List Value} {w : kv_W} {E : α → Option Value × kv_W} {x : Option α} (hy : plainName M.1.cls = true) (hn : (lg_sl as).length ≤ M.2.2.1) (h : ∀ o, kv_X M d o (fun a => o = E a) x 0 (lv_args 0 as) [] w) : ∀ a, x = some a → kv_C M d as w (E a) :=
  fun a ha => kv_entry hy hn (h (E a) a ha rfl)
theorem kv_sum8 (ad : Nat → Nat) {st : List Value} (h : (st.map fun v => v.category).sum ≤ 8) : ((st.map (kv_cv ad)).map fun v => v.category).sum ≤ 8 := by
  have e1 : (List.map (fun v => v.category) (List.map (kv_cv ad) st)) = List.map (fun v => v.category) st := by
    rw [List.map_map]
    exact List.map_congr_left fun v _ => kv_cat ad v
  rw [e1]; exact h
section KVC
variable {α β : Type} {M N : kv_MI} {d : Nat} {o : Option Value × kv_W} {P : α → Prop} {x : Option α} {x0 : Option β} {E : β → Option Value × kv_W} {K : β → Option α} {pc : Nat} {lv : List (Nat × Value)} {st as : List Value} {w : kv_W} {r ci n idx : Nat}
theorem kv_blind (D : va_G) (cy : Nat → ClassId) (ad : Nat → Nat) (as : List Value) (w : kv_W) (sz : Nat) : FrameBlind (va_Pc as (fun U => U.heap.size = sz ∧ va_P D kv_cl (kv_wl cy ad w) U.heap ∧ va_K D kv_cl (kv_tys cy) U ∧ kv_nw U)) := fun a U g mk q => by
  obtain ⟨q0, q1, qP, qK, qN⟩ := q
  exact ⟨q0, q1, qP, va_K.moved (u := U) (U := U.calling g mk a) (Vm.Alike.refl U.vm) qK, kv_nw.same (s := U) (U := U.calling g mk a) rfl qN⟩
/-- behind a call's run -/
theorem kv_back {p : Program} {l : Launch} {e : Env} {s : State} {m : MethodId} {args args2 : Array Value} {below : List Frame} {meth : Method} {c : Code} {D : va_G} {cy : Nat → ClassId} {ad : Nat → Nat} {A : Nat → Prop} {H : Heap} {locs : List Loc} {ls : Array Slot} {st0 : List Value} {a : β}
    (hC : kv_Cx M p s m args meth c D cy ad A) (hS : va_S A s.heap H locs) (hl : lv_has ls M.2.2.1 (lv.map (fun q => (q.1, kv_cv ad q.2))))
    (hr : va_Run p l e (kv_rm (d + 1)) s m args below meth c H locs 0 0 0 0 (F0 m pc ls st0) (st.map (kv_cv ad)) (kv_Q D cy ad (kv_A ad H.size) (E a) args2) (kv_A ad H.size))
    (kk : kv_B M (d + 1) o (pc + 3) lv ((E a).1.toList ++ st) (E a).2) : W p l e (kv_rm (d + 1)) s m args below meth c H locs 0 0 (MQ below (kv_Q D cy ad A o) args s 0 0 A) (F0 m pc ls st0) := by
  have hA : ∀ q, kv_A ad H.size q → A q := by
    intro q hq
    rcases hq with ⟨i, hi, rfl⟩ | hq
    · exact hC.2.2.2.2.2.2.2.2.2.1 i hi
    · exact hC.2.2.2.2.2.2.2.2.2.2.1 q (Nat.le_trans hS.1 hq)
  intro T hT X
  obtain ⟨v, st₀, t, T', L, h0, X', hL, e1, e2, ⟨⟨hv, hp, hk⟩, hz, hk2⟩, stp⟩ := hr T hT X
  cases hv
  rw [h0] at hz hk2
  have hS' : va_S A s.heap T'.heap (locs ++ L) := ⟨Nat.le_trans hS.1 (by rw [e1]; exact hz), fun q h1 h2 => by rw [e1, hk2 q (Nat.lt_of_lt_of_le h1 hS.1) (fun z => h2 (hA q z))]; exact hS.2.1 q h1 h2, fun q hq => by
      rcases List.mem_append.mp hq with h | h
      · exact hS.2.2 q h
      · exact hA _ (hL q h)⟩
  rw [← e1] at hp
  have k1 := kk l p e s m args below meth c D cy ad A T'.heap (locs ++ L) ls hC hp hS' hl
  have e3 : ((E a).1.toList ++ st).map (kv_cv ad) = (Option.map (kv_cv ad) (E a).1).toList ++ st.map (kv_cv ad) := by
    rw [List.map_append]
    cases (E a).1 <;> rfl
  rw [e3] at k1
  obtain ⟨t2, a1, b1⟩ := k1 T' rfl X'
  exact ⟨t2, stp t2 a1, b1⟩
theorem kv_callB {p : Program} {s : State} {m : MethodId} {args : Array Value} {meth : Method} {c : Code} {D : va_G} {cy : Nat → ClassId} {ad : Nat → Nat} {A : Nat → Prop} (hC : kv_Cx M p s m args meth c D cy ad A) (hcode : Cond.code N.1 N.2.1 N.2.2.1 N.2.2.2 ∈ kv_gw) (hini : Cond.initialized N.1.cls ∈ kv_gw) (hy : N.1.cls ≠ "java/lang/invoke/MethodHandle" ∧ N.1.cls ≠ "java/lang/invoke/VarHandle") (hp : (parseMethodDescriptor N.1.desc).map (fun d => d.parameters.length) = some n) (hm : N.2.2.1 ≤ 40) :
    ((kv_rm d).cells = 0 ∧ (kv_rm d).slots = 0 ∧ (kv_rm d).frames + 1 ≤ (kv_rm (d + 1)).frames ∧ 8 + (N.2.2.1 + 11) + (kv_rm d).locals ≤ (kv_rm (d + 1)).locals ∧ (∀ w ∈ kv_ws N, ∀ (a' : Array Value) (U : State), s.WarmedH U.vm → w.before a' U = true) ∧ Cond.code N.1 N.2.1 N.2.2.1 N.2.2.2 ∈ kv_ws N) ∧
    (Cond.code N.1 N.2.1 N.2.2.1 N.2.2.2).before args s = true ∧ (Cond.initialized N.1.cls).before args s = true ∧ (N.1.cls ≠ "java/lang/invoke/MethodHandle" ∧ N.1.cls ≠ "java/lang/invoke/VarHandle") ∧ (∀ sig, parseMethodDescriptor N.1.desc = some sig → n = sig.parameters.length) := by
  refine ⟨⟨rfl, rfl, Nat.le_refl _, ?_, ?_, List.mem_cons_self⟩, kv_hts hC hcode, kv_hts hC hini, hy, ?_⟩
  · show 8 + (N.2.2.1 + 11) + 64 * d ≤ 64 * (d + 1)
    omega
  · intro w hw a' U hU
    have hg : w ∈ kv_gw := by
      rcases List.mem_cons.mp hw with h | h
      · rw [h]; exact hcode
      · exact h
    exact word_at hU (kv_gw_good hg) (kv_hts hC hg)
  · intro sig hs
    rw [hs] at hp
    exact (Option.some.inj hp).symm
theorem kv_callV {C : String} {T : u_T} {Nf : Nat} {ty : Nat → FieldType} (hok : kv_okV N n) (hoc : kv_okc ci C T Nf ty) (hcn : C = N.1.cls) (hn : as.length = n) (hr : kv_kd r = ci) (hl0 : Cond.methodLink M.1.cls idx N.1 ∈ kv_gw) (hst : (st.map fun v => v.category).sum ≤ 8) (hd : decode M.2.1 pc = .ok (.invokevirtual idx, 3)) (hN : ∀ a, x0 = some a → kv_C N d (.ref r :: as) w (E a)) (kk : ∀ a, kv_X M (d + 1) o P (K a) (pc + 3) lv ((E a).1.toList ++ st) (E a).2) : kv_X M (d + 1) o P (x0.bind K) pc lv (as.reverse ++ .ref r :: st) w := by
  intro z hz hp
  cases hx0 : x0 with
  | none => rw [hx0] at hz; cases hz
  | some a =>
    rw [hx0] at hz
    have hlt : r < kv_N := kv_kd_lt hr (by have := hoc.2.2.2.1; omega)
    have hka : kv_B M (d + 1) o (pc + 3) lv ((E a).1.toList ++ st) (E a).2 := kk a z hz hp
    intro l p e s m args below meth c D cy ad A H locs ls hC hP hS hl
    have hcb := kv_callB (d := d) hC hok.2.2.2.1 hok.2.2.1 hok.2.2.2.2.1 hok.2.2.2.2.2.1 hok.2.2.2.2.2.2
    have hrun := va_runV (As := as.map (kv_cv ad)) (rest := st.map (kv_cv ad)) (C := N.1.cls) (b := ad r) (H := H) (g := F0 m pc ls ((as.reverse ++ .ref r :: st).map (kv_cv ad))) (l := l) (e := e) (below := below) (meth := meth) (locs := locs) (cells := 0) (slots := 0) ⟨hC.1, hC.2.1, hC.2.2.1, hC.2.2.2.2.2.1, hC.2.2.2.2.2.2.1⟩ (hN a hx0 l D cy ad H.size hC.2.2.2.2.2.2.2.2.1) ⟨⟨hcb.1.1, hcb.1.2.1, hcb.1.2.2.1, hcb.1.2.2.2.1, hcb.1.2.2.2.2.1, hcb.1.2.2.2.2.2, hcb.2.1, hcb.2.2.1, hcb.2.2.2.1, hcb.2.2.2.2, kv_hts hC hl0⟩, kv_hts hC hok.1, kv_hts hC hok.2.1⟩ ⟨kv_blind _ _ _ _ _ _, ?_, ?_⟩ rfl (by rw [List.length_map]; exact hn) hl.1 (by rw [List.map_append, List.map_reverse]; rfl) (lv_room (kv_sum8 ad hst)) hd ⟨Nat.le_refl _, Nat.le_refl _⟩
    · exact kv_back hC hS hl hrun hka
    · have h1 := va_recv (q := (C, T, Nf)) hC.2.2.2.2.2.2.2.1 hP hoc.2.1 (q0 := r) (a := ad r) (fs := (List.range (kv_nf ci)).map (kv_fv ad w r)) (by rw [kv_wl_at hlt, kv_cell_obj hr hoc.2.2.2.1])
      rw [← hcn]
      exact h1
    · intro U hU hW
      exact ⟨rfl, by rw [hU], by rw [hU]; exact hP, va_K.moved hW.alike hC.2.2.2.2.2.2.2.1, kv_nw.warm hW hC.2.2.2.2.2.2.2.2.2.2.2⟩
theorem kv_callS (hok : kv_okS N n) (hn : as.length = n) (hl0 : Cond.methodLink M.1.cls idx N.1 ∈ kv_gw) (hst : (st.map fun v => v.category).sum ≤ 8) (hd : decode M.2.1 pc = .ok (.invokestatic idx, 3)) (hN : ∀ a, x0 = some a → kv_C N d as w (E a)) (kk : ∀ a, kv_X M (d + 1) o P (K a) (pc + 3) lv ((E a).1.toList ++ st) (E a).2) : kv_X M (d + 1) o P (x0.bind K) pc lv (as.reverse ++ st) w := by
  intro z hz hp
  cases hx0 : x0 with
  | none => rw [hx0] at hz; cases hz
  | some a =>
    rw [hx0] at hz
    have hka : kv_B M (d + 1) o (pc + 3) lv ((E a).1.toList ++ st) (E a).2 := kk a z hz hp
    intro l p e s m args below meth c D cy ad A H locs ls hC hP hS hl
    have hcb := kv_callB (d := d) hC hok.2.2.1 hok.2.1 hok.2.2.2.1 hok.2.2.2.2.1 hok.2.2.2.2.2
    have hrun := va_runS (As := as.map (kv_cv ad)) (rest := st.map (kv_cv ad)) (H := H) (g := F0 m pc ls ((as.reverse ++ st).map (kv_cv ad))) (l := l) (e := e) (below := below) (meth := meth) (locs := locs) (cells := 0) (slots := 0) ⟨hC.1, hC.2.1, hC.2.2.1, hC.2.2.2.2.2.1, hC.2.2.2.2.2.2.1⟩ (hN a hx0 l D cy ad H.size hC.2.2.2.2.2.2.2.2.1) ⟨⟨hcb.1.1, hcb.1.2.1, hcb.1.2.2.1, hcb.1.2.2.2.1, hcb.1.2.2.2.2.1, hcb.1.2.2.2.2.2, hcb.2.1, hcb.2.2.1, hcb.2.2.2.1, hcb.2.2.2.2, kv_hts hC hl0⟩, kv_hts hC hok.1⟩ ⟨kv_blind _ _ _ _ _ _, ?_⟩ rfl (by rw [List.length_map]; exact hn) hl.1 (by rw [List.map_append, List.map_reverse]) (lv_room (kv_sum8 ad hst)) hd ⟨Nat.le_refl _, Nat.le_refl _⟩
    · exact kv_back hC hS hl hrun hka
    · intro U hU hW
      exact ⟨rfl, by rw [hU], by rw [hU]; exact hP, va_K.moved hW.alike hC.2.2.2.2.2.2.2.1, kv_nw.warm hW hC.2.2.2.2.2.2.2.2.2.2.2⟩
theorem kv_callSN {host : String} (hok : kv_okS N n) (hn : as.length = n) (hl0 : Cond.methodLinkNest M.1.cls idx N.1 host ∈ lw_tbl) (hst : (st.map fun v => v.category).sum ≤ 8) (hd : decode M.2.1 pc = .ok (.invokestatic idx, 3)) (hN : ∀ a, x0 = some a → kv_C N d as w (E a)) (kk : ∀ a, kv_X M (d + 1) o P (K a) (pc + 3) lv ((E a).1.toList ++ st) (E a).2) : kv_X M (d + 1) o P (x0.bind K) pc lv (as.reverse ++ st) w := by
  intro z hz hp
  cases hx0 : x0 with
  | none => rw [hx0] at hz; cases hz
  | some a =>
    rw [hx0] at hz
    have hka : kv_B M (d + 1) o (pc + 3) lv ((E a).1.toList ++ st) (E a).2 := kk a z hz hp
    intro l p e s m args below meth c D cy ad A H locs ls hC hP hS hl
    have hcb := kv_callB (d := d) hC hok.2.2.1 hok.2.1 hok.2.2.2.1 hok.2.2.2.2.1 hok.2.2.2.2.2
    have hrun := va_runSN (As := as.map (kv_cv ad)) (rest := st.map (kv_cv ad)) (H := H) (g := F0 m pc ls ((as.reverse ++ st).map (kv_cv ad))) (l := l) (e := e) (below := below) (meth := meth) (locs := locs) (cells := 0) (slots := 0) ⟨hC.1, hC.2.1, hC.2.2.1, hC.2.2.2.2.2.1, hC.2.2.2.2.2.2.1⟩ (hN a hx0 l D cy ad H.size hC.2.2.2.2.2.2.2.2.1) ⟨⟨⟨hcb.1.1, hcb.1.2.1, hcb.1.2.2.1, hcb.1.2.2.2.1, hcb.1.2.2.2.2.1, hcb.1.2.2.2.2.2⟩, hcb.2.1, hcb.2.2.1, hcb.2.2.2.1, hcb.2.2.2.2, (hC.2.2.2.2.2.2.2.2.2.2.2 _ _ _ _ hl0).use rfl⟩, kv_hts hC hok.1, trivial⟩ ⟨kv_blind _ _ _ _ _ _, ?_⟩ rfl (by rw [List.length_map]; exact hn) hl.1 (by rw [List.map_append, List.map_reverse]) (lv_room (kv_sum8 ad hst)) hd ⟨Nat.le_refl _, Nat.le_refl _⟩
    · exact kv_back hC hS hl hrun hka
    · intro U hU hW
      exact ⟨rfl, by rw [hU], by rw [hU]; exact hP, va_K.moved hW.alike hC.2.2.2.2.2.2.2.1, kv_nw.warm hW hC.2.2.2.2.2.2.2.2.2.2.2⟩
end KVC
/-! loops -/
theorem kv_loopR {α σ ρ : Type} {M : kv_MI} {d : Nat} {o : Option Value × kv_W} {P : α → Prop} {body : σ → Option (σ ⊕ ρ)} {K : ρ → Option α} {pc : Nat} (LV : σ → List (Nat × Value)) (WW : σ → kv_W) (s0 : σ)
    (hb : ∀ s, kv_X M d o (Sum.elim (fun s2 => kv_B M d o pc (LV s2) [] (WW s2)) (fun r => ∃ a, K r = some a ∧ P a)) (body s) pc (LV s) [] (WW s)) : kv_X M d o P ((kv_loop body s0).bind K) pc (LV s0) [] (WW s0) := by
  intro z hz hp
  cases hlp : kv_loop body s0 with
  | none => rw [hlp] at hz; cases hz
  | some r =>
    rw [hlp] at hz
    obtain ⟨n, hn⟩ := kv_loop_some.mp hlp
    have main : ∀ (n : Nat) (s : σ), kv_loopN body n s = some r → kv_B M d o pc (LV s) [] (WW s) := by
      intro n
      induction n with
      | zero => intro s h; cases h
      | succ n ih =>
        intro s h
        rw [kv_loopN] at h
        cases hbs : body s with
        | none => rw [hbs] at h; cases h
        | some q =>
          rw [hbs] at h
          cases q with
          | inl s2 => exact hb s (.inl s2) hbs (ih s2 h)
          | inr r2 =>
            cases h
            exact hb s (.inr r) hbs ⟨z, hz, hp⟩
    exact main n s0 hn
theorem kv_exit {α ρ : Type} {M : kv_MI} {d : Nat} {o : Option Value × kv_W} {P : α → Prop} {K : ρ → Option α} {r : ρ} {pc : Nat} {lv : List (Nat × Value)} {st : List Value} {w : kv_W} (h : kv_X M d o P (K r) pc lv st w) : (∃ a, K r = some a ∧ P a) → kv_B M d o pc lv st w := fun ⟨a, h1, h2⟩ => h a h1 h2
/-! switches: the cases one behind another -/
theorem kv_swIn {α : Type} {M : kv_MI} {d : Nat} {o : Option Value × kv_W} {P : α → Prop} {X Y : Option α} {pc : Nat} {lv : List (Nat × Value)} {st : List Value} {w : kv_W} {dflt lo hi : Int} {offs : Array Int} {len : Nat} {a v : Int32} {off : Int} {tgt : Nat} (hd : decode M.2.1 pc = .ok (.tableswitch dflt lo hi offs, len)) (h1 : decide (¬ v.toInt < lo) = true) (h2 : decide (¬ hi < v.toInt) = true) (ho : offs[(v.toInt - lo).toNat]? = some off) (ht : (pc : Int) + off = (tgt : Int)) (k : kv_X M d o P X tgt lv st w) (kn : a ≠ v → kv_X M d o P Y pc lv (.int a :: st) w) : kv_X M d o P (if a = v then X else Y) pc lv (.int a :: st) w := by
  intro z hz hp
  by_cases q : a = v
  · rw [if_pos q] at hz
    subst q
    intro l p e s m args below meth c D cy ad A H locs ls hC hP hS hl
    exact lv_tableIn hC.1 hC.2.1 hd (of_decide_eq_true h1) (of_decide_eq_true h2) ho ht (k z hz hp l p e s m args below meth c D cy ad A H locs ls hC hP hS hl)
  · rw [if_neg q] at hz
    exact kn q z hz hp
theorem kv_swOut {α : Type} {M : kv_MI} {d : Nat} {o : Option Value × kv_W} {P : α → Prop} {X : Option α} {pc : Nat} {lv : List (Nat × Value)} {st : List Value} {w : kv_W} {dflt lo hi : Int} {offs : Array Int} {len : Nat} {a : Int32} {tgt : Nat} (hd : decode M.2.1 pc = .ok (.tableswitch dflt lo hi offs, len)) (h : a.toInt < lo ∨ hi < a.toInt) (ht : (pc : Int) + dflt = (tgt : Int)) (k : kv_X M d o P X tgt lv st w) : kv_X M d o P X pc lv (.int a :: st) w := by
  intro z hz hp l p e s m args below meth c D cy ad A H locs ls hC hP hS hl
  exact lv_tableOut hC.1 hC.2.1 hd h ht (k z hz hp l p e s m args below meth c D cy ad A H locs ls hC hP hS hl)
theorem kv_lkIn {α : Type} {M : kv_MI} {d : Nat} {o : Option Value × kv_W} {P : α → Prop} {X Y : Option α} {pc : Nat} {lv : List (Nat × Value)} {st : List Value} {w : kv_W} {dflt : Int} {ps : Array (Int × Int)} {len : Nat} {a v : Int32} {off : Int} {tgt : Nat} (hd : decode M.2.1 pc = .ok (.lookupswitch dflt ps, len)) (hs : (ps.toList.zip (ps.toList.drop 1)).all (fun (a, next) => a.1 < next.1) = true) (ho : Op.lookupswitch.offset ps.toList dflt v.toInt = off) (ht : (pc : Int) + off = (tgt : Int)) (k : kv_X M d o P X tgt lv st w) (kn : a ≠ v → kv_X M d o P Y pc lv (.int a :: st) w) : kv_X M d o P (if a = v then X else Y) pc lv (.int a :: st) w := by
  intro z hz hp
  by_cases q : a = v
  · rw [if_pos q] at hz
    subst q
    intro l p e s m args below meth c D cy ad A H locs ls hC hP hS hl
    exact lv_lookup hC.1 hC.2.1 hd hs ho ht (k z hz hp l p e s m args below meth c D cy ad A H locs ls hC hP hS hl)
  · rw [if_neg q] at hz
    exact kn q z hz hp
theorem kv_lkOut {α : Type} {M : kv_MI} {d : Nat} {o : Option Value × kv_W} {P : α → Prop} {X : Option α} {pc : Nat} {lv : List (Nat × Value)} {st : List Value} {w : kv_W} {dflt : Int} {ps : Array (Int × Int)} {len : Nat} {a : Int32} {tgt : Nat} (hd : decode M.2.1 pc = .ok (.lookupswitch dflt ps, len)) (hs : (ps.toList.zip (ps.toList.drop 1)).all (fun (a, next) => a.1 < next.1) = true) (ho : Op.lookupswitch.offset ps.toList dflt a.toInt = dflt) (ht : (pc : Int) + dflt = (tgt : Int)) (k : kv_X M d o P X tgt lv st w) : kv_X M d o P X pc lv (.int a :: st) w := by
  intro z hz hp l p e s m args below meth c D cy ad A H locs ls hC hP hS hl
  exact lv_lookup hC.1 hC.2.1 hd hs ho ht (k z hz hp l p e s m args below meth c D cy ad A H locs ls hC hP hS hl)
