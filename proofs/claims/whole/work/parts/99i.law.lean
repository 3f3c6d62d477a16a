/-! ===== the law's loop: its rules ===== -/
abbrev kM_law : kv_MI := (⟨"KeptLumpLaw", "law", "([I)Z"⟩, code, 8, ret)
def el_E (L : Nat) (xs : Nat → Int32) : kz_E := fun l _ _ s _ args _ _ _ _ _ ad A => args = #[Value.ref (ad 97)] ∧ va_X (ad 97) L xs s s.heap ∧ ad 97 < s.heap.size ∧ ¬ A (ad 97) ∧ (∀ q, A q → s.heap.size ≤ q) ∧ l.stackTraces = false ∧ ∃ s1 s2 s3, kx_w s s1 s2 s3 ∧ kx_h A s s.heap
def el_Q : kz_Q := fun _ _ _ s _ args below _ _ _ _ _ _ => lw_Z below args s
theorem el_X (L : Nat) (xs : Nat → Int32) : kz_X (el_E L xs) := fun _ _ _ _ _ _ _ _ _ _ _ _ _ h => ⟨h.2.2.2.2.2.1, h.2.2.2.2.2.2⟩
def el_lv (j : Nat) : List (Nat × Value) := [(4, .int (nI (6 * j))), (0, .ref 97), (1, .ref 0), (2, .ref 84), (3, .ref 96)]
section EL
variable {L : Nat} {xs : Nat → Int32} {R : Room} {k n j pc : Nat} {lv : List (Nat × Value)} {st : List Value} {w : kv_W}
theorem el_ld {i : Int32} (hin : vp_in i L) (hd : decode code pc = .ok (.iaload, 1)) (kk : kz_B kM_law R k n (el_E L xs) el_Q (pc + 1) lv (.int (xs i.toNatClampNeg) :: st) w) : kz_B kM_law R k n (el_E L xs) el_Q pc lv (.int i :: .ref 97 :: st) w := by
  intro l p e s m args below meth c D cy ad A H locs ls hC hE hP hS hl
  exact va_sld hC.1 hC.2.1 hE.2.1 hE.2.2.1 hE.2.2.2.1 hS hin hd (kk l p e s m args below meth c D cy ad A H locs ls hC hE hP hS hl)
theorem el_len (hd : decode code pc = .ok (.arraylength, 1)) (kk : kz_B kM_law R k n (el_E L xs) el_Q (pc + 1) lv (.int (nI L) :: st) w) : kz_B kM_law R k n (el_E L xs) el_Q pc lv (.ref 97 :: st) w := by
  intro l p e s m args below meth c D cy ad A H locs ls hC hE hP hS hl
  exact va_slen hC.1 hC.2.1 hE.2.1 hE.2.2.1 hE.2.2.2.1 hS hd (kk l p e s m args below meth c D cy ad A H locs ls hC hE hP hS hl)
theorem el_ret (hk : k ≤ 601024) (hn : n ≤ 7293034) (hd : decode code pc = .ok (.ireturn, 1)) : kz_B kM_law room_1 k n (el_E L xs) el_Q pc lv [.int 1] w := by
  refine kz_widen hk hn ?_
  intro l p e s m args below meth c D cy ad A H locs ls hC hE hP hS hl
  obtain ⟨rfl, -, -, -, hA, -⟩ := hE
  exact va_forget (fun q hq => hA _ (hS.2.2 q hq)) (lw_ret hC.1 hC.2.1 hC.2.2.2.1 hC.2.2.2.2.1 hd)
theorem el_small : ∀ z : Nat, z < 8 → Int32.ofInt (z : Int) = nI z := by decide
def el_argsB : Nat → List Nat → Bool
  | _, [] => true
  | pc, z :: zs => (decide (decode code pc = .ok (.aload_n 0, 1)) && decide (decode code (pc + 1) = .ok (.iload 4, 2)) && decide (decode code (pc + 3) = .ok (.iconst z, 1)) && decide (decode code (pc + 4) = .ok (.iadd, 1)) && decide (decode code (pc + 5) = .ok (.iaload, 1)) && decide (z ≤ 5)) && el_argsB (pc + 6) zs
def el_vals (xs : Nat → Int32) (j : Nat) (zs : List Nat) : List Value := zs.map (fun z => Value.int (xs (6 * j + z)))
theorem el_args (hj : 6 * j + 6 ≤ L) (hL : L ≤ 3072) : ∀ (zs : List Nat) (pc : Nat) (st : List Value), el_argsB pc zs = true → kz_B kM_law R k n (el_E L xs) el_Q (pc + 6 * zs.length) (el_lv j) ((el_vals xs j zs).reverse ++ st) w → kz_B kM_law R k n (el_E L xs) el_Q pc (el_lv j) st w := by
  intro zs
  induction zs with
  | nil => intro pc st _ kk; exact kk
  | cons z zs ih =>
    intro pc st hb kk
    unfold el_argsB at hb
    simp only [Bool.and_eq_true, decide_eq_true_eq] at hb
    obtain ⟨⟨⟨⟨⟨⟨h1, h2⟩, h3⟩, h4⟩, h5⟩, hz⟩, hr⟩ := hb
    have e0 : (nI (6 * j + z)).toNatClampNeg = 6 * j + z := nI_clamp (by omega)
    refine kz_aload_n 1 rfl rfl h1 (kz_iload 0 rfl h2 (kz_iconst h3 (el_small z (by omega)) (kz_iadd h4 ?_)))
    rw [nI_add]
    refine el_ld (vp_in_nI (by omega) (by omega)) h5 ?_
    rw [e0]
    refine ih (pc + 6) (.int (xs (6 * j + z)) :: st) hr ?_
    have e1 : pc + 6 + 6 * zs.length = pc + 6 * (z :: zs).length := by rw [List.length_cons]; omega
    have e2 : (el_vals xs j zs).reverse ++ Value.int (xs (6 * j + z)) :: st = (el_vals xs j (z :: zs)).reverse ++ st := by
      show _ = (Value.int (xs (6 * j + z)) :: el_vals xs j zs).reverse ++ st
      rw [List.reverse_cons, List.append_assoc]
      rfl
    rw [e1, e2]
    exact kk
/-- a call of the class and a call of the reference, side by side -/
def el_duo (NK ND : kv_MI) (dK dD : Nat) (as : List Value) : Prop := ∀ (j : Nat) (c m : Nat → Nat → Int32) (f u : Nat → Int64), j < 600 → Inv j c m → ∃ r c2 m2 f2, kv_C NK dK (.ref 0 :: as) (c, m, f, u) (some (.int r), (c2, m, f, u)) ∧ kv_C ND dD (.ref 84 :: as) (c2, m, f, u) (some (.int r), (c2, m2, f2, u)) ∧ Inv (j + 1) c2 m2
def el_next (L : Nat) (xs : Nat → Int32) (j : Nat) : Prop := ∀ (c m : Nat → Nat → Int32) (f u : Nat → Int64), Inv (j + 1) c m → kz_B kM_law room_1 (97 + (j + 1)) (6379 + 6 * (j + 1)) (el_E L xs) el_Q 1684 (el_lv j) [] (c, m, f, u)
theorem el_room {k n d x : Nat} (hk : k ≤ 601024) (hn : n ≤ 7293034) (hd : d ≤ 40) (hx : x ≤ 40) : kz_room room_1 k n d x := by
  refine ⟨?_, ?_, hk, hn⟩
  · show d + 1 ≤ 2048
    omega
  · show 8 + (x + 11) + 64 * d ≤ 84000
    omega
def el_ck (pc : Nat) (zs : List Nat) (i1 i2 : Nat) (off : Int) : Bool := decide (decode code pc = .ok (.aload_n 1, 1)) && el_argsB (pc + 1) zs && decide (decode code (pc + 1 + 6 * zs.length) = .ok (.invokevirtual i1, 3)) && decide (decode code (pc + 1 + 6 * zs.length + 3) = .ok (.aload_n 2, 1)) && el_argsB (pc + 1 + 6 * zs.length + 3 + 1) zs && decide (decode code (pc + 1 + 6 * zs.length + 3 + 1 + 6 * zs.length) = .ok (.invokevirtual i2, 3)) && decide (decode code (pc + 1 + 6 * zs.length + 3 + 1 + 6 * zs.length + 3) = .ok (.if_icmp .eq off, 3)) && decide (((pc + 1 + 6 * zs.length + 3 + 1 + 6 * zs.length + 3 : Nat) : Int) + off = (1684 : Nat))
theorem el_plain {NK ND : kv_MI} {dK dD i1 i2 : Nat} {zs : List Nat} {off : Int} {c m : Nat → Nat → Int32} {f u : Nat → Int64} (hck : el_ck pc zs i1 i2 off = true) (okK : kv_okV NK zs.length) (okD : kv_okV ND zs.length) (hcK : NK.1.cls = "KeptLump") (hcD : ND.1.cls = "KeptLumpModel") (hl1 : Cond.methodLink "KeptLumpLaw" i1 NK.1 ∈ kv_gw) (hl2 : Cond.methodLink "KeptLumpLaw" i2 ND.1 ∈ kv_gw) (hdK : dK ≤ 40) (hdD : dD ≤ 40) (duo : el_duo NK ND dK dD (el_vals xs j zs)) (hj : 6 * j + 6 ≤ L) (hL : L ≤ 3072) (h : Inv j c m) (next : el_next L xs j) : kz_B kM_law room_1 (97 + j) (6379 + 6 * j) (el_E L xs) el_Q pc (el_lv j) [] (c, m, f, u) := by
  unfold el_ck at hck
  simp only [Bool.and_eq_true, decide_eq_true_eq] at hck
  obtain ⟨⟨⟨⟨⟨⟨⟨h1, h2⟩, h3⟩, h4⟩, h5⟩, h6⟩, h7⟩, h8⟩ := hck
  obtain ⟨r, c2, m2, f2, hK, hD, hI⟩ := duo j c m f u (by omega) h
  have hlen : (el_vals xs j zs).length = zs.length := List.length_map ..
  refine kz_aload_n 2 rfl rfl h1 (el_args hj hL zs _ _ h2 ?_)
  refine kz_callV (as := el_vals xs j zs) (st := []) okK kc_10 hcK.symm hlen (by decide : kv_kd 0 = 10) hl1 (Nat.le_of_ble_eq_true rfl) h3 (el_room (by omega) (by omega) hdK okK.2.2.2.2.2.2) hK ?_
  refine kz_aload_n 3 rfl rfl h4 (el_args hj hL zs _ _ h5 ?_)
  refine kz_callV (as := el_vals xs j zs) (st := [.int r]) okD kc_11 hcD.symm hlen (by decide : kv_kd 84 = 11) hl2 (Nat.le_of_ble_eq_true rfl) h6 (el_room (by omega) (by omega) hdD okD.2.2.2.2.2.2) hD ?_
  refine kz_icmp_eq h7 h8 (fun _ => ?_) (fun q => absurd rfl q)
  exact kz_widen (by omega) (by omega) (next c2 m2 f2 u hI)
theorem el_tabIn {dflt lo hi : Int} {offs : Array Int} {len : Nat} {v : Int32} {off : Int} {tgt : Nat} (hd : decode code pc = .ok (.tableswitch dflt lo hi offs, len)) (h1 : decide (¬ v.toInt < lo) = true) (h2 : decide (¬ hi < v.toInt) = true) (ho : offs[(v.toInt - lo).toNat]? = some off) (ht : (pc : Int) + off = (tgt : Int)) (kk : kz_B kM_law R k n (el_E L xs) el_Q tgt lv st w) : kz_B kM_law R k n (el_E L xs) el_Q pc lv (.int v :: st) w := by
  intro l p e s m args below meth c D cy ad A H locs ls hC hE hP hS hl
  exact lv_tableIn hC.1 hC.2.1 hd (of_decide_eq_true h1) (of_decide_eq_true h2) ho ht (kk l p e s m args below meth c D cy ad A H locs ls hC hE hP hS hl)
theorem el_tabOut {dflt lo hi : Int} {offs : Array Int} {len : Nat} {v : Int32} {tgt : Nat} (hd : decode code pc = .ok (.tableswitch dflt lo hi offs, len)) (h : v.toInt < lo ∨ hi < v.toInt) (ht : (pc : Int) + dflt = (tgt : Int)) (kk : kz_B kM_law R k n (el_E L xs) el_Q tgt lv st w) : kz_B kM_law R k n (el_E L xs) el_Q pc lv (.int v :: st) w := by
  intro l p e s m args below meth c D cy ad A H locs ls hC hE hP hS hl
  exact lv_tableOut hC.1 hC.2.1 hd h ht (kk l p e s m args below meth c D cy ad A H locs ls hC hE hP hS hl)
theorem el_and63 (x : Int32) : ∃ v : Nat, v < 64 ∧ x &&& 63 = nI v := by
  refine ⟨(x &&& 63).toBitVec.toNat, ?_, ?_⟩
  · have e1 : (x &&& 63).toBitVec = x.toBitVec &&& (63 : Int32).toBitVec := rfl
    rw [e1, BitVec.toNat_and]
    exact Nat.lt_of_le_of_lt Nat.and_le_right (by decide)
  · apply Int32.toBitVec_inj.mp
    show _ = BitVec.ofNat 32 _
    rw [BitVec.ofNat_toNat, BitVec.setWidth_eq]
end EL
