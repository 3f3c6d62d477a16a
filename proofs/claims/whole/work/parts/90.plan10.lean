/-! ===== plans: how wide is one number ===== -/
section PH
variable {L : Nat} {Sat : (Nat → Int) → Prop} {T T2 : Nat → Nat → Int}
def pn_tb (T : Nat → Nat → Int) (L : Nat) (Sat : (Nat → Int) → Prop) : Prop := ∀ u v, u < L → v < L → (T u v ≠ 1000000000000 → nt_g Sat u v (T u v)) ∧ (T u v = 1000000000000 → nt_u Sat u v)
theorem pn_tb_eq (h1 : pn_tb T L Sat) (h2 : pn_tb T2 L Sat) : ∀ u v, u < L → v < L → T u v = T2 u v := by
  intro u v hu hv
  by_cases q1 : T u v = 1000000000000
  · by_cases q2 : T2 u v = 1000000000000
    · rw [q1, q2]
    · exact (nt_g_u ((h2 u v hu hv).1 q2) ((h1 u v hu hv).2 q1)).elim
  · by_cases q2 : T2 u v = 1000000000000
    · exact (nt_g_u ((h1 u v hu hv).1 q1) ((h2 u v hu hv).2 q2)).elim
    · exact nt_g_inj ((h1 u v hu hv).1 q1) ((h2 u v hu hv).1 q2)
theorem pn_tb_says {c : Nat → Nat → Int32} {r : Nat} (h : pn_N c r L Sat) : pn_tb (pn_t c r) L Sat := fun u v hu hv => ⟨fun q => (((pn_says h).2.2 u v hu hv).2.1 q).1, ((pn_says h).2.2 u v hu hv).2.2⟩
theorem pn_tb_congr {S2 : (Nat → Int) → Prop} (h : pn_tb T L Sat) (e : ∀ x, Sat x ↔ S2 x) : pn_tb T L S2 := fun u v hu hv => ⟨fun q => (nt_g_congr e).1 _ ((h u v hu hv).1 q), fun q => (nt_g_congr e).2 ((h u v hu hv).2 q)⟩
/-- the table of all turned about -/
theorem pn_tb_neg (h : pn_tb T L (fun x => Sat (fun i => -x i))) : pn_tb (fun u v => T v u) L Sat := by
  have back : ∀ x, Sat x → (fun y : Nat → Int => Sat (fun i => -y i)) (fun i => -x i) := fun x hx => by
    show Sat (fun i => -(fun i => -x i) i)
    rw [pn_neg]; exact hx
  intro u v hu hv
  refine ⟨fun q => ?_, fun q => ?_⟩
  · obtain ⟨⟨x, x1, x2⟩, x3⟩ := (h v u hv hu).1 q
    refine ⟨⟨fun i => -x i, x1, ?_⟩, fun y hy => ?_⟩
    · show -x u - -x v = T v u
      omega
    · have := x3 (fun i => -y i) (back y hy)
      have e : -y v - -y u ≤ T v u := this
      show y u - y v ≤ T v u
      omega
  · have hu2 := (h v u hv hu).2 q
    intro g
    obtain ⟨x, x1, x2⟩ := hu2 g
    exact ⟨fun i => -x i, x1, by show g ≤ -x u - -x v; omega⟩
theorem pn_wd_flip (i j : Nat) : pn_wd (fun u v => T v u) i j = pn_wd T i j := by
  unfold pn_wd
  show (if T j i = 1000000000000 ∨ T i j = 1000000000000 then (9999 : Int) else if 9999 < T j i + T i j then 9999 else T j i + T i j) = _
  rw [Int.add_comm (T j i) (T i j)]
  by_cases q : T j i = 1000000000000 ∨ T i j = 1000000000000
  · rw [if_pos q, if_pos (Or.comm.mp q)]
  · rw [if_neg q, if_neg (fun w => q (Or.comm.mp w))]
theorem pn_w_eq (h : ∀ u v, u < L → v < L → T u v = T2 u v) : pn_w T L = pn_w T2 L := by
  refine pn_sm_eq L (fun i hi => pn_sm_eq (L - (i + 1)) (fun t ht => ?_))
  unfold pn_wd
  rw [h i (i + 1 + t) hi (by omega), h (i + 1 + t) i (by omega) hi]
theorem pn_w_flip : pn_w (fun u v => T v u) L = pn_w T L :=
  pn_sm_eq L (fun i hi => pn_sm_eq (L - (i + 1)) (fun t ht => pn_wd_flip i (i + 1 + t)))
/-- the class's table of -x and any table of x are as wide -/
theorem pn_w_both (h1 : pn_tb T L (fun x => Sat (fun i => -x i))) (h2 : pn_tb T2 L Sat) : pn_w T L = pn_w T2 L := by
  rw [← pn_w_flip (T := T)]
  exact pn_w_eq (pn_tb_eq (pn_tb_neg h1) h2)
end PH
