/-! ===== words: the reading ends, and places don't hang on values ===== -/
section RY
variable {N : Nat} {tx e e2 : Nat → Int32}
/-- the same but for values -/
def tk_sh (r r2 : Nat ⊕ (Int32 × Nat)) : Prop := (∀ q, r = .inl q → r2 = .inl q) ∧ ∀ w q, r = .inr (w, q) → ∃ w2, r2 = .inr (w2, q)
theorem tk_then_l {α : Type} (q : Nat) (K : Int32 → Nat → Option (Nat ⊕ α)) : tk_then (some (.inl q)) K = some (.inl q) := rfl
theorem tk_then_r {α : Type} (w : Int32) (q : Nat) (K : Int32 → Nat → Option (Nat ⊕ α)) : tk_then (some (.inr (w, q))) K = K w q := rfl
theorem tk_sh_then {x x2 : Option (Nat ⊕ (Int32 × Nat))} {K K2 : Int32 → Nat → Option (Nat ⊕ (Int32 × Nat))} {r : Nat ⊕ (Int32 × Nat)} (hx : ∀ z, x = some z → ∃ z2, x2 = some z2 ∧ tk_sh z z2) (hK : ∀ w w2 q r, K w q = some r → ∃ r2, K2 w2 q = some r2 ∧ tk_sh r r2) (h : tk_then x K = some r) : ∃ r2, tk_then x2 K2 = some r2 ∧ tk_sh r r2 := by
  rcases tk_then_some h with ⟨q, a1, a2⟩ | ⟨w, q, a1, a2⟩
  · obtain ⟨z2, b1, b2⟩ := hx _ a1
    rw [b1, b2.1 q rfl, tk_then_l, a2]
    exact ⟨_, rfl, fun q2 e => e, fun w2 q2 e => by (cases e)⟩
  · obtain ⟨z2, b1, b2⟩ := hx _ a1
    obtain ⟨w2, b3⟩ := b2.2 w q rfl
    rw [b1, b3, tk_then_r]
    exact hK w w2 q r a2
theorem tk_shape : ∀ F sel dp v v2 p r, tk_par tx N e F sel dp v p = some r → ∃ r2, tk_par tx N e2 F sel dp v2 p = some r2 ∧ tk_sh r r2 := by
  intro F
  induction F with
  | zero => intro sel dp v v2 p r hr; cases hr
  | succ F ih =>
    intro sel dp v v2 p r hr
    have q0 : ∀ (e : Nat → Int32) (v : Int32), tk_par tx N e (F + 1) sel dp v p = (if sel = 0 then tk_then (tk_par tx N e F 1 dp 0 p) (fun w q => tk_par tx N e F 3 dp w q)
      else if sel = 1 then tk_then (tk_par tx N e F 2 dp 0 p) (fun w q => tk_par tx N e F 4 dp w q)
      else if sel = 2 then
        if tk_at tx N p = 40 ∧ dp < 6 then tk_then (tk_par tx N e F 0 (dp + 1) 0 (p + 1)) (fun w q => if tk_at tx N q = 41 then some (.inr (w, q + 1)) else some (.inl q))
        else if tk_dig (tk_at tx N p) = true then some (tk_num tx N p)
        else if tk_at tx N p = 80 then some (.inr (e 0, p + 1))
        else if tk_at tx N p = 109 then some (.inr (e 1, p + 1))
        else if tk_at tx N p = 111 then some (.inr (e 2, p + 1))
        else if tk_at tx N p = 99 then some (.inr (e 3, p + 1))
        else some (.inl p)
      else if sel = 3 then
        if tk_at tx N p = 43 then tk_then (tk_par tx N e F 1 dp 0 (p + 1)) (fun w q => tk_par tx N e F 3 dp (v + w) q)
        else if tk_at tx N p = 45 then tk_then (tk_par tx N e F 1 dp 0 (p + 1)) (fun w q => tk_par tx N e F 3 dp (v - w) q)
        else some (.inr (v, p))
      else
        if tk_at tx N p = 42 then tk_then (tk_par tx N e F 2 dp 0 (p + 1)) (fun w q => tk_par tx N e F 4 dp (v * w) q)
        else if tk_at tx N p = 47 then tk_then (tk_par tx N e F 2 dp 0 (p + 1)) (fun w q => tk_par tx N e F 4 dp (if w = 0 then 0 else v / w) q)
        else some (.inr (v, p))) := fun _ _ => rfl
    rw [q0] at hr
    rw [q0]
    have sm : ∀ r : Nat ⊕ (Int32 × Nat), tk_sh r r := fun r => ⟨fun q e => e, fun w q e => ⟨w, e⟩⟩
    have at1 : ∀ (a b : Int32) (s : Nat) (z : Nat ⊕ (Int32 × Nat)), (some (.inr (a, s)) : Option (Nat ⊕ (Int32 × Nat))) = some z → ∃ z2, (some (.inr (b, s)) : Option (Nat ⊕ (Int32 × Nat))) = some z2 ∧ tk_sh z z2 := by
      intro a b s z hz
      injection hz with hz
      rw [← hz]
      refine ⟨_, rfl, fun q e => by (cases e), fun w q e => ?_⟩
      cases e
      exact ⟨b, rfl⟩
    by_cases s0 : sel = 0
    · rw [if_pos s0] at hr ⊢
      exact tk_sh_then (fun z hz => ih 1 dp 0 0 p z hz) (fun w w2 q r h => ih 3 dp w w2 q r h) hr
    rw [if_neg s0] at hr ⊢
    by_cases s1 : sel = 1
    · rw [if_pos s1] at hr ⊢
      exact tk_sh_then (fun z hz => ih 2 dp 0 0 p z hz) (fun w w2 q r h => ih 4 dp w w2 q r h) hr
    rw [if_neg s1] at hr ⊢
    by_cases s2 : sel = 2
    · rw [if_pos s2] at hr ⊢
      by_cases z0 : tk_at tx N p = 40 ∧ dp < 6
      · rw [if_pos z0] at hr ⊢
        refine tk_sh_then (fun z hz => ih 0 (dp + 1) 0 0 (p + 1) z hz) (fun w w2 q r h => ?_) hr
        by_cases y : tk_at tx N q = 41
        · rw [if_pos y] at h ⊢
          exact at1 _ _ _ _ h
        · rw [if_neg y] at h ⊢
          exact ⟨r, h, sm r⟩
      rw [if_neg z0] at hr ⊢
      by_cases z1 : tk_dig (tk_at tx N p) = true
      · rw [if_pos z1] at hr ⊢
        exact ⟨r, hr, sm r⟩
      rw [if_neg z1] at hr ⊢
      by_cases z2 : tk_at tx N p = 80
      · rw [if_pos z2] at hr ⊢
        exact at1 _ _ _ _ hr
      rw [if_neg z2] at hr ⊢
      by_cases z3 : tk_at tx N p = 109
      · rw [if_pos z3] at hr ⊢
        exact at1 _ _ _ _ hr
      rw [if_neg z3] at hr ⊢
      by_cases z4 : tk_at tx N p = 111
      · rw [if_pos z4] at hr ⊢
        exact at1 _ _ _ _ hr
      rw [if_neg z4] at hr ⊢
      by_cases z5 : tk_at tx N p = 99
      · rw [if_pos z5] at hr ⊢
        exact at1 _ _ _ _ hr
      rw [if_neg z5] at hr ⊢
      exact ⟨r, hr, sm r⟩
    rw [if_neg s2] at hr ⊢
    by_cases s3 : sel = 3
    · rw [if_pos s3] at hr ⊢
      by_cases z1 : tk_at tx N p = 43
      · rw [if_pos z1] at hr ⊢
        exact tk_sh_then (fun z hz => ih 1 dp 0 0 (p + 1) z hz) (fun w w2 q r h => ih 3 dp (v + w) (v2 + w2) q r h) hr
      rw [if_neg z1] at hr ⊢
      by_cases z2 : tk_at tx N p = 45
      · rw [if_pos z2] at hr ⊢
        exact tk_sh_then (fun z hz => ih 1 dp 0 0 (p + 1) z hz) (fun w w2 q r h => ih 3 dp (v - w) (v2 - w2) q r h) hr
      rw [if_neg z2] at hr ⊢
      exact at1 _ _ _ _ hr
    rw [if_neg s3] at hr ⊢
    by_cases z1 : tk_at tx N p = 42
    · rw [if_pos z1] at hr ⊢
      exact tk_sh_then (fun z hz => ih 2 dp 0 0 (p + 1) z hz) (fun w w2 q r h => ih 4 dp (v * w) (v2 * w2) q r h) hr
    rw [if_neg z1] at hr ⊢
    by_cases z2 : tk_at tx N p = 47
    · rw [if_pos z2] at hr ⊢
      exact tk_sh_then (fun z hz => ih 2 dp 0 0 (p + 1) z hz) (fun w w2 q r h => ih 4 dp (if w = 0 then 0 else v / w) (if w2 = 0 then 0 else v2 / w2) q r h) hr
    rw [if_neg z2] at hr ⊢
    exact at1 _ _ _ _ hr
theorem tk_tot_then {x : Option (Nat ⊕ (Int32 × Nat))} {K : Int32 → Nat → Option (Nat ⊕ (Int32 × Nat))} (hx : ∃ z, x = some z) (hK : ∀ w q, x = some (.inr (w, q)) → ∃ r, K w q = some r) : ∃ r, tk_then x K = some r := by
  obtain ⟨z, hz⟩ := hx
  cases z with
  | inl q => exact ⟨.inl q, by rw [hz]; rfl⟩
  | inr a =>
    obtain ⟨r, hr⟩ := hK a.1 a.2 hz
    exact ⟨r, by rw [hz]; exact hr⟩
theorem tk_tot (hN : N ≤ 100) : ∀ F sel dp v p, dp ≤ 6 → p ≤ N → 3 * (N - p) + 1 + (if sel = 0 then 2 else if sel = 1 then 1 else 0) ≤ F → ∃ r, tk_par tx N e F sel dp v p = some r := by
  intro F
  induction F with
  | zero => intro sel dp v p _ _ h; omega
  | succ F ih =>
    intro sel dp v p hdp hp hF
    have q0 : tk_par tx N e (F + 1) sel dp v p = (if sel = 0 then tk_then (tk_par tx N e F 1 dp 0 p) (fun w q => tk_par tx N e F 3 dp w q)
      else if sel = 1 then tk_then (tk_par tx N e F 2 dp 0 p) (fun w q => tk_par tx N e F 4 dp w q)
      else if sel = 2 then
        if tk_at tx N p = 40 ∧ dp < 6 then tk_then (tk_par tx N e F 0 (dp + 1) 0 (p + 1)) (fun w q => if tk_at tx N q = 41 then some (.inr (w, q + 1)) else some (.inl q))
        else if tk_dig (tk_at tx N p) = true then some (tk_num tx N p)
        else if tk_at tx N p = 80 then some (.inr (e 0, p + 1))
        else if tk_at tx N p = 109 then some (.inr (e 1, p + 1))
        else if tk_at tx N p = 111 then some (.inr (e 2, p + 1))
        else if tk_at tx N p = 99 then some (.inr (e 3, p + 1))
        else some (.inl p)
      else if sel = 3 then
        if tk_at tx N p = 43 then tk_then (tk_par tx N e F 1 dp 0 (p + 1)) (fun w q => tk_par tx N e F 3 dp (v + w) q)
        else if tk_at tx N p = 45 then tk_then (tk_par tx N e F 1 dp 0 (p + 1)) (fun w q => tk_par tx N e F 3 dp (v - w) q)
        else some (.inr (v, p))
      else
        if tk_at tx N p = 42 then tk_then (tk_par tx N e F 2 dp 0 (p + 1)) (fun w q => tk_par tx N e F 4 dp (v * w) q)
        else if tk_at tx N p = 47 then tk_then (tk_par tx N e F 2 dp 0 (p + 1)) (fun w q => tk_par tx N e F 4 dp (if w = 0 then 0 else v / w) q)
        else some (.inr (v, p))) := rfl
    rw [q0]
    clear q0
    have inN : ∀ z : Int, tk_at tx N p = z → z ≠ -1000 → p < N := fun z hz hne => by
      by_cases w : p < N
      · exact w
      · rw [tk_at_out (by omega)] at hz
        exact absurd hz.symm hne
    have pos : ∀ {sel dp : Nat} {v : Int32} {p w q}, sel ≤ 2 → dp ≤ 6 → p ≤ N → tk_par tx N e F sel dp v p = some (.inr (w, q)) → p < q ∧ q ≤ N := by
      intro sel dp v p w q hs hd hp h
      have := (tk_pos hN hd hp h).2 w q rfl
      rw [decide_eq_true hs, if_pos rfl] at this
      exact this
    by_cases s0 : sel = 0
    · rw [if_pos s0]
      rw [if_pos s0] at hF
      refine tk_tot_then (ih 1 dp 0 p hdp hp (by rw [if_neg (by omega), if_pos rfl]; omega)) (fun w q h => ?_)
      have := pos (by omega) hdp hp h
      exact ih 3 dp w q hdp this.2 (by rw [if_neg (by omega), if_neg (by omega)]; omega)
    rw [if_neg s0]
    rw [if_neg s0] at hF
    by_cases s1 : sel = 1
    · rw [if_pos s1]
      rw [if_pos s1] at hF
      refine tk_tot_then (ih 2 dp 0 p hdp hp (by rw [if_neg (by omega), if_neg (by omega)]; omega)) (fun w q h => ?_)
      have := pos (by omega) hdp hp h
      exact ih 4 dp w q hdp this.2 (by rw [if_neg (by omega), if_neg (by omega)]; omega)
    rw [if_neg s1]
    rw [if_neg s1] at hF
    by_cases s2 : sel = 2
    · rw [if_pos s2]
      by_cases z0 : tk_at tx N p = 40 ∧ dp < 6
      · rw [if_pos z0]
        have hlt := inN 40 z0.1 (by omega)
        refine tk_tot_then (ih 0 (dp + 1) 0 (p + 1) (by omega) (by omega) (by rw [if_pos rfl]; omega)) (fun w q h => ?_)
        split
        · exact ⟨_, rfl⟩
        · exact ⟨_, rfl⟩
      rw [if_neg z0]
      split
      · exact ⟨_, rfl⟩
      split
      · exact ⟨_, rfl⟩
      split
      · exact ⟨_, rfl⟩
      split
      · exact ⟨_, rfl⟩
      split
      · exact ⟨_, rfl⟩
      · exact ⟨_, rfl⟩
    rw [if_neg s2]
    have S : ∀ f : Int32 → Int32, p < N → ∃ r, tk_then (tk_par tx N e F 1 dp 0 (p + 1)) (fun w q => tk_par tx N e F 3 dp (f w) q) = some r := by
      intro f hlt
      refine tk_tot_then (ih 1 dp 0 (p + 1) hdp (by omega) (by rw [if_neg (by omega), if_pos rfl]; omega)) (fun w q h => ?_)
      have := pos (by omega) hdp (show p + 1 ≤ N by omega) h
      exact ih 3 dp _ q hdp this.2 (by rw [if_neg (by omega), if_neg (by omega)]; omega)
    have P : ∀ f : Int32 → Int32, p < N → ∃ r, tk_then (tk_par tx N e F 2 dp 0 (p + 1)) (fun w q => tk_par tx N e F 4 dp (f w) q) = some r := by
      intro f hlt
      refine tk_tot_then (ih 2 dp 0 (p + 1) hdp (by omega) (by rw [if_neg (by omega), if_neg (by omega)]; omega)) (fun w q h => ?_)
      have := pos (by omega) hdp (show p + 1 ≤ N by omega) h
      exact ih 4 dp _ q hdp this.2 (by rw [if_neg (by omega), if_neg (by omega)]; omega)
    by_cases s3 : sel = 3
    · rw [if_pos s3]
      by_cases z1 : tk_at tx N p = 43
      · rw [if_pos z1]
        exact S (fun w => v + w) (inN 43 z1 (by omega))
      rw [if_neg z1]
      by_cases z2 : tk_at tx N p = 45
      · rw [if_pos z2]
        exact S (fun w => v - w) (inN 45 z2 (by omega))
      rw [if_neg z2]
      exact ⟨_, rfl⟩
    rw [if_neg s3]
    by_cases z1 : tk_at tx N p = 42
    · rw [if_pos z1]
      exact P (fun w => v * w) (inN 42 z1 (by omega))
    rw [if_neg z1]
    by_cases z2 : tk_at tx N p = 47
    · rw [if_pos z2]
      exact P (fun w => if w = 0 then 0 else v / w) (inN 47 z2 (by omega))
    rw [if_neg z2]
    exact ⟨_, rfl⟩
/-- one statement, taken apart -/
theorem tk_stm_or {n p : Nat} {z : Nat ⊕ (Int32 × Int32 × Nat)} (h : tk_stm tx N e n p = some z) : (∃ q, tk_num tx N p = .inl q ∧ z = .inl q) ∨ ∃ y q, tk_num tx N p = .inr (y, q) ∧ ((tk_at tx N q ≠ 58 ∧ z = .inl q) ∨ (tk_at tx N q = 58 ∧ ((∃ q2, tk_par tx N e n 0 0 0 (q + 1) = some (.inl q2) ∧ z = .inl q2) ∨ ∃ w q2, tk_par tx N e n 0 0 0 (q + 1) = some (.inr (w, q2)) ∧ ((tk_at tx N q2 ≠ 59 ∧ z = .inl q2) ∨ (tk_at tx N q2 = 59 ∧ z = .inr (y, w, q2 + 1)))))) := by
  unfold tk_stm at h
  rcases tk_then_some h with ⟨q, a1, a2⟩ | ⟨y, q, a1, a2⟩
  · exact Or.inl ⟨q, by injection a1, a2⟩
  · refine Or.inr ⟨y, q, by injection a1, ?_⟩
    by_cases z1 : tk_at tx N q = 58
    rotate_left
    · rw [if_neg z1] at a2
      injection a2 with a2
      exact Or.inl ⟨z1, a2.symm⟩
    rw [if_pos z1] at a2
    refine Or.inr ⟨z1, ?_⟩
    rcases tk_then_some a2 with ⟨q2, b1, b2⟩ | ⟨w, q2, b1, b2⟩
    · exact Or.inl ⟨q2, b1, b2⟩
    · refine Or.inr ⟨w, q2, b1, ?_⟩
      by_cases z2 : tk_at tx N q2 = 59
      · rw [if_pos z2] at b2
        injection b2 with b2
        exact Or.inr ⟨z2, b2.symm⟩
      · rw [if_neg z2] at b2
        injection b2 with b2
        exact Or.inl ⟨z2, b2.symm⟩
end RY
