/-! ===== the text of words: what is read (one reading for class and reference) ===== -/
def tk_at (tx : Nat → Int32) (N p : Nat) : Int := if p < N then (tx p).toInt else -1000
def tk_dig (z : Int) : Bool := decide (48 ≤ z) && decide (z ≤ 57)
def tk_num (tx : Nat → Int32) (N p : Nat) : Nat ⊕ (Int32 × Nat) :=
  if tk_dig (tk_at tx N p) = true then
    if tk_at tx N p = 48 then .inr (0, p + 1)
    else if tk_dig (tk_at tx N (p + 1)) = true then
      if tk_dig (tk_at tx N (p + 2)) = true then .inr (((tx p - 48) * 10 + (tx (p + 1) - 48)) * 10 + (tx (p + 2) - 48), p + 3)
      else .inr ((tx p - 48) * 10 + (tx (p + 1) - 48), p + 2)
    else .inr (tx p - 48, p + 1)
  else .inl p
/-- behind a part that may have a fault -/
def tk_then {α : Type} (r : Option (Nat ⊕ (Int32 × Nat))) (K : Int32 → Nat → Option (Nat ⊕ α)) : Option (Nat ⊕ α) := r.bind (fun z => Sum.elim (fun q => some (.inl q)) (fun a => K a.1 a.2) z)
/-- sel 0: a sum, 1: a product, 2: an atom, 3: the rest of a sum behind v, 4: the rest of a product -/
def tk_par (tx : Nat → Int32) (N : Nat) (e : Nat → Int32) : Nat → Nat → Nat → Int32 → Nat → Option (Nat ⊕ (Int32 × Nat))
  | 0 => fun _ _ _ _ => none
  | n + 1 => fun sel dp v p =>
    if sel = 0 then tk_then (tk_par tx N e n 1 dp 0 p) (fun w q => tk_par tx N e n 3 dp w q)
    else if sel = 1 then tk_then (tk_par tx N e n 2 dp 0 p) (fun w q => tk_par tx N e n 4 dp w q)
    else if sel = 2 then
      if tk_at tx N p = 40 ∧ dp < 6 then tk_then (tk_par tx N e n 0 (dp + 1) 0 (p + 1)) (fun w q => if tk_at tx N q = 41 then some (.inr (w, q + 1)) else some (.inl q))
      else if tk_dig (tk_at tx N p) = true then some (tk_num tx N p)
      else if tk_at tx N p = 80 then some (.inr (e 0, p + 1))
      else if tk_at tx N p = 109 then some (.inr (e 1, p + 1))
      else if tk_at tx N p = 111 then some (.inr (e 2, p + 1))
      else if tk_at tx N p = 99 then some (.inr (e 3, p + 1))
      else some (.inl p)
    else if sel = 3 then
      if tk_at tx N p = 43 then tk_then (tk_par tx N e n 1 dp 0 (p + 1)) (fun w q => tk_par tx N e n 3 dp (v + w) q)
      else if tk_at tx N p = 45 then tk_then (tk_par tx N e n 1 dp 0 (p + 1)) (fun w q => tk_par tx N e n 3 dp (v - w) q)
      else some (.inr (v, p))
    else
      if tk_at tx N p = 42 then tk_then (tk_par tx N e n 2 dp 0 (p + 1)) (fun w q => tk_par tx N e n 4 dp (v * w) q)
      else if tk_at tx N p = 47 then tk_then (tk_par tx N e n 2 dp 0 (p + 1)) (fun w q => tk_par tx N e n 4 dp (if w = 0 then 0 else v / w) q)
      else some (.inr (v, p))
/-- one statement: its year and what one is by it -/
def tk_stm (tx : Nat → Int32) (N : Nat) (e : Nat → Int32) (n p : Nat) : Option (Nat ⊕ (Int32 × Int32 × Nat)) :=
  tk_then (some (tk_num tx N p)) (fun y q => if tk_at tx N q = 58 then tk_then (tk_par tx N e n 0 0 0 (q + 1)) (fun w q2 => if tk_at tx N q2 = 59 then some (.inr (y, w, q2 + 1)) else some (.inl q2)) else some (.inl q))
/-- all statements from p on: how many there are from here, where each begins is left out; st counts, hf and hv are the year and the value that hold, wr is the first place of a year above 140 (or none) -/
def tk_all (tx : Nat → Int32) (N : Nat) (e : Nat → Int32) (now : Int) : Nat → Nat → Nat → Int → Int32 → Option Nat → Option (Nat ⊕ (Nat × Int32 × Option Nat))
  | 0 => fun _ _ _ _ _ => none
  | n + 1 => fun p st hf hv wr => (tk_stm tx N e n p).bind (fun z => Sum.elim (fun q => some (.inl q)) (fun a =>
      (fun (hf2 : Int) (hv2 : Int32) (wr2 : Option Nat) => if a.2.2 < N then tk_all tx N e now n a.2.2 (st + 1) hf2 hv2 wr2 else some (.inr (st + 1, hv2, wr2)))
        (if a.1.toInt ≤ now ∧ hf ≤ a.1.toInt then a.1.toInt else hf) (if a.1.toInt ≤ now ∧ hf ≤ a.1.toInt then a.2.1 else hv) (if wr = none ∧ 140 < a.1.toInt then some p else wr)) z)
/-- a text that may hold: read whole, without a fault -/
def tk_ok (tx : Nat → Int32) (N : Nat) (st : Int32) : Prop := ∃ (n k : Nat) (v : Int32), tk_all tx N (fun _ => 0) 0 n 0 0 (-1) 0 none = some (.inr (k, v, none)) ∧ st = nI k
/-! ===== the invariant ===== -/
def iN (v : Nat → Nat → Int32) (s : Nat → Int32) (L T U : Nat) : Prop := L ≤ 10 ∧ T ≤ 20 ∧ U ≤ T ∧ v 1 7 = nI L ∧ s 1 = nI L ∧ v 9 7 = nI T ∧ s 2 = nI T ∧ v 9 8 = nI U ∧ s 3 = nI U
def iG (v : Nat → Nat → Int32) (s : Nat → Int32) : Prop := 0 ≤ (v 0 5).toInt ∧ (v 0 5).toInt ≤ 140 ∧ s 0 = v 0 5 ∧ s 4 = v 0 6 ∧ s 5 = v 0 7 ∧ s 6 = v 0 8 ∧ -99 ≤ (v 0 7).toInt ∧ (v 0 7).toInt ≤ (v 0 8).toInt ∧ (v 0 8).toInt ≤ 99
/-- lump l: numbers of the class, of the reference; their ranges -/
def iL1 (v : Nat → Nat → Int32) (s : Nat → Int32) (b : Int) (l : Nat) : Prop := s (10 + 6 * l) = v 2 l ∧ s (11 + 6 * l) = v 3 l ∧ s (12 + 6 * l) = v 4 l ∧ s (13 + 6 * l) = v 5 l ∧ s (14 + 6 * l) = (if v 7 l = 0 then 0 else v 6 l + 1) ∧ s (15 + 6 * l) = v 7 l ∧ (0 ≤ (v 2 l).toInt ∧ (v 2 l).toInt ≤ 7) ∧ (0 ≤ (v 3 l).toInt ∧ (v 3 l).toInt ≤ 5) ∧ (-9 ≤ (v 4 l).toInt ∧ (v 4 l).toInt ≤ 9) ∧ (-(b + 60 * (v 0 5).toInt) ≤ (v 5 l).toInt ∧ (v 5 l).toInt ≤ b + 60 * (v 0 5).toInt) ∧ (0 ≤ (v 7 l).toInt ∧ (v 7 l).toInt ≤ b) ∧ (v 7 l ≠ 0 → 0 ≤ (v 6 l).toInt ∧ (v 6 l).toInt ≤ 140)
def iP (v : Nat → Nat → Int32) (L : Nat) : Prop := ∀ l l2, l < L → l2 < L → v 2 l = 1 → v 2 l2 = 1 → l = l2
def iA (v : Nat → Nat → Int32) (s : Nat → Int32) : Prop := (∀ i, i < 6 → s (70 + i) = v 8 i ∧ 0 ≤ (v 8 i).toInt ∧ (v 8 i).toInt ≤ 9) ∧ ∀ h, h < 4 → s (76 + h) = v 24 h ∧ 0 ≤ (v 24 h).toInt ∧ (v 24 h).toInt ≤ 99
def iW1 (v : Nat → Nat → Int32) (s : Nat → Int32) (b : Int) (L w : Nat) : Prop := s (80 + 6 * w) = v 10 w ∧ s (81 + 6 * w) = v 11 w ∧ s (82 + 6 * w) = v 12 w ∧ s (83 + 6 * w) = v 13 w ∧ s (84 + 6 * w) = v 14 w ∧ s (85 + 6 * w) = v 15 w ∧ (0 ≤ (v 10 w).toInt ∧ (v 10 w).toInt ≤ 140) ∧ (∃ x y : Nat, x < L ∧ y < L ∧ x ≠ y ∧ v 11 w = nI x ∧ v 12 w = nI y) ∧ (-(2 * b + 100000) ≤ (v 13 w).toInt ∧ (v 13 w).toInt ≤ 2 * b + 100000) ∧ (0 ≤ (v 14 w).toInt ∧ (v 14 w).toInt ≤ 99) ∧ (v 15 w = 0 ∨ v 15 w = 1)
def iX (v : Nat → Nat → Int32) (s : Nat → Int32) : Prop := ∃ N : Nat, N ≤ 100 ∧ v 17 1 = nI N ∧ s 8 = nI N ∧ s 7 = v 17 2 ∧ (∀ i, i < N → s (240 + i) = v 18 i) ∧ tk_ok (v 18) N (v 17 2)
def iC1 (v : Nat → Nat → Int32) (s : Nat → Int32) (h : Nat) : Prop := ∃ K : Nat, K ≤ 12 ∧ v 22 h = nI K ∧ s (340 + 26 * h) = nI K ∧ s (341 + 26 * h) = v 23 h ∧ (0 ≤ (v 23 h).toInt ∧ (v 23 h).toInt ≤ 140) ∧ ∀ k, k < K → s (342 + 26 * h + 2 * k) = v 20 (12 * h + k) ∧ s (343 + 26 * h + 2 * k) = v 21 (12 * h + k) ∧ (-999 ≤ (v 20 (12 * h + k)).toInt ∧ (v 20 (12 * h + k)).toInt ≤ 999) ∧ (0 ≤ (v 21 (12 * h + k)).toInt ∧ (v 21 (12 * h + k)).toInt ≤ 99)
/-- a state of the class (its rows v) and one of the reference (its row s) -/
def iS (v : Nat → Nat → Int32) (s : Nat → Int32) (b : Int) : Prop := ∃ L T U : Nat, iN v s L T U ∧ iG v s ∧ (∀ l, l < L → iL1 v s b l) ∧ iP v L ∧ iA v s ∧ (∀ w, w < T → iW1 v s b L w) ∧ (∀ k, k < U → s (200 + k) = v 16 k) ∧ iX v s ∧ ∀ h, h < 4 → iC1 v s h
/-- what a lump wants, and its failure's number, by its kind, land, rate, number -/
def i_care (kd ld rt : Int32) : Int32 := if kd = 1 then 10 * (ld + 1) else if kd = 2 then ld + 1 + 5 else if kd = 3 then 2 * (ld + 1) else if kd = 4 then 2 * (ld + 1) + rt else if kd = 5 then ld + 1 - 1 else if kd = 6 then ld + 1 + 50 else if kd = 7 then ld + 1 + 3 else ld + 1
def i_toss (kd ld rt nu : Int32) : Int32 := if kd = 1 ∨ rt = 0 then -15 else if kd = 4 then 200 + ld else if kd = 6 then nu + 100 else nu
/-- shelf d -/
def iH1 (c m : Nat → Nat → Int32) (d : Nat) : Prop := m 87 d = c (52 + 2 * d) 1 ∧ (c (52 + 2 * d) 1 = 0 ∨ (c (52 + 2 * d) 1 = 1 ∧ m 91 d = i_care (c (52 + 2 * d) 5) (c (52 + 2 * d) 6) (c (52 + 2 * d) 7) ∧ m 92 d = i_toss (c (52 + 2 * d) 5) (c (52 + 2 * d) 6) (c (52 + 2 * d) 7) (c (52 + 2 * d) 4)) ∨
  (c (52 + 2 * d) 1 = 2 ∧ m 88 d = c (52 + 2 * d) 2 ∧ (c (52 + 2 * d) 2 = 0 ∨ c (52 + 2 * d) 2 = 1 ∨ c (52 + 2 * d) 2 = 2) ∧ m 89 d = c (52 + 2 * d) 3 ∧ (0 ≤ (c (52 + 2 * d) 3).toInt ∧ (c (52 + 2 * d) 3).toInt ≤ 100) ∧ ∀ i, i < 100 → m 90 (100 * d + i) = c (53 + 2 * d) i))
def i_v (c : Nat → Nat → Int32) (B : Nat) : Nat → Nat → Int32 := fun i => c (B + i)
/-- what is out is so, or not: in all places -/
def iB (c : Nat → Nat → Int32) : Prop := ∀ w, w < 20 → (c 16 w = 0 ∨ c 16 w = 1) ∧ (c 41 w = 0 ∨ c 41 w = 1)
/-- class and reference agree; k calls were made -/
def Inv (k : Nat) (c m : Nat → Nat → Int32) : Prop := iS (i_v c 1) (m 85) (9999 + 100 * k) ∧ ((c 0 2 = 0 ∧ m 84 8 = 0) ∨ (c 0 2 = 1 ∧ m 84 8 = 1 ∧ iS (i_v c 26) (m 86) (9999 + 100 * k))) ∧ (∀ d, d < 8 → iH1 c m d) ∧ m 84 14 = -4 ∧ m 84 15 = -4 ∧ m 84 17 = -4 ∧ iB c
