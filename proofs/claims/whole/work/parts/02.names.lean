/-! ===== names: the classes, their fields; the cells that the two constructors make, by number ===== -/
def kv_R0 : String := "KeptLump$Chains"
def kv_T0 : u_T := fun k => match k with
  | 0 => ("KeptLump$Chains", "part", "[I", true)
  | 1 => ("KeptLump$Chains", "doubt", "[I", true)
  | 2 => ("KeptLump$Chains", "many", "[I", true)
  | _ => ("KeptLump$Chains", "year", "[I", true)
def kv_t0 : Nat → FieldType := fun k => match k with
  | 0 => .array .int
  | 1 => .array .int
  | 2 => .array .int
  | _ => .array .int
theorem kv_n0 : ∀ a, a < 4 → ∀ b, b < 4 → a ≠ b → (kv_T0 a).2.1 ≠ (kv_T0 b).2.1 := by decide +kernel
theorem kv_tk0 : ∀ k, k < 4 → parseFieldDescriptor (kv_T0 k).2.2.1 = some (kv_t0 k) := by decide +kernel
def kv_R1 : String := "KeptLump$Law"
def kv_T1 : u_T := fun k => match k with
  | 0 => ("KeptLump$Law", "text", "[I", true)
  | 1 => ("KeptLump$Law", "size", "I", false)
  | _ => ("KeptLump$Law", "statements", "I", false)
def kv_t1 : Nat → FieldType := fun k => match k with
  | 0 => .array .int
  | 1 => .int
  | _ => .int
theorem kv_n1 : ∀ a, a < 3 → ∀ b, b < 3 → a ≠ b → (kv_T1 a).2.1 ≠ (kv_T1 b).2.1 := by decide +kernel
theorem kv_tk1 : ∀ k, k < 3 → parseFieldDescriptor (kv_T1 k).2.2.1 = some (kv_t1 k) := by decide +kernel
def kv_R2 : String := "KeptLump$LongNet"
def kv_T2 : u_T := fun k => match k with
  | 0 => ("KeptLump$LongNet", "keys", "[I", true)
  | 1 => ("KeptLump$LongNet", "many", "I", false)
  | 2 => ("KeptLump$LongNet", "leftOut", "I", false)
  | 3 => ("KeptLump$LongNet", "swapYear", "I", false)
  | 4 => ("KeptLump$LongNet", "swapA", "I", false)
  | _ => ("KeptLump$LongNet", "swapB", "I", false)
def kv_t2 : Nat → FieldType := fun k => match k with
  | 0 => .array .int
  | 1 => .int
  | 2 => .int
  | 3 => .int
  | 4 => .int
  | _ => .int
theorem kv_n2 : ∀ a, a < 6 → ∀ b, b < 6 → a ≠ b → (kv_T2 a).2.1 ≠ (kv_T2 b).2.1 := by decide +kernel
theorem kv_tk2 : ∀ k, k < 6 → parseFieldDescriptor (kv_T2 k).2.2.1 = some (kv_t2 k) := by decide +kernel
def kv_R3 : String := "KeptLump$Lumps"
def kv_T3 : u_T := fun k => match k with
  | 0 => ("KeptLump$Lumps", "kind", "[I", true)
  | 1 => ("KeptLump$Lumps", "land", "[I", true)
  | 2 => ("KeptLump$Lumps", "rate", "[I", true)
  | 3 => ("KeptLump$Lumps", "weight", "[I", true)
  | 4 => ("KeptLump$Lumps", "washedIn", "[I", true)
  | 5 => ("KeptLump$Lumps", "washings", "[I", true)
  | 6 => ("KeptLump$Lumps", "air", "[I", true)
  | _ => ("KeptLump$Lumps", "many", "I", false)
def kv_t3 : Nat → FieldType := fun k => match k with
  | 0 => .array .int
  | 1 => .array .int
  | 2 => .array .int
  | 3 => .array .int
  | 4 => .array .int
  | 5 => .array .int
  | 6 => .array .int
  | _ => .int
theorem kv_n3 : ∀ a, a < 8 → ∀ b, b < 8 → a ≠ b → (kv_T3 a).2.1 ≠ (kv_T3 b).2.1 := by decide +kernel
theorem kv_tk3 : ∀ k, k < 8 → parseFieldDescriptor (kv_T3 k).2.2.1 = some (kv_t3 k) := by decide +kernel
def kv_R4 : String := "KeptLump$Net"
def kv_T4 : u_T := fun k => match k with
  | 0 => ("KeptLump$Net", "from", "[I", true)
  | 1 => ("KeptLump$Net", "to", "[I", true)
  | 2 => ("KeptLump$Net", "length", "[I", true)
  | 3 => ("KeptLump$Net", "reach", "[I", true)
  | 4 => ("KeptLump$Net", "knots", "I", false)
  | _ => ("KeptLump$Net", "edges", "I", false)
def kv_t4 : Nat → FieldType := fun k => match k with
  | 0 => .array .int
  | 1 => .array .int
  | 2 => .array .int
  | 3 => .array .int
  | 4 => .int
  | _ => .int
theorem kv_n4 : ∀ a, a < 6 → ∀ b, b < 6 → a ≠ b → (kv_T4 a).2.1 ≠ (kv_T4 b).2.1 := by decide +kernel
theorem kv_tk4 : ∀ k, k < 6 → parseFieldDescriptor (kv_T4 k).2.2.1 = some (kv_t4 k) := by decide +kernel
def kv_R5 : String := "KeptLump$Planner"
def kv_T5 : u_T := fun k => match k with
  | 0 => ("KeptLump$Planner", "known", "[I", true)
  | 1 => ("KeptLump$Planner", "tried", "[I", true)
  | 2 => ("KeptLump$Planner", "first", "[I", true)
  | 3 => ("KeptLump$Planner", "second", "[I", true)
  | 4 => ("KeptLump$Planner", "answer", "[I", true)
  | 5 => ("KeptLump$Planner", "isTouching", "[Z", true)
  | 6 => ("KeptLump$Planner", "pairs", "I", false)
  | 7 => ("KeptLump$Planner", "lumps", "I", false)
  | 8 => ("KeptLump$Planner", "doubt", "I", false)
  | 9 => ("KeptLump$Planner", "mostTouching", "I", false)
  | 10 => ("KeptLump$Planner", "bestSum", "I", false)
  | 11 => ("KeptLump$Planner", "bestMany", "I", false)
  | _ => ("KeptLump$Planner", "bestBits", "I", false)
def kv_t5 : Nat → FieldType := fun k => match k with
  | 0 => .array .int
  | 1 => .array .int
  | 2 => .array .int
  | 3 => .array .int
  | 4 => .array .int
  | 5 => .array .boolean
  | 6 => .int
  | 7 => .int
  | 8 => .int
  | 9 => .int
  | 10 => .int
  | 11 => .int
  | _ => .int
theorem kv_n5 : ∀ a, a < 13 → ∀ b, b < 13 → a ≠ b → (kv_T5 a).2.1 ≠ (kv_T5 b).2.1 := by decide +kernel
theorem kv_tk5 : ∀ k, k < 13 → parseFieldDescriptor (kv_T5 k).2.2.1 = some (kv_t5 k) := by decide +kernel
def kv_R6 : String := "KeptLump$Reader"
def kv_T6 : u_T := fun k => match k with
  | 0 => ("KeptLump$Reader", "text", "[I", true)
  | 1 => ("KeptLump$Reader", "size", "I", false)
  | 2 => ("KeptLump$Reader", "place", "I", false)
  | 3 => ("KeptLump$Reader", "fault", "I", false)
  | 4 => ("KeptLump$Reader", "yearFault", "I", false)
  | 5 => ("KeptLump$Reader", "statements", "I", false)
  | 6 => ("KeptLump$Reader", "now", "I", false)
  | 7 => ("KeptLump$Reader", "heldFrom", "I", false)
  | 8 => ("KeptLump$Reader", "held", "I", false)
  | 9 => ("KeptLump$Reader", "prime", "I", false)
  | 10 => ("KeptLump$Reader", "sisters", "I", false)
  | 11 => ("KeptLump$Reader", "others", "I", false)
  | _ => ("KeptLump$Reader", "copies", "I", false)
def kv_t6 : Nat → FieldType := fun k => match k with
  | 0 => .array .int
  | 1 => .int
  | 2 => .int
  | 3 => .int
  | 4 => .int
  | 5 => .int
  | 6 => .int
  | 7 => .int
  | 8 => .int
  | 9 => .int
  | 10 => .int
  | 11 => .int
  | _ => .int
theorem kv_n6 : ∀ a, a < 13 → ∀ b, b < 13 → a ≠ b → (kv_T6 a).2.1 ≠ (kv_T6 b).2.1 := by decide +kernel
theorem kv_tk6 : ∀ k, k < 13 → parseFieldDescriptor (kv_T6 k).2.2.1 = some (kv_t6 k) := by decide +kernel
def kv_R7 : String := "KeptLump$Shelf"
def kv_T7 : u_T := fun k => match k with
  | 0 => ("KeptLump$Shelf", "elements", "[I", true)
  | 1 => ("KeptLump$Shelf", "holds", "I", false)
  | 2 => ("KeptLump$Shelf", "sort", "I", false)
  | 3 => ("KeptLump$Shelf", "size", "I", false)
  | 4 => ("KeptLump$Shelf", "number", "I", false)
  | 5 => ("KeptLump$Shelf", "kind", "I", false)
  | 6 => ("KeptLump$Shelf", "land", "I", false)
  | _ => ("KeptLump$Shelf", "rate", "I", false)
def kv_t7 : Nat → FieldType := fun k => match k with
  | 0 => .array .int
  | 1 => .int
  | 2 => .int
  | 3 => .int
  | 4 => .int
  | 5 => .int
  | 6 => .int
  | _ => .int
theorem kv_n7 : ∀ a, a < 8 → ∀ b, b < 8 → a ≠ b → (kv_T7 a).2.1 ≠ (kv_T7 b).2.1 := by decide +kernel
theorem kv_tk7 : ∀ k, k < 8 → parseFieldDescriptor (kv_T7 k).2.2.1 = some (kv_t7 k) := by decide +kernel
def kv_R8 : String := "KeptLump$State"
def kv_T8 : u_T := fun k => match k with
  | 0 => ("KeptLump$State", "lumps", "LKeptLump$Lumps;", true)
  | 1 => ("KeptLump$State", "weighings", "LKeptLump$Weighings;", true)
  | 2 => ("KeptLump$State", "law", "LKeptLump$Law;", true)
  | 3 => ("KeptLump$State", "chains", "LKeptLump$Chains;", true)
  | 4 => ("KeptLump$State", "takes", "[I", true)
  | 5 => ("KeptLump$State", "now", "I", false)
  | 6 => ("KeptLump$State", "z", "I", false)
  | 7 => ("KeptLump$State", "low", "I", false)
  | _ => ("KeptLump$State", "high", "I", false)
def kv_t8 : Nat → FieldType := fun k => match k with
  | 0 => .object "KeptLump$Lumps"
  | 1 => .object "KeptLump$Weighings"
  | 2 => .object "KeptLump$Law"
  | 3 => .object "KeptLump$Chains"
  | 4 => .array .int
  | 5 => .int
  | 6 => .int
  | 7 => .int
  | _ => .int
theorem kv_n8 : ∀ a, a < 9 → ∀ b, b < 9 → a ≠ b → (kv_T8 a).2.1 ≠ (kv_T8 b).2.1 := by decide +kernel
theorem kv_tk8 : ∀ k, k < 9 → parseFieldDescriptor (kv_T8 k).2.2.1 = some (kv_t8 k) := by decide +kernel
def kv_R9 : String := "KeptLump$Weighings"
def kv_T9 : u_T := fun k => match k with
  | 0 => ("KeptLump$Weighings", "year", "[I", true)
  | 1 => ("KeptLump$Weighings", "first", "[I", true)
  | 2 => ("KeptLump$Weighings", "second", "[I", true)
  | 3 => ("KeptLump$Weighings", "answer", "[I", true)
  | 4 => ("KeptLump$Weighings", "doubt", "[I", true)
  | 5 => ("KeptLump$Weighings", "isOut", "[Z", true)
  | 6 => ("KeptLump$Weighings", "touchedIn", "[I", true)
  | 7 => ("KeptLump$Weighings", "many", "I", false)
  | _ => ("KeptLump$Weighings", "touched", "I", false)
def kv_t9 : Nat → FieldType := fun k => match k with
  | 0 => .array .int
  | 1 => .array .int
  | 2 => .array .int
  | 3 => .array .int
  | 4 => .array .int
  | 5 => .array .boolean
  | 6 => .array .int
  | 7 => .int
  | _ => .int
theorem kv_n9 : ∀ a, a < 9 → ∀ b, b < 9 → a ≠ b → (kv_T9 a).2.1 ≠ (kv_T9 b).2.1 := by decide +kernel
theorem kv_tk9 : ∀ k, k < 9 → parseFieldDescriptor (kv_T9 k).2.2.1 = some (kv_t9 k) := by decide +kernel
def kv_R10 : String := "KeptLump"
def kv_T10 : u_T := fun k => match k with
  | 0 => ("KeptLump", "state", "LKeptLump$State;", true)
  | 1 => ("KeptLump", "pictured", "LKeptLump$State;", true)
  | 2 => ("KeptLump", "isPictured", "Z", false)
  | 3 => ("KeptLump", "shelves", "[LKeptLump$Shelf;", true)
  | 4 => ("KeptLump", "net", "LKeptLump$Net;", true)
  | 5 => ("KeptLump", "longNet", "LKeptLump$LongNet;", true)
  | 6 => ("KeptLump", "reader", "LKeptLump$Reader;", true)
  | 7 => ("KeptLump", "planner", "LKeptLump$Planner;", true)
  | _ => ("KeptLump", "failure", "I", false)
def kv_t10 : Nat → FieldType := fun k => match k with
  | 0 => .object "KeptLump$State"
  | 1 => .object "KeptLump$State"
  | 2 => .boolean
  | 3 => .array (.object "KeptLump$Shelf")
  | 4 => .object "KeptLump$Net"
  | 5 => .object "KeptLump$LongNet"
  | 6 => .object "KeptLump$Reader"
  | 7 => .object "KeptLump$Planner"
  | _ => .int
theorem kv_n10 : ∀ a, a < 9 → ∀ b, b < 9 → a ≠ b → (kv_T10 a).2.1 ≠ (kv_T10 b).2.1 := by decide +kernel
theorem kv_tk10 : ∀ k, k < 9 → parseFieldDescriptor (kv_T10 k).2.2.1 = some (kv_t10 k) := by decide +kernel
def kv_R11 : String := "KeptLumpModel"
def kv_T11 : u_T := fun k => match k with
  | 0 => ("KeptLumpModel", "s", "[I", true)
  | 1 => ("KeptLumpModel", "image", "[I", true)
  | 2 => ("KeptLumpModel", "kept", "[I", true)
  | 3 => ("KeptLumpModel", "sort", "[I", true)
  | 4 => ("KeptLumpModel", "size", "[I", true)
  | 5 => ("KeptLumpModel", "element", "[I", true)
  | 6 => ("KeptLumpModel", "keptCare", "[I", true)
  | 7 => ("KeptLumpModel", "keptToss", "[I", true)
  | 8 => ("KeptLumpModel", "hasImage", "Z", false)
  | 9 => ("KeptLumpModel", "thrown", "I", false)
  | 10 => ("KeptLumpModel", "far", "[J", true)
  | 11 => ("KeptLumpModel", "nodeLump", "[I", true)
  | 12 => ("KeptLumpModel", "nodeYear", "[I", true)
  | 13 => ("KeptLumpModel", "nodes", "I", false)
  | 14 => ("KeptLumpModel", "one", "I", false)
  | 15 => ("KeptLumpModel", "two", "I", false)
  | 16 => ("KeptLumpModel", "from", "I", false)
  | 17 => ("KeptLumpModel", "without", "I", false)
  | 18 => ("KeptLumpModel", "pos", "I", false)
  | 19 => ("KeptLumpModel", "base", "I", false)
  | 20 => ("KeptLumpModel", "end", "I", false)
  | 21 => ("KeptLumpModel", "deep", "I", false)
  | 22 => ("KeptLumpModel", "number", "I", false)
  | 23 => ("KeptLumpModel", "text", "[I", false)
  | _ => ("KeptLumpModel", "year", "I", false)
def kv_t11 : Nat → FieldType := fun k => match k with
  | 0 => .array .int
  | 1 => .array .int
  | 2 => .array .int
  | 3 => .array .int
  | 4 => .array .int
  | 5 => .array .int
  | 6 => .array .int
  | 7 => .array .int
  | 8 => .boolean
  | 9 => .int
  | 10 => .array .long
  | 11 => .array .int
  | 12 => .array .int
  | 13 => .int
  | 14 => .int
  | 15 => .int
  | 16 => .int
  | 17 => .int
  | 18 => .int
  | 19 => .int
  | 20 => .int
  | 21 => .int
  | 22 => .int
  | 23 => .array .int
  | _ => .int
theorem kv_n11 : ∀ a, a < 25 → ∀ b, b < 25 → a ≠ b → (kv_T11 a).2.1 ≠ (kv_T11 b).2.1 := by decide +kernel
theorem kv_tk11 : ∀ k, k < 25 → parseFieldDescriptor (kv_T11 k).2.2.1 = some (kv_t11 k) := by decide +kernel
abbrev kv_cl : List vw_C := [(kv_R0, kv_T0, 4), (kv_R1, kv_T1, 3), (kv_R2, kv_T2, 6), (kv_R3, kv_T3, 8), (kv_R4, kv_T4, 6), (kv_R5, kv_T5, 13), (kv_R6, kv_T6, 13), (kv_R7, kv_T7, 8), (kv_R8, kv_T8, 9), (kv_R9, kv_T9, 9), (kv_R10, kv_T10, 9), (kv_R11, kv_T11, 25)]
def kv_N : Nat := 97
def kv_NC : Nat := 84
def kv_FAR : Nat := 93
def kv_kdL : List Nat := [10, 8, 3, 12, 12, 12, 12, 12, 12, 12, 9, 12, 12, 12, 12, 12, 14, 12, 1, 12, 0, 12, 12, 12, 12, 12, 8, 3, 12, 12, 12, 12, 12, 12, 12, 9, 12, 12, 12, 12, 12, 14, 12, 1, 12, 0, 12, 12, 12, 12, 12, 15, 7, 12, 7, 12, 7, 12, 7, 12, 7, 12, 7, 12, 7, 12, 7, 12, 4, 12, 12, 12, 12, 2, 12, 6, 12, 5, 12, 12, 12, 12, 12, 14, 11, 12, 12, 12, 12, 12, 12, 12, 12, 13, 12, 12, 13]
def kv_kd (r : Nat) : Nat := kv_kdL.getD r 99
def kv_lnL : List Nat := [0, 0, 0, 10, 10, 10, 10, 10, 10, 6, 0, 20, 20, 20, 20, 20, 20, 20, 0, 100, 0, 48, 48, 4, 4, 4, 0, 0, 10, 10, 10, 10, 10, 10, 6, 0, 20, 20, 20, 20, 20, 20, 20, 0, 100, 0, 48, 48, 4, 4, 4, 8, 0, 100, 0, 100, 0, 100, 0, 100, 0, 100, 0, 100, 0, 100, 0, 100, 0, 124, 124, 124, 42, 0, 42, 0, 100, 0, 100, 100, 8, 8, 8, 8, 0, 444, 444, 8, 8, 8, 800, 8, 8, 1936, 44, 44, 1]
def kv_ln (r : Nat) : Nat := kv_lnL.getD r 0
def kv_tgL : List (List Nat) := [[1, 26, 0, 51, 68, 73, 75, 77, 0], [2, 10, 18, 20, 25, 0, 0, 0, 0], [3, 4, 5, 6, 7, 8, 9, 0], [], [], [], [], [], [], [], [11, 12, 13, 14, 15, 16, 17, 0, 0], [], [], [], [], [], [], [], [19, 0, 0], [], [21, 22, 23, 24], [], [], [], [], [], [27, 35, 43, 45, 50, 0, 0, 0, 0], [28, 29, 30, 31, 32, 33, 34, 0], [], [], [], [], [], [], [], [36, 37, 38, 39, 40, 41, 42, 0, 0], [], [], [], [], [], [], [], [44, 0, 0], [], [46, 47, 48, 49], [], [], [], [], [], [52, 54, 56, 58, 60, 62, 64, 66], [53, 0, 0, 0, 0, 0, 0, 0], [], [55, 0, 0, 0, 0, 0, 0, 0], [], [57, 0, 0, 0, 0, 0, 0, 0], [], [59, 0, 0, 0, 0, 0, 0, 0], [], [61, 0, 0, 0, 0, 0, 0, 0], [], [63, 0, 0, 0, 0, 0, 0, 0], [], [65, 0, 0, 0, 0, 0, 0, 0], [], [67, 0, 0, 0, 0, 0, 0, 0], [], [69, 70, 71, 72, 0, 0], [], [], [], [], [74, 0, 0, 0, 0, 0], [], [76, 0, 0, 0, 0, 0, 0, 0, 0, 0, 0, 0, 0], [], [78, 79, 80, 81, 82, 83, 0, 0, 0, 0, 0, 0, 0], [], [], [], [], [], [], [85, 86, 87, 88, 89, 90, 91, 92, 0, 0, 93, 94, 95, 0, 0, 0, 0, 0, 0, 0, 0, 0, 0, 90, 0], [], [], [], [], [], [], [], [], [], [], [], []]
def kv_tg (r k : Nat) : Nat := (kv_tgL.getD r []).getD k 0
def kv_fkL : List (List Nat) := [[1, 1, 1, 1], [1, 0, 0], [1, 0, 0, 0, 0, 0], [1, 1, 1, 1, 1, 1, 1, 0], [1, 1, 1, 1, 0, 0], [1, 1, 1, 1, 1, 1, 0, 0, 0, 0, 0, 0, 0], [1, 0, 0, 0, 0, 0, 0, 0, 0, 0, 0, 0, 0], [1, 0, 0, 0, 0, 0, 0, 0], [1, 1, 1, 1, 1, 0, 0, 0, 0], [1, 1, 1, 1, 1, 1, 1, 0, 0], [1, 1, 0, 1, 1, 1, 1, 1, 0], [1, 1, 1, 1, 1, 1, 1, 1, 0, 0, 1, 1, 1, 0, 0, 0, 0, 0, 0, 0, 0, 0, 0, 2, 0]]
def kv_fk (ci k : Nat) : Nat := (kv_fkL.getD ci []).getD k 9
def kv_nf (ci : Nat) : Nat := (kv_fkL.getD ci []).length
