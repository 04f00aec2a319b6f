def RX0 : String := "ProxyWalk$Roads"
def TX0 : u_T := fun k => match k with
  | 0 => ("ProxyWalk$Roads", "told", "Z", false)
  | 1 => ("ProxyWalk$Roads", "banned", "I", false)
  | 2 => ("ProxyWalk$Roads", "towns", "I", false)
  | 3 => ("ProxyWalk$Roads", "sentences", "I", false)
  | 4 => ("ProxyWalk$Roads", "walkers", "I", false)
  | 5 => ("ProxyWalk$Roads", "price", "[I", true)
  | 6 => ("ProxyWalk$Roads", "days", "[I", true)
  | 7 => ("ProxyWalk$Roads", "apart", "[I", true)
  | 8 => ("ProxyWalk$Roads", "near", "[I", true)
  | 9 => ("ProxyWalk$Roads", "place", "[I", true)
  | 10 => ("ProxyWalk$Roads", "due", "[I", true)
  | 11 => ("ProxyWalk$Roads", "fee", "[I", true)
  | _ => ("ProxyWalk$Roads", "purse", "[I", true)
def tyX0 : Nat → FieldType := fun k => match k with
  | 0 => .boolean
  | 1 => .int
  | 2 => .int
  | 3 => .int
  | 4 => .int
  | 5 => .array .int
  | 6 => .array .int
  | 7 => .array .int
  | 8 => .array .int
  | 9 => .array .int
  | 10 => .array .int
  | 11 => .array .int
  | _ => .array .int
abbrev wsX00 : List Cond := u_ws RX0 TX0 13
theorem nmX0 : ∀ a, a < 13 → ∀ b, b < 13 → a ≠ b → (TX0 a).2.1 ≠ (TX0 b).2.1 := by decide +kernel
theorem tyX0_ok : ∀ k, k < 13 → parseFieldDescriptor (TX0 k).2.2.1 = some (tyX0 k) := by decide +kernel
def RX1 : String := "ProxyWalk$Rounds"
def TX1 : u_T := fun k => match k with
  | 0 => ("ProxyWalk$Rounds", "gone", "[I", true)
  | 1 => ("ProxyWalk$Rounds", "home", "[I", true)
  | 2 => ("ProxyWalk$Rounds", "fits", "[J", true)
  | 3 => ("ProxyWalk$Rounds", "sets", "[I", true)
  | 4 => ("ProxyWalk$Rounds", "row", "[I", true)
  | 5 => ("ProxyWalk$Rounds", "bestRow", "[I", true)
  | _ => ("ProxyWalk$Rounds", "most", "I", false)
def tyX1 : Nat → FieldType := fun k => match k with
  | 0 => .array .int
  | 1 => .array .int
  | 2 => .array .long
  | 3 => .array .int
  | 4 => .array .int
  | 5 => .array .int
  | _ => .int
abbrev wsX10 : List Cond := u_ws RX1 TX1 7
theorem nmX1 : ∀ a, a < 7 → ∀ b, b < 7 → a ≠ b → (TX1 a).2.1 ≠ (TX1 b).2.1 := by decide +kernel
theorem tyX1_ok : ∀ k, k < 7 → parseFieldDescriptor (TX1 k).2.2.1 = some (tyX1 k) := by decide +kernel
def RX2 : String := "ProxyWalk$Rule"
def TX2 : u_T := fun k => match k with
  | 0 => ("ProxyWalk$Rule", "code", "[I", true)
  | 1 => ("ProxyWalk$Rule", "size", "I", false)
  | 2 => ("ProxyWalk$Rule", "sumAt", "[I", true)
  | 3 => ("ProxyWalk$Rule", "testAt", "[I", true)
  | 4 => ("ProxyWalk$Rule", "clauses", "I", false)
  | 5 => ("ProxyWalk$Rule", "parts", "I", false)
  | 6 => ("ProxyWalk$Rule", "seen", "[J", true)
  | _ => ("ProxyWalk$Rule", "stack", "[J", true)
def tyX2 : Nat → FieldType := fun k => match k with
  | 0 => .array .int
  | 1 => .int
  | 2 => .array .int
  | 3 => .array .int
  | 4 => .int
  | 5 => .int
  | 6 => .array .long
  | _ => .array .long
abbrev wsX20 : List Cond := u_ws RX2 TX2 8
theorem nmX2 : ∀ a, a < 8 → ∀ b, b < 8 → a ≠ b → (TX2 a).2.1 ≠ (TX2 b).2.1 := by decide +kernel
theorem tyX2_ok : ∀ k, k < 8 → parseFieldDescriptor (TX2 k).2.2.1 = some (tyX2 k) := by decide +kernel
def RX3 : String := "ProxyWalk$Scene"
def TX3 : u_T := fun k => match k with
  | 0 => ("ProxyWalk$Scene", "roads", "LProxyWalk$Roads;", true)
  | 1 => ("ProxyWalk$Scene", "walk", "LProxyWalk$Walk;", true)
  | 2 => ("ProxyWalk$Scene", "force", "I", false)
  | 3 => ("ProxyWalk$Scene", "x", "I", false)
  | 4 => ("ProxyWalk$Scene", "logDay", "[I", true)
  | 5 => ("ProxyWalk$Scene", "logWalker", "[I", true)
  | 6 => ("ProxyWalk$Scene", "logTown", "[I", true)
  | 7 => ("ProxyWalk$Scene", "logCount", "I", false)
  | 8 => ("ProxyWalk$Scene", "past", "[I", true)
  | 9 => ("ProxyWalk$Scene", "acts", "I", false)
  | _ => ("ProxyWalk$Scene", "made", "Z", false)
def tyX3 : Nat → FieldType := fun k => match k with
  | 0 => .object "ProxyWalk$Roads"
  | 1 => .object "ProxyWalk$Walk"
  | 2 => .int
  | 3 => .int
  | 4 => .array .int
  | 5 => .array .int
  | 6 => .array .int
  | 7 => .int
  | 8 => .array .int
  | 9 => .int
  | _ => .boolean
abbrev wsX30 : List Cond := u_ws RX3 TX3 11
theorem nmX3 : ∀ a, a < 11 → ∀ b, b < 11 → a ≠ b → (TX3 a).2.1 ≠ (TX3 b).2.1 := by decide +kernel
theorem tyX3_ok : ∀ k, k < 11 → parseFieldDescriptor (TX3 k).2.2.1 = some (tyX3 k) := by decide +kernel
def RX4 : String := "ProxyWalk$Text"
def TX4 : u_T := fun k => match k with
  | 0 => ("ProxyWalk$Text", "bytes", "[I", true)
  | 1 => ("ProxyWalk$Text", "length", "I", false)
  | 2 => ("ProxyWalk$Text", "sort", "[I", true)
  | 3 => ("ProxyWalk$Text", "value", "[I", true)
  | 4 => ("ProxyWalk$Text", "place", "[I", true)
  | 5 => ("ProxyWalk$Text", "tokens", "I", false)
  | 6 => ("ProxyWalk$Text", "next", "I", false)
  | _ => ("ProxyWalk$Text", "fault", "I", false)
def tyX4 : Nat → FieldType := fun k => match k with
  | 0 => .array .int
  | 1 => .int
  | 2 => .array .int
  | 3 => .array .int
  | 4 => .array .int
  | 5 => .int
  | 6 => .int
  | _ => .int
abbrev wsX40 : List Cond := u_ws RX4 TX4 8
theorem nmX4 : ∀ a, a < 8 → ∀ b, b < 8 → a ≠ b → (TX4 a).2.1 ≠ (TX4 b).2.1 := by decide +kernel
theorem tyX4_ok : ∀ k, k < 8 → parseFieldDescriptor (TX4 k).2.2.1 = some (tyX4 k) := by decide +kernel
def RX5 : String := "ProxyWalk$Walk"
def TX5 : u_T := fun k => match k with
  | 0 => ("ProxyWalk$Walk", "day", "I", false)
  | 1 => ("ProxyWalk$Walk", "sealed", "I", false)
  | 2 => ("ProxyWalk$Walk", "paid", "I", false)
  | 3 => ("ProxyWalk$Walk", "checked", "I", false)
  | 4 => ("ProxyWalk$Walk", "town", "[I", true)
  | 5 => ("ProxyWalk$Walk", "toGo", "[I", true)
  | 6 => ("ProxyWalk$Walk", "purse", "[I", true)
  | 7 => ("ProxyWalk$Walk", "free", "[I", true)
  | 8 => ("ProxyWalk$Walk", "owner", "[I", true)
  | _ => ("ProxyWalk$Walk", "buyer", "[I", true)
def tyX5 : Nat → FieldType := fun k => match k with
  | 0 => .int
  | 1 => .int
  | 2 => .int
  | 3 => .int
  | 4 => .array .int
  | 5 => .array .int
  | 6 => .array .int
  | 7 => .array .int
  | 8 => .array .int
  | _ => .array .int
abbrev wsX50 : List Cond := u_ws RX5 TX5 10
theorem nmX5 : ∀ a, a < 10 → ∀ b, b < 10 → a ≠ b → (TX5 a).2.1 ≠ (TX5 b).2.1 := by decide +kernel
theorem tyX5_ok : ∀ k, k < 10 → parseFieldDescriptor (TX5 k).2.2.1 = some (tyX5 k) := by decide +kernel
def RX6 : String := "ProxyWalk"
def TX6 : u_T := fun k => match k with
  | 0 => ("ProxyWalk", "tape", "LProxyWalk$Text;", true)
  | 1 => ("ProxyWalk", "rules", "[LProxyWalk$Rule;", true)
  | 2 => ("ProxyWalk", "ruleCount", "I", false)
  | 3 => ("ProxyWalk", "now", "LProxyWalk$Scene;", true)
  | 4 => ("ProxyWalk", "images", "[LProxyWalk$Scene;", true)
  | 5 => ("ProxyWalk", "draft", "LProxyWalk$Roads;", true)
  | 6 => ("ProxyWalk", "trial", "LProxyWalk$Walk;", true)
  | 7 => ("ProxyWalk", "rounds", "LProxyWalk$Rounds;", true)
  | _ => ("ProxyWalk", "alike", "[I", true)
def tyX6 : Nat → FieldType := fun k => match k with
  | 0 => .object "ProxyWalk$Text"
  | 1 => .array (.object "ProxyWalk$Rule")
  | 2 => .int
  | 3 => .object "ProxyWalk$Scene"
  | 4 => .array (.object "ProxyWalk$Scene")
  | 5 => .object "ProxyWalk$Roads"
  | 6 => .object "ProxyWalk$Walk"
  | 7 => .object "ProxyWalk$Rounds"
  | _ => .array .int
abbrev wsX60 : List Cond := u_ws RX6 TX6 9
theorem nmX6 : ∀ a, a < 9 → ∀ b, b < 9 → a ≠ b → (TX6 a).2.1 ≠ (TX6 b).2.1 := by decide +kernel
theorem tyX6_ok : ∀ k, k < 9 → parseFieldDescriptor (TX6 k).2.2.1 = some (tyX6 k) := by decide +kernel
def RX7 : String := "ProxyWalkModel"
def TX7 : u_T := fun k => match k with
  | 0 => ("ProxyWalkModel", "thrown", "I", false)
  | 1 => ("ProxyWalkModel", "scalar", "[I", true)
  | 2 => ("ProxyWalkModel", "price", "[I", true)
  | 3 => ("ProxyWalkModel", "road", "[I", true)
  | 4 => ("ProxyWalkModel", "far", "[I", true)
  | 5 => ("ProxyWalkModel", "goal", "[I", true)
  | 6 => ("ProxyWalkModel", "due", "[I", true)
  | 7 => ("ProxyWalkModel", "fee", "[I", true)
  | 8 => ("ProxyWalkModel", "owner", "[I", true)
  | 9 => ("ProxyWalkModel", "buyer", "[I", true)
  | 10 => ("ProxyWalkModel", "where", "[I", true)
  | 11 => ("ProxyWalkModel", "toGo", "[I", true)
  | 12 => ("ProxyWalkModel", "purse", "[I", true)
  | 13 => ("ProxyWalkModel", "mayTake", "[I", true)
  | 14 => ("ProxyWalkModel", "logDay", "[I", true)
  | 15 => ("ProxyWalkModel", "logWho", "[I", true)
  | 16 => ("ProxyWalkModel", "logTown", "[I", true)
  | 17 => ("ProxyWalkModel", "toldPurse", "[I", true)
  | 18 => ("ProxyWalkModel", "newScalar", "[I", true)
  | 19 => ("ProxyWalkModel", "newPrice", "[I", true)
  | 20 => ("ProxyWalkModel", "newRoad", "[I", true)
  | 21 => ("ProxyWalkModel", "newGoal", "[I", true)
  | 22 => ("ProxyWalkModel", "newDue", "[I", true)
  | 23 => ("ProxyWalkModel", "newFee", "[I", true)
  | 24 => ("ProxyWalkModel", "newPurse", "[I", true)
  | 25 => ("ProxyWalkModel", "isThere", "Z", false)
  | 26 => ("ProxyWalkModel", "taped", "I", false)
  | 27 => ("ProxyWalkModel", "p", "I", false)
  | 28 => ("ProxyWalkModel", "fault", "I", false)
  | 29 => ("ProxyWalkModel", "slot", "I", false)
  | 30 => ("ProxyWalkModel", "rules", "I", false)
  | 31 => ("ProxyWalkModel", "entries", "I", false)
  | 32 => ("ProxyWalkModel", "deep", "I", false)
  | 33 => ("ProxyWalkModel", "counted", "I", false)
  | 34 => ("ProxyWalkModel", "opened", "I", false)
  | 35 => ("ProxyWalkModel", "words", "I", false)
  | 36 => ("ProxyWalkModel", "tape", "[B", true)
  | 37 => ("ProxyWalkModel", "sort", "[I", true)
  | 38 => ("ProxyWalkModel", "number", "[I", true)
  | 39 => ("ProxyWalkModel", "clauses", "[I", true)
  | 40 => ("ProxyWalkModel", "sumAt", "[I", true)
  | 41 => ("ProxyWalkModel", "testAt", "[I", true)
  | 42 => ("ProxyWalkModel", "endAt", "[I", true)
  | 43 => ("ProxyWalkModel", "open", "[I", true)
  | 44 => ("ProxyWalkModel", "asked", "[J", true)
  | 45 => ("ProxyWalkModel", "stack", "[J", true)
  | 46 => ("ProxyWalkModel", "past", "[I", true)
  | 47 => ("ProxyWalkModel", "ring", "[I", true)
  | 48 => ("ProxyWalkModel", "pastMany", "I", false)
  | 49 => ("ProxyWalkModel", "pastAt", "I", false)
  | 50 => ("ProxyWalkModel", "takesBack", "Z", false)
  | 51 => ("ProxyWalkModel", "least", "[I", true)
  | 52 => ("ProxyWalkModel", "rounds", "[I", true)
  | 53 => ("ProxyWalkModel", "row", "[I", true)
  | 54 => ("ProxyWalkModel", "bestRow", "[I", true)
  | 55 => ("ProxyWalkModel", "given", "[I", true)
  | 56 => ("ProxyWalkModel", "shown", "[I", true)
  | 57 => ("ProxyWalkModel", "alike", "[I", true)
  | 58 => ("ProxyWalkModel", "images", "[I", true)
  | 59 => ("ProxyWalkModel", "isMade", "[Z", true)
  | 60 => ("ProxyWalkModel", "wasThere", "[Z", true)
  | 61 => ("ProxyWalkModel", "imageAt", "I", false)
  | _ => ("ProxyWalkModel", "goesBack", "Z", false)
def tyX7 : Nat → FieldType := fun k => match k with
  | 0 => .int
  | 1 => .array .int
  | 2 => .array .int
  | 3 => .array .int
  | 4 => .array .int
  | 5 => .array .int
  | 6 => .array .int
  | 7 => .array .int
  | 8 => .array .int
  | 9 => .array .int
  | 10 => .array .int
  | 11 => .array .int
  | 12 => .array .int
  | 13 => .array .int
  | 14 => .array .int
  | 15 => .array .int
  | 16 => .array .int
  | 17 => .array .int
  | 18 => .array .int
  | 19 => .array .int
  | 20 => .array .int
  | 21 => .array .int
  | 22 => .array .int
  | 23 => .array .int
  | 24 => .array .int
  | 25 => .boolean
  | 26 => .int
  | 27 => .int
  | 28 => .int
  | 29 => .int
  | 30 => .int
  | 31 => .int
  | 32 => .int
  | 33 => .int
  | 34 => .int
  | 35 => .int
  | 36 => .array .byte
  | 37 => .array .int
  | 38 => .array .int
  | 39 => .array .int
  | 40 => .array .int
  | 41 => .array .int
  | 42 => .array .int
  | 43 => .array .int
  | 44 => .array .long
  | 45 => .array .long
  | 46 => .array .int
  | 47 => .array .int
  | 48 => .int
  | 49 => .int
  | 50 => .boolean
  | 51 => .array .int
  | 52 => .array .int
  | 53 => .array .int
  | 54 => .array .int
  | 55 => .array .int
  | 56 => .array .int
  | 57 => .array .int
  | 58 => .array .int
  | 59 => .array .boolean
  | 60 => .array .boolean
  | 61 => .int
  | _ => .boolean
abbrev wsX70 : List Cond := u_ws RX7 TX7 63
theorem nmX7 : ∀ a, a < 63 → ∀ b, b < 63 → a ≠ b → (TX7 a).2.1 ≠ (TX7 b).2.1 := by decide +kernel
theorem tyX7_ok : ∀ k, k < 63 → parseFieldDescriptor (TX7 k).2.2.1 = some (tyX7 k) := by decide +kernel
abbrev vwCl : List vw_C := [(RX0, TX0, 13), (RX1, TX1, 7), (RX2, TX2, 8), (RX3, TX3, 11), (RX4, TX4, 8), (RX5, TX5, 10), (RX6, TX6, 9), (RX7, TX7, 63)]
/-! DATA of the layout: kinds of slots, fields, texts; generated by wip/whole/gen.py -/
def nthD {α : Type} : List α → Nat → α → α
  | [], _, d => d
  | x :: _, 0, _ => x
  | _ :: l, n + 1, d => nthD l n d
def kdL : List (Nat × Nat) := [(0, 6), (0, 4), (1, 400), (1, 401), (1, 401), (1, 401), (5, 6), (0, 3), (0, 0), (1, 8), (1, 64), (1, 64), (1, 8), (1, 6), (1, 6), (1, 6), (1, 3), (0, 5), (1, 3), (1, 3), (1, 3), (1, 3), (1, 6), (1, 6), (1, 10), (1, 10), (1, 10), (1, 560), (6, 4), (0, 1), (1, 384), (1, 64), (4, 3), (1, 3), (1, 6), (1, 6), (1, 27), (0, 2), (1, 400), (1, 13), (1, 12), (4, 11), (4, 40), (0, 7), (1, 13), (1, 8), (1, 64), (1, 64), (1, 6), (1, 6), (1, 6), (1, 6), (1, 6), (1, 3), (1, 3), (1, 3), (1, 3), (1, 10), (1, 10), (1, 10), (1, 3), (1, 5), (1, 8), (1, 64), (1, 6), (1, 6), (1, 6), (1, 3), (2, 400), (1, 1800), (1, 1800), (1, 6), (1, 72), (1, 72), (1, 72), (1, 402), (4, 11), (4, 300), (1, 580), (1, 1), (1, 384), (1, 192), (1, 6), (1, 6), (1, 3), (1, 3), (1, 27), (1, 4250), (3, 4), (3, 4)]
def kd (s : Nat) : Nat × Nat := nthD kdL s (9, 0)
def nfL : List Nat := [13, 7, 8, 11, 8, 10, 9, 63]
def nfC (c : Nat) : Nat := nthD nfL c 0
/-- 0 int, 1 boolean, 2 a reference -/
def ftL : List (List Nat) := [[1, 0, 0, 0, 0, 2, 2, 2, 2, 2, 2, 2, 2], [2, 2, 2, 2, 2, 2, 0], [2, 0, 2, 2, 0, 0, 2, 2], [2, 2, 0, 0, 2, 2, 2, 0, 2, 0, 1], [2, 0, 2, 2, 2, 0, 0, 0], [0, 0, 0, 0, 2, 2, 2, 2, 2, 2], [2, 2, 0, 2, 2, 2, 2, 2, 2], [0, 2, 2, 2, 2, 2, 2, 2, 2, 2, 2, 2, 2, 2, 2, 2, 2, 2, 2, 2, 2, 2, 2, 2, 2, 1, 0, 0, 0, 0, 0, 0, 0, 0, 0, 0, 2, 2, 2, 2, 2, 2, 2, 2, 2, 2, 2, 2, 0, 0, 1, 2, 2, 2, 2, 2, 2, 2, 2, 2, 2, 0, 1]]
def ftC (c k : Nat) : Nat := nthD (nthD ftL c []) k 9
def txL : List (List Nat) := [[114, 111, 97, 100, 115, 32, 116, 111, 119, 110, 32, 115, 104, 111, 112, 32, 119, 97, 121, 32, 115, 101, 110, 116, 101, 110, 99, 101, 32, 119, 97, 108, 107, 101, 114], [119, 97, 108, 107, 101, 114, 32, 116, 111, 119, 110, 32, 100, 97, 121, 115, 32, 97, 115, 107, 101, 100, 32, 100, 117, 101, 32, 104, 111, 109, 101, 32, 112, 117, 114, 115, 101, 32, 104, 97, 115, 32, 115, 101, 97, 108, 101, 100, 32, 100, 97, 121, 32, 115, 104, 111, 112, 32, 103, 111, 32, 105, 102, 32, 110, 111, 116, 32, 97, 110, 100, 32, 111, 114], [114, 111, 97, 100, 115], [116, 111, 119, 110], [115, 104, 111, 112], [119, 97, 121], [115, 101, 110, 116, 101, 110, 99, 101], [119, 97, 108, 107, 101, 114], [103, 111], [100, 97, 121, 115], [97, 115, 107, 101, 100], [100, 117, 101], [104, 111, 109, 101], [112, 117, 114, 115, 101], [104, 97, 115], [115, 101, 97, 108, 101, 100], [100, 97, 121], [105, 102], [110, 111, 116], [97, 110, 100], [111, 114]]
/-- the cells in the order in which they are made -/
def plL : List (Nat × Nat) := [(0, 0), (1, 0), (2, 0), (3, 0), (4, 0), (5, 0), (6, 0), (7, 0), (8, 0), (9, 0), (10, 0), (11, 0), (12, 0), (13, 0), (14, 0), (15, 0), (16, 0), (17, 0), (18, 0), (19, 0), (20, 0), (21, 0), (22, 0), (23, 0), (24, 0), (25, 0), (26, 0), (27, 0), (28, 0), (8, 5), (9, 5), (10, 5), (11, 5), (12, 5), (13, 5), (14, 5), (15, 5), (16, 5), (17, 5), (18, 5), (19, 5), (20, 5), (21, 5), (22, 5), (23, 5), (29, 0), (30, 0), (31, 0), (32, 0), (33, 0), (34, 0), (35, 0), (36, 0), (37, 0), (38, 0), (39, 0), (40, 0), (41, 0), (42, 0), (37, 1), (38, 1), (39, 1), (40, 1), (41, 1), (42, 1), (37, 2), (38, 2), (39, 2), (40, 2), (41, 2), (42, 2), (37, 3), (38, 3), (39, 3), (40, 3), (41, 3), (42, 3), (37, 4), (38, 4), (39, 4), (40, 4), (41, 4), (42, 4), (37, 5), (38, 5), (39, 5), (40, 5), (41, 5), (42, 5), (7, 1), (8, 1), (9, 1), (10, 1), (11, 1), (12, 1), (13, 1), (14, 1), (15, 1), (16, 1), (17, 1), (18, 1), (19, 1), (20, 1), (21, 1), (22, 1), (23, 1), (24, 1), (25, 1), (26, 1), (27, 1), (7, 2), (8, 2), (9, 2), (10, 2), (11, 2), (12, 2), (13, 2), (14, 2), (15, 2), (16, 2), (17, 2), (18, 2), (19, 2), (20, 2), (21, 2), (22, 2), (23, 2), (24, 2), (25, 2), (26, 2), (27, 2), (7, 3), (8, 3), (9, 3), (10, 3), (11, 3), (12, 3), (13, 3), (14, 3), (15, 3), (16, 3), (17, 3), (18, 3), (19, 3), (20, 3), (21, 3), (22, 3), (23, 3), (24, 3), (25, 3), (26, 3), (27, 3), (7, 4), (8, 4), (9, 4), (10, 4), (11, 4), (12, 4), (13, 4), (14, 4), (15, 4), (16, 4), (17, 4), (18, 4), (19, 4), (20, 4), (21, 4), (22, 4), (23, 4), (24, 4), (25, 4), (26, 4), (27, 4), (43, 0), (44, 0), (45, 0), (46, 0), (47, 0), (48, 0), (49, 0), (50, 0), (51, 0), (52, 0), (53, 0), (54, 0), (55, 0), (56, 0), (57, 0), (58, 0), (59, 0), (60, 0), (61, 0), (62, 0), (63, 0), (64, 0), (65, 0), (66, 0), (67, 0), (68, 0), (69, 0), (70, 0), (71, 0), (72, 0), (73, 0), (74, 0), (75, 0), (76, 0), (77, 0), (78, 0), (79, 0), (80, 0), (81, 0), (82, 0), (83, 0), (84, 0), (85, 0), (86, 0), (87, 0), (88, 0), (89, 0)]
/-- where the references lie once all is made: (1, s) the same instance of slot s; (2 + n, s) instance n -/
def rfL : List (List (Nat × Nat)) := [[(1, 1), (1, 6), (0, 0), (1, 7), (1, 28), (7, 8), (7, 17), (1, 29), (1, 36)], [(1, 2), (0, 0), (1, 3), (1, 4), (1, 5), (0, 0), (0, 0), (0, 0)], [], [], [], [], [], [(1, 8), (1, 17), (0, 0), (0, 0), (1, 24), (1, 25), (1, 26), (0, 0), (1, 27), (0, 0), (0, 0)], [(0, 0), (0, 0), (0, 0), (0, 0), (0, 0), (1, 9), (1, 10), (1, 11), (1, 12), (1, 13), (1, 14), (1, 15), (1, 16)], [], [], [], [], [], [], [], [], [(0, 0), (0, 0), (0, 0), (0, 0), (1, 18), (1, 19), (1, 20), (1, 21), (1, 22), (1, 23)], [], [], [], [], [], [], [], [], [], [], [], [(1, 30), (1, 31), (1, 32), (1, 33), (1, 34), (1, 35), (0, 0)], [], [], [], [], [], [], [], [(1, 38), (0, 0), (1, 39), (1, 40), (0, 0), (0, 0), (1, 41), (1, 42)], [], [], [], [], [], [(0, 0), (1, 44), (1, 45), (1, 46), (1, 47), (1, 48), (1, 49), (1, 50), (1, 51), (1, 52), (1, 53), (1, 54), (1, 55), (1, 56), (1, 57), (1, 58), (1, 59), (1, 60), (1, 61), (1, 62), (1, 63), (1, 64), (1, 65), (1, 66), (1, 67), (0, 0), (0, 0), (0, 0), (0, 0), (0, 0), (0, 0), (0, 0), (0, 0), (0, 0), (0, 0), (0, 0), (1, 68), (1, 69), (1, 70), (1, 71), (1, 72), (1, 73), (1, 74), (1, 75), (1, 76), (1, 77), (1, 78), (1, 79), (0, 0), (0, 0), (0, 0), (1, 80), (1, 81), (1, 82), (1, 83), (1, 84), (1, 85), (1, 86), (1, 87), (1, 88), (1, 89), (0, 0), (0, 0)], [], [], [], [], [], [], [], [], [], [], [], [], [], [], [], [], [], [], [], [], [], [], [], [], [], [], [], [], [], [], [], [], [], [], [], [], [], [], [], [], [], [], [], [], [], []]
def rfX (q : Nat × Nat) (n : Nat) : Option (Nat × Nat) := match q.1 with
  | 0 => none
  | 1 => some (q.2, n)
  | c + 2 => some (q.2, c)
def R0 (a : Nat × Nat) (k : Nat) : Option (Nat × Nat) := match (kd a.1).1 with
  | 5 => some (37, if k < 6 then k else 0)
  | 6 => some (7, (if k < 4 then k else 0) + 1)
  | _ => rfX (nthD (nthD rfL a.1 []) k (0, 0)) a.2
theorem kd_big {s : Nat} (h : 98 ≤ s) : kd s = (9, 0) := by
  have key : ∀ (l : List (Nat × Nat)) (i : Nat), l.length ≤ i → nthD l i (9, 0) = (9, 0) := by
    intro l
    induction l with
    | nil => intro i _; rfl
    | cons x l ih =>
      intro i hi
      cases i with
      | zero => simp at hi
      | succ i => exact ih i (by simpa using hi)
  exact key kdL s (Nat.le_trans (by decide) h)
