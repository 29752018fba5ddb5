def RX0 : String := "KeptColours$Filling"
def TX0 : u_T := fun k => match k with
  | 0 => ("KeptColours$Filling", "board", "LKeptColours$Net;", true)
  | 1 => ("KeptColours$Filling", "done", "I", false)
  | 2 => ("KeptColours$Filling", "finder", "LKeptColours$Finder;", true)
  | 3 => ("KeptColours$Filling", "outward", "LKeptColours$Outward;", true)
  | 4 => ("KeptColours$Filling", "open", "[I", true)
  | 5 => ("KeptColours$Filling", "openCount", "I", false)
  | 6 => ("KeptColours$Filling", "depth", "I", false)
  | _ => ("KeptColours$Filling", "over", "Z", false)
def tyX0 : Nat → FieldType := fun k => match k with
  | 0 => .object "KeptColours$Net"
  | 1 => .int
  | 2 => .object "KeptColours$Finder"
  | 3 => .object "KeptColours$Outward"
  | 4 => .array .int
  | 5 => .int
  | 6 => .int
  | _ => .boolean
abbrev wsX00 : List Cond := u_ws RX0 TX0 8
theorem nmX0 : ∀ a, a < 8 → ∀ b, b < 8 → a ≠ b → (TX0 a).2.1 ≠ (TX0 b).2.1 := by decide +kernel
theorem tyX0_ok : ∀ k, k < 8 → parseFieldDescriptor (TX0 k).2.2.1 = some (tyX0 k) := by decide +kernel
def RX1 : String := "KeptColours$Finder"
def TX1 : u_T := fun k => match k with
  | 0 => ("KeptColours$Finder", "row", "[I", true)
  | 1 => ("KeptColours$Finder", "length", "I", false)
  | 2 => ("KeptColours$Finder", "kind", "I", false)
  | 3 => ("KeptColours$Finder", "points", "I", false)
  | _ => ("KeptColours$Finder", "near", "[I", true)
def tyX1 : Nat → FieldType := fun k => match k with
  | 0 => .array .int
  | 1 => .int
  | 2 => .int
  | 3 => .int
  | _ => .array .int
abbrev wsX10 : List Cond := u_ws RX1 TX1 5
theorem nmX1 : ∀ a, a < 5 → ∀ b, b < 5 → a ≠ b → (TX1 a).2.1 ≠ (TX1 b).2.1 := by decide +kernel
theorem tyX1_ok : ∀ k, k < 5 → parseFieldDescriptor (TX1 k).2.2.1 = some (tyX1 k) := by decide +kernel
def RX2 : String := "KeptColours$Forms"
def TX2 : u_T := fun k => match k with
  | 0 => ("KeptColours$Forms", "best", "[I", true)
  | 1 => ("KeptColours$Forms", "ways", "I", false)
  | 2 => ("KeptColours$Forms", "points", "I", false)
  | 3 => ("KeptColours$Forms", "tones", "[I", true)
  | 4 => ("KeptColours$Forms", "pointOf", "[I", true)
  | 5 => ("KeptColours$Forms", "settled", "I", false)
  | 6 => ("KeptColours$Forms", "stopsAtLess", "Z", false)
  | _ => ("KeptColours$Forms", "isLess", "Z", false)
def tyX2 : Nat → FieldType := fun k => match k with
  | 0 => .array .int
  | 1 => .int
  | 2 => .int
  | 3 => .array .int
  | 4 => .array .int
  | 5 => .int
  | 6 => .boolean
  | _ => .boolean
abbrev wsX20 : List Cond := u_ws RX2 TX2 8
theorem nmX2 : ∀ a, a < 8 → ∀ b, b < 8 → a ≠ b → (TX2 a).2.1 ≠ (TX2 b).2.1 := by decide +kernel
theorem tyX2_ok : ∀ k, k < 8 → parseFieldDescriptor (TX2 k).2.2.1 = some (tyX2 k) := by decide +kernel
def RX3 : String := "KeptColours$History"
def TX3 : u_T := fun k => match k with
  | 0 => ("KeptColours$History", "size", "I", false)
  | 1 => ("KeptColours$History", "kept", "[LKeptColours$Net;", true)
  | _ => ("KeptColours$History", "next", "I", false)
def tyX3 : Nat → FieldType := fun k => match k with
  | 0 => .int
  | 1 => .array (.object "KeptColours$Net")
  | _ => .int
abbrev wsX30 : List Cond := u_ws RX3 TX3 3
theorem nmX3 : ∀ a, a < 3 → ∀ b, b < 3 → a ≠ b → (TX3 a).2.1 ≠ (TX3 b).2.1 := by decide +kernel
theorem tyX3_ok : ∀ k, k < 3 → parseFieldDescriptor (TX3 k).2.2.1 = some (tyX3 k) := by decide +kernel
def RX4 : String := "KeptColours$Net"
def TX4 : u_T := fun k => match k with
  | 0 => ("KeptColours$Net", "points", "I", false)
  | 1 => ("KeptColours$Net", "colours", "I", false)
  | 2 => ("KeptColours$Net", "kinds", "[I", true)
  | 3 => ("KeptColours$Net", "sizes", "[I", true)
  | 4 => ("KeptColours$Net", "tones", "[I", true)
  | _ => ("KeptColours$Net", "nears", "[I", true)
def tyX4 : Nat → FieldType := fun k => match k with
  | 0 => .int
  | 1 => .int
  | 2 => .array .int
  | 3 => .array .int
  | 4 => .array .int
  | _ => .array .int
abbrev wsX40 : List Cond := u_ws RX4 TX4 6
theorem nmX4 : ∀ a, a < 6 → ∀ b, b < 6 → a ≠ b → (TX4 a).2.1 ≠ (TX4 b).2.1 := by decide +kernel
theorem tyX4_ok : ∀ k, k < 6 → parseFieldDescriptor (TX4 k).2.2.1 = some (tyX4 k) := by decide +kernel
def RX5 : String := "KeptColours$Outward"
def TX5 : u_T := fun k => match k with
  | 0 => ("KeptColours$Outward", "points", "I", false)
  | _ => ("KeptColours$Outward", "near", "[I", true)
def tyX5 : Nat → FieldType := fun k => match k with
  | 0 => .int
  | _ => .array .int
abbrev wsX50 : List Cond := u_ws RX5 TX5 2
theorem nmX5 : ∀ a, a < 2 → ∀ b, b < 2 → a ≠ b → (TX5 a).2.1 ≠ (TX5 b).2.1 := by decide +kernel
theorem tyX5_ok : ∀ k, k < 2 → parseFieldDescriptor (TX5 k).2.2.1 = some (tyX5 k) := by decide +kernel
def RX6 : String := "KeptColours$Proof"
def TX6 : u_T := fun k => match k with
  | 0 => ("KeptColours$Proof", "joins", "[I", true)
  | 1 => ("KeptColours$Proof", "tones", "[I", true)
  | 2 => ("KeptColours$Proof", "bits", "[I", true)
  | 3 => ("KeptColours$Proof", "size", "I", false)
  | 4 => ("KeptColours$Proof", "finder", "LKeptColours$Finder;", true)
  | _ => ("KeptColours$Proof", "outward", "LKeptColours$Outward;", true)
def tyX6 : Nat → FieldType := fun k => match k with
  | 0 => .array .int
  | 1 => .array .int
  | 2 => .array .int
  | 3 => .int
  | 4 => .object "KeptColours$Finder"
  | _ => .object "KeptColours$Outward"
abbrev wsX60 : List Cond := u_ws RX6 TX6 6
theorem nmX6 : ∀ a, a < 6 → ∀ b, b < 6 → a ≠ b → (TX6 a).2.1 ≠ (TX6 b).2.1 := by decide +kernel
theorem tyX6_ok : ∀ k, k < 6 → parseFieldDescriptor (TX6 k).2.2.1 = some (tyX6 k) := by decide +kernel
def RX7 : String := "KeptColours$Walker"
def TX7 : u_T := fun k => match k with
  | 0 => ("KeptColours$Walker", "outward", "LKeptColours$Outward;", true)
  | 1 => ("KeptColours$Walker", "bestJoin", "I", false)
  | 2 => ("KeptColours$Walker", "bestTone", "I", false)
  | _ => ("KeptColours$Walker", "bestGain", "I", false)
def tyX7 : Nat → FieldType := fun k => match k with
  | 0 => .object "KeptColours$Outward"
  | 1 => .int
  | 2 => .int
  | _ => .int
abbrev wsX70 : List Cond := u_ws RX7 TX7 4
theorem nmX7 : ∀ a, a < 4 → ∀ b, b < 4 → a ≠ b → (TX7 a).2.1 ≠ (TX7 b).2.1 := by decide +kernel
theorem tyX7_ok : ∀ k, k < 4 → parseFieldDescriptor (TX7 k).2.2.1 = some (tyX7 k) := by decide +kernel
def RX8 : String := "KeptColours"
def TX8 : u_T := fun k => match k with
  | 0 => ("KeptColours", "now", "LKeptColours$Net;", true)
  | 1 => ("KeptColours", "finder", "LKeptColours$Finder;", true)
  | 2 => ("KeptColours", "filling", "LKeptColours$Filling;", true)
  | 3 => ("KeptColours", "forms", "LKeptColours$Forms;", true)
  | 4 => ("KeptColours", "proof", "LKeptColours$Proof;", true)
  | 5 => ("KeptColours", "walker", "LKeptColours$Walker;", true)
  | 6 => ("KeptColours", "history", "LKeptColours$History;", true)
  | _ => ("KeptColours", "latestTries", "I", false)
def tyX8 : Nat → FieldType := fun k => match k with
  | 0 => .object "KeptColours$Net"
  | 1 => .object "KeptColours$Finder"
  | 2 => .object "KeptColours$Filling"
  | 3 => .object "KeptColours$Forms"
  | 4 => .object "KeptColours$Proof"
  | 5 => .object "KeptColours$Walker"
  | 6 => .object "KeptColours$History"
  | _ => .int
abbrev wsX80 : List Cond := u_ws RX8 TX8 8
theorem nmX8 : ∀ a, a < 8 → ∀ b, b < 8 → a ≠ b → (TX8 a).2.1 ≠ (TX8 b).2.1 := by decide +kernel
theorem tyX8_ok : ∀ k, k < 8 → parseFieldDescriptor (TX8 k).2.2.1 = some (tyX8 k) := by decide +kernel
def RX9 : String := "KeptColoursModel"
def TX9 : u_T := fun k => match k with
  | 0 => ("KeptColoursModel", "n", "I", false)
  | 1 => ("KeptColoursModel", "colours", "I", false)
  | 2 => ("KeptColoursModel", "kinds", "[I", true)
  | 3 => ("KeptColoursModel", "sizes", "[I", true)
  | 4 => ("KeptColoursModel", "col", "[I", true)
  | 5 => ("KeptColoursModel", "before", "[I", true)
  | 6 => ("KeptColoursModel", "kept", "I", false)
  | 7 => ("KeptColoursModel", "row", "[I", true)
  | 8 => ("KeptColoursModel", "edges", "[I", true)
  | 9 => ("KeptColoursModel", "edgeMany", "I", false)
  | 10 => ("KeptColoursModel", "missing", "I", false)
  | 11 => ("KeptColoursModel", "missed", "I", false)
  | 12 => ("KeptColoursModel", "mayMiss", "I", false)
  | 13 => ("KeptColoursModel", "task", "I", false)
  | 14 => ("KeptColoursModel", "total", "I", false)
  | 15 => ("KeptColoursModel", "isFound", "Z", false)
  | 16 => ("KeptColoursModel", "first", "[I", true)
  | 17 => ("KeptColoursModel", "firstSize", "I", false)
  | 18 => ("KeptColoursModel", "through", "[I", true)
  | 19 => ("KeptColoursModel", "gained", "[I", true)
  | 20 => ("KeptColoursModel", "wantBits", "I", false)
  | 21 => ("KeptColoursModel", "wantJoin", "I", false)
  | 22 => ("KeptColoursModel", "aside", "[I", true)
  | 23 => ("KeptColoursModel", "listMany", "I", false)
  | 24 => ("KeptColoursModel", "listWanted", "I", false)
  | 25 => ("KeptColoursModel", "isListed", "Z", false)
  | 26 => ("KeptColoursModel", "wanted", "[I", true)
  | 27 => ("KeptColoursModel", "marks", "Z", false)
  | 28 => ("KeptColoursModel", "seen", "[Z", true)
  | 29 => ("KeptColoursModel", "forms", "I", false)
  | 30 => ("KeptColoursModel", "numbering", "[I", true)
  | 31 => ("KeptColoursModel", "form", "[I", true)
  | 32 => ("KeptColoursModel", "anyForm", "Z", false)
  | 33 => ("KeptColoursModel", "formMany", "I", false)
  | 34 => ("KeptColoursModel", "putMany", "I", false)
  | 35 => ("KeptColoursModel", "putWanted", "I", false)
  | 36 => ("KeptColoursModel", "isPut", "Z", false)
  | 37 => ("KeptColoursModel", "putRow", "[I", true)
  | 38 => ("KeptColoursModel", "tries", "I", false)
  | 39 => ("KeptColoursModel", "fillTries", "I", false)
  | 40 => ("KeptColoursModel", "fillMost", "I", false)
  | 41 => ("KeptColoursModel", "isSpent", "Z", false)
  | 42 => ("KeptColoursModel", "proof", "[I", true)
  | 43 => ("KeptColoursModel", "rows", "I", false)
  | 44 => ("KeptColoursModel", "proves", "Z", false)
  | 45 => ("KeptColoursModel", "tryRows", "I", false)
  | 46 => ("KeptColoursModel", "used", "I", false)
  | _ => ("KeptColoursModel", "gains", "[I", true)
def tyX9 : Nat → FieldType := fun k => match k with
  | 0 => .int
  | 1 => .int
  | 2 => .array .int
  | 3 => .array .int
  | 4 => .array .int
  | 5 => .array .int
  | 6 => .int
  | 7 => .array .int
  | 8 => .array .int
  | 9 => .int
  | 10 => .int
  | 11 => .int
  | 12 => .int
  | 13 => .int
  | 14 => .int
  | 15 => .boolean
  | 16 => .array .int
  | 17 => .int
  | 18 => .array .int
  | 19 => .array .int
  | 20 => .int
  | 21 => .int
  | 22 => .array .int
  | 23 => .int
  | 24 => .int
  | 25 => .boolean
  | 26 => .array .int
  | 27 => .boolean
  | 28 => .array .boolean
  | 29 => .int
  | 30 => .array .int
  | 31 => .array .int
  | 32 => .boolean
  | 33 => .int
  | 34 => .int
  | 35 => .int
  | 36 => .boolean
  | 37 => .array .int
  | 38 => .int
  | 39 => .int
  | 40 => .int
  | 41 => .boolean
  | 42 => .array .int
  | 43 => .int
  | 44 => .boolean
  | 45 => .int
  | 46 => .int
  | _ => .array .int
abbrev wsX90 : List Cond := u_ws RX9 TX9 48
theorem nmX9 : ∀ a, a < 48 → ∀ b, b < 48 → a ≠ b → (TX9 a).2.1 ≠ (TX9 b).2.1 := by decide +kernel
theorem tyX9_ok : ∀ k, k < 48 → parseFieldDescriptor (TX9 k).2.2.1 = some (tyX9 k) := by decide +kernel
abbrev vwCl : List vw_C := [(RX0, TX0, 8), (RX1, TX1, 5), (RX2, TX2, 8), (RX3, TX3, 3), (RX4, TX4, 6), (RX5, TX5, 2), (RX6, TX6, 6), (RX7, TX7, 4), (RX8, TX8, 8), (RX9, TX9, 48)]
