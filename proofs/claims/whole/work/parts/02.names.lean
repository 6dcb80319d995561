/-! names: classes, their fields (rows printed by TURN), the cells in the order in which they are made -/
def RX0 : String := "StairCount$Course"
def TX0 : u_T := fun k => match k with
  | 0 => ("StairCount$Course", "row", "[I", true)
  | 1 => ("StairCount$Course", "stack", "[J", true)
  | 2 => ("StairCount$Course", "trial", "LStairCount$State;", true)
  | 3 => ("StairCount$Course", "rowLength", "I", false)
  | 4 => ("StairCount$Course", "plan", "LStairCount$Plan;", false)
  | 5 => ("StairCount$Course", "state", "LStairCount$State;", false)
  | 6 => ("StairCount$Course", "falling", "I", false)
  | 7 => ("StairCount$Course", "idle", "I", false)
  | 8 => ("StairCount$Course", "bare", "Z", false)
  | 9 => ("StairCount$Course", "allStrong", "[I", true)
  | _ => ("StairCount$Course", "force", "[I", false)
def tyX0 : Nat → FieldType := fun k => match k with
  | 0 => .array .int
  | 1 => .array .long
  | 2 => .object "StairCount$State"
  | 3 => .int
  | 4 => .object "StairCount$Plan"
  | 5 => .object "StairCount$State"
  | 6 => .int
  | 7 => .int
  | 8 => .boolean
  | 9 => .array .int
  | _ => .array .int
theorem nmX0 : ∀ a, a < 11 → ∀ b, b < 11 → a ≠ b → (TX0 a).2.1 ≠ (TX0 b).2.1 := by decide +kernel
theorem tyX0_ok : ∀ k, k < 11 → parseFieldDescriptor (TX0 k).2.2.1 = some (tyX0 k) := by decide +kernel
def RX1 : String := "StairCount$Guess"
def TX1 : u_T := fun k => match k with
  | 0 => ("StairCount$Guess", "floors", "[[I", true)
  | _ => ("StairCount$Guess", "many", "[I", true)
def tyX1 : Nat → FieldType := fun k => match k with
  | 0 => .array (.array .int)
  | _ => .array .int
theorem nmX1 : ∀ a, a < 2 → ∀ b, b < 2 → a ≠ b → (TX1 a).2.1 ≠ (TX1 b).2.1 := by decide +kernel
theorem tyX1_ok : ∀ k, k < 2 → parseFieldDescriptor (TX1 k).2.2.1 = some (tyX1 k) := by decide +kernel
def RX2 : String := "StairCount$Laws"
def TX2 : u_T := fun k => match k with
  | 0 => ("StairCount$Laws", "kinds", "[I", true)
  | 1 => ("StairCount$Laws", "numbers", "[I", true)
  | 2 => ("StairCount$Laws", "knots", "I", false)
  | 3 => ("StairCount$Laws", "start", "[I", true)
  | _ => ("StairCount$Laws", "end", "[I", true)
def tyX2 : Nat → FieldType := fun k => match k with
  | 0 => .array .int
  | 1 => .array .int
  | 2 => .int
  | 3 => .array .int
  | _ => .array .int
theorem nmX2 : ∀ a, a < 5 → ∀ b, b < 5 → a ≠ b → (TX2 a).2.1 ≠ (TX2 b).2.1 := by decide +kernel
theorem tyX2_ok : ∀ k, k < 5 → parseFieldDescriptor (TX2 k).2.2.1 = some (tyX2 k) := by decide +kernel
def RX3 : String := "StairCount$Notes"
def TX3 : u_T := fun k => match k with
  | 0 => ("StairCount$Notes", "hours", "[I", true)
  | 1 => ("StairCount$Notes", "person", "[I", true)
  | 2 => ("StairCount$Notes", "floo\x72", "[I", true)
  | 3 => ("StairCount$Notes", "is", "[Z", true)
  | 4 => ("StairCount$Notes", "struck", "[I", true)
  | 5 => ("StairCount$Notes", "counts", "[Z", true)
  | 6 => ("StairCount$Notes", "count", "I", false)
  | _ => ("StairCount$Notes", "limit", "I", false)
def tyX3 : Nat → FieldType := fun k => match k with
  | 0 => .array .int
  | 1 => .array .int
  | 2 => .array .int
  | 3 => .array .boolean
  | 4 => .array .int
  | 5 => .array .boolean
  | 6 => .int
  | _ => .int
theorem nmX3 : ∀ a, a < 8 → ∀ b, b < 8 → a ≠ b → (TX3 a).2.1 ≠ (TX3 b).2.1 := by decide +kernel
theorem tyX3_ok : ∀ k, k < 8 → parseFieldDescriptor (TX3 k).2.2.1 = some (tyX3 k) := by decide +kernel
def RX4 : String := "StairCount$Past"
def TX4 : u_T := fun k => match k with
  | 0 => ("StairCount$Past", "states", "[LStairCount$State;", true)
  | 1 => ("StairCount$Past", "next", "I", false)
  | _ => ("StairCount$Past", "count", "I", false)
def tyX4 : Nat → FieldType := fun k => match k with
  | 0 => .array (.object "StairCount$State")
  | 1 => .int
  | _ => .int
theorem nmX4 : ∀ a, a < 3 → ∀ b, b < 3 → a ≠ b → (TX4 a).2.1 ≠ (TX4 b).2.1 := by decide +kernel
theorem tyX4_ok : ∀ k, k < 3 → parseFieldDescriptor (TX4 k).2.2.1 = some (tyX4 k) := by decide +kernel
def RX5 : String := "StairCount$Plan"
def TX5 : u_T := fun k => match k with
  | 0 => ("StairCount$Plan", "flights", "I", false)
  | 1 => ("StairCount$Plan", "steps", "[I", true)
  | 2 => ("StairCount$Plan", "people", "I", false)
  | 3 => ("StairCount$Plan", "names", "[I", true)
  | 4 => ("StairCount$Plan", "force", "[I", true)
  | 5 => ("StairCount$Plan", "ladders", "I", false)
  | 6 => ("StairCount$Plan", "ladderFrom", "[I", true)
  | 7 => ("StairCount$Plan", "ladderTo", "[I", true)
  | 8 => ("StairCount$Plan", "ladderCost", "[I", true)
  | 9 => ("StairCount$Plan", "goings", "I", false)
  | 10 => ("StairCount$Plan", "goingKind", "[I", true)
  | 11 => ("StairCount$Plan", "goingPerson", "[I", true)
  | 12 => ("StairCount$Plan", "goingHou\x72", "[I", true)
  | 13 => ("StairCount$Plan", "goingTarget", "[I", true)
  | 14 => ("StairCount$Plan", "laws", "LStairCount$Laws;", true)
  | 15 => ("StairCount$Plan", "slip", "I", false)
  | _ => ("StairCount$Plan", "told", "LStairCount$State;", true)
def tyX5 : Nat → FieldType := fun k => match k with
  | 0 => .int
  | 1 => .array .int
  | 2 => .int
  | 3 => .array .int
  | 4 => .array .int
  | 5 => .int
  | 6 => .array .int
  | 7 => .array .int
  | 8 => .array .int
  | 9 => .int
  | 10 => .array .int
  | 11 => .array .int
  | 12 => .array .int
  | 13 => .array .int
  | 14 => .object "StairCount$Laws"
  | 15 => .int
  | _ => .object "StairCount$State"
theorem nmX5 : ∀ a, a < 17 → ∀ b, b < 17 → a ≠ b → (TX5 a).2.1 ≠ (TX5 b).2.1 := by decide +kernel
theorem tyX5_ok : ∀ k, k < 17 → parseFieldDescriptor (TX5 k).2.2.1 = some (tyX5 k) := by decide +kernel
def RX6 : String := "StairCount$Reade\x72"
def TX6 : u_T := fun k => match k with
  | 0 => ("StairCount$Reade\x72", "tokens", "LStairCount$Tokens;", true)
  | 1 => ("StairCount$Reade\x72", "waiting", "[I", true)
  | 2 => ("StairCount$Reade\x72", "plan", "LStairCount$Plan;", false)
  | 3 => ("StairCount$Reade\x72", "at", "I", false)
  | 4 => ("StairCount$Reade\x72", "fault", "I", false)
  | 5 => ("StairCount$Reade\x72", "place", "I", false)
  | 6 => ("StairCount$Reade\x72", "flightsOve\x72", "Z", false)
  | 7 => ("StairCount$Reade\x72", "slipTold", "Z", false)
  | 8 => ("StairCount$Reade\x72", "seedTold", "Z", false)
  | 9 => ("StairCount$Reade\x72", "waitingLength", "I", false)
  | 10 => ("StairCount$Reade\x72", "open", "I", false)
  | _ => ("StairCount$Reade\x72", "taken", "I", false)
def tyX6 : Nat → FieldType := fun k => match k with
  | 0 => .object "StairCount$Tokens"
  | 1 => .array .int
  | 2 => .object "StairCount$Plan"
  | 3 => .int
  | 4 => .int
  | 5 => .int
  | 6 => .boolean
  | 7 => .boolean
  | 8 => .boolean
  | 9 => .int
  | 10 => .int
  | _ => .int
theorem nmX6 : ∀ a, a < 12 → ∀ b, b < 12 → a ≠ b → (TX6 a).2.1 ≠ (TX6 b).2.1 := by decide +kernel
theorem tyX6_ok : ∀ k, k < 12 → parseFieldDescriptor (TX6 k).2.2.1 = some (tyX6 k) := by decide +kernel
def RX7 : String := "StairCount$State"
def TX7 : u_T := fun k => match k with
  | 0 => ("StairCount$State", "floo\x72", "[I", true)
  | 1 => ("StairCount$State", "tired", "[I", true)
  | 2 => ("StairCount$State", "stuck", "[I", true)
  | 3 => ("StairCount$State", "fell", "[I", true)
  | 4 => ("StairCount$State", "tally", "[I", true)
  | 5 => ("StairCount$State", "hou\x72", "I", false)
  | _ => ("StairCount$State", "numbe\x72", "I", false)
def tyX7 : Nat → FieldType := fun k => match k with
  | 0 => .array .int
  | 1 => .array .int
  | 2 => .array .int
  | 3 => .array .int
  | 4 => .array .int
  | 5 => .int
  | _ => .int
theorem nmX7 : ∀ a, a < 7 → ∀ b, b < 7 → a ≠ b → (TX7 a).2.1 ≠ (TX7 b).2.1 := by decide +kernel
theorem tyX7_ok : ∀ k, k < 7 → parseFieldDescriptor (TX7 k).2.2.1 = some (tyX7 k) := by decide +kernel
def RX8 : String := "StairCount$Tokens"
def TX8 : u_T := fun k => match k with
  | 0 => ("StairCount$Tokens", "kinds", "[I", true)
  | 1 => ("StairCount$Tokens", "places", "[I", true)
  | 2 => ("StairCount$Tokens", "values", "[I", true)
  | _ => ("StairCount$Tokens", "length", "I", false)
def tyX8 : Nat → FieldType := fun k => match k with
  | 0 => .array .int
  | 1 => .array .int
  | 2 => .array .int
  | _ => .int
theorem nmX8 : ∀ a, a < 4 → ∀ b, b < 4 → a ≠ b → (TX8 a).2.1 ≠ (TX8 b).2.1 := by decide +kernel
theorem tyX8_ok : ∀ k, k < 4 → parseFieldDescriptor (TX8 k).2.2.1 = some (tyX8 k) := by decide +kernel
def RX9 : String := "StairCount$Ways"
def TX9 : u_T := fun k => match k with
  | 0 => ("StairCount$Ways", "sum", "[I", true)
  | 1 => ("StairCount$Ways", "moves", "[I", true)
  | _ => ("StairCount$Ways", "up", "[I", true)
def tyX9 : Nat → FieldType := fun k => match k with
  | 0 => .array .int
  | 1 => .array .int
  | _ => .array .int
theorem nmX9 : ∀ a, a < 3 → ∀ b, b < 3 → a ≠ b → (TX9 a).2.1 ≠ (TX9 b).2.1 := by decide +kernel
theorem tyX9_ok : ∀ k, k < 3 → parseFieldDescriptor (TX9 k).2.2.1 = some (tyX9 k) := by decide +kernel
def RX10 : String := "StairCount"
def TX10 : u_T := fun k => match k with
  | 0 => ("StairCount", "tape", "[B", true)
  | 1 => ("StairCount", "tapeLength", "I", false)
  | 2 => ("StairCount", "plan", "LStairCount$Plan;", false)
  | 3 => ("StairCount", "reade\x72", "LStairCount$Reader;", true)
  | 4 => ("StairCount", "now", "LStairCount$State;", true)
  | 5 => ("StairCount", "image", "LStairCount$State;", true)
  | 6 => ("StairCount", "hasImage", "Z", false)
  | 7 => ("StairCount", "past", "LStairCount$Past;", true)
  | 8 => ("StairCount", "notes", "LStairCount$Notes;", true)
  | 9 => ("StairCount", "course", "LStairCount$Course;", true)
  | 10 => ("StairCount", "guess", "LStairCount$Guess;", true)
  | 11 => ("StairCount", "ways", "LStairCount$Ways;", true)
  | _ => ("StairCount", "otherWays", "LStairCount$Ways;", true)
def tyX10 : Nat → FieldType := fun k => match k with
  | 0 => .array .byte
  | 1 => .int
  | 2 => .object "StairCount$Plan"
  | 3 => .object "StairCount$Reade\x72"
  | 4 => .object "StairCount$State"
  | 5 => .object "StairCount$State"
  | 6 => .boolean
  | 7 => .object "StairCount$Past"
  | 8 => .object "StairCount$Notes"
  | 9 => .object "StairCount$Course"
  | 10 => .object "StairCount$Guess"
  | 11 => .object "StairCount$Ways"
  | _ => .object "StairCount$Ways"
theorem nmX10 : ∀ a, a < 13 → ∀ b, b < 13 → a ≠ b → (TX10 a).2.1 ≠ (TX10 b).2.1 := by decide +kernel
theorem tyX10_ok : ∀ k, k < 13 → parseFieldDescriptor (TX10 k).2.2.1 = some (tyX10 k) := by decide +kernel
def RX11 : String := "StairCountModel"
def TX11 : u_T := fun k => match k with
  | 0 => ("StairCountModel", "thrown", "I", false)
  | 1 => ("StairCountModel", "tape", "[I", true)
  | 2 => ("StairCountModel", "taped", "I", false)
  | 3 => ("StairCountModel", "numbe\x72", "[I", true)
  | 4 => ("StairCountModel", "stepsOf", "[I", true)
  | 5 => ("StairCountModel", "personName", "[I", true)
  | 6 => ("StairCountModel", "floorAs", "[I", true)
  | 7 => ("StairCountModel", "forceAs", "[I", true)
  | 8 => ("StairCountModel", "tallyAs", "[I", true)
  | 9 => ("StairCountModel", "ladderOne", "[I", true)
  | 10 => ("StairCountModel", "ladderTwo", "[I", true)
  | 11 => ("StairCountModel", "costOf", "[I", true)
  | 12 => ("StairCountModel", "goingHow", "[I", true)
  | 13 => ("StairCountModel", "goingWho", "[I", true)
  | 14 => ("StairCountModel", "goingHou\x72", "[I", true)
  | 15 => ("StairCountModel", "goingTo", "[I", true)
  | 16 => ("StairCountModel", "sumFrom", "[I", true)
  | 17 => ("StairCountModel", "sumTo", "[I", true)
  | 18 => ("StairCountModel", "knotSort", "[I", true)
  | 19 => ("StairCountModel", "knotValue", "[I", true)
  | 20 => ("StairCountModel", "told", "I", false)
  | 21 => ("StairCountModel", "lines", "I", false)
  | 22 => ("StairCountModel", "size", "I", false)
  | 23 => ("StairCountModel", "at", "I", false)
  | 24 => ("StairCountModel", "place", "I", false)
  | 25 => ("StairCountModel", "sort", "I", false)
  | 26 => ("StairCountModel", "value", "I", false)
  | 27 => ("StairCountModel", "fault", "I", false)
  | 28 => ("StairCountModel", "faultPlace", "I", false)
  | 29 => ("StairCountModel", "lastFault", "I", false)
  | 30 => ("StairCountModel", "lastPlace", "I", false)
  | 31 => ("StairCountModel", "open", "I", false)
  | 32 => ("StairCountModel", "counted", "I", false)
  | 33 => ("StairCountModel", "names", "[J", true)
  | 34 => ("StairCountModel", "worked", "[J", true)
  | 35 => ("StairCountModel", "workedMany", "I", false)
  | 36 => ("StairCountModel", "hou\x72", "[I", true)
  | 37 => ("StairCountModel", "drawn", "[I", true)
  | 38 => ("StairCountModel", "floorOf", "[I", true)
  | 39 => ("StairCountModel", "tiredOf", "[I", true)
  | 40 => ("StairCountModel", "stuckOf", "[I", true)
  | 41 => ("StairCountModel", "fellOf", "[I", true)
  | 42 => ("StairCountModel", "tallyOf", "[I", true)
  | 43 => ("StairCountModel", "hasImage", "Z", false)
  | 44 => ("StairCountModel", "undoMany", "I", false)
  | 45 => ("StairCountModel", "hadWho", "I", false)
  | 46 => ("StairCountModel", "hadWhere", "I", false)
  | 47 => ("StairCountModel", "hadTried", "I", false)
  | 48 => ("StairCountModel", "tryWhat", "I", false)
  | 49 => ("StairCountModel", "tryWho", "I", false)
  | 50 => ("StairCountModel", "turnOf", "[I", true)
  | 51 => ("StairCountModel", "row", "[I", true)
  | 52 => ("StairCountModel", "rowMany", "I", false)
  | 53 => ("StairCountModel", "leastTo", "[I", true)
  | 54 => ("StairCountModel", "movesTo", "[I", true)
  | 55 => ("StairCountModel", "upCost", "[I", true)
  | 56 => ("StairCountModel", "notes", "I", false)
  | 57 => ("StairCountModel", "knownBy", "I", false)
  | 58 => ("StairCountModel", "noteHours", "[I", true)
  | 59 => ("StairCountModel", "noteWho", "[I", true)
  | 60 => ("StairCountModel", "noteFloo\x72", "[I", true)
  | 61 => ("StairCountModel", "noteIs", "[Z", true)
  | 62 => ("StairCountModel", "outs", "[I", true)
  | 63 => ("StairCountModel", "isOut", "[Z", true)
  | _ => ("StairCountModel", "floorBy", "[I", true)
def tyX11 : Nat → FieldType := fun k => match k with
  | 0 => .int
  | 1 => .array .int
  | 2 => .int
  | 3 => .array .int
  | 4 => .array .int
  | 5 => .array .int
  | 6 => .array .int
  | 7 => .array .int
  | 8 => .array .int
  | 9 => .array .int
  | 10 => .array .int
  | 11 => .array .int
  | 12 => .array .int
  | 13 => .array .int
  | 14 => .array .int
  | 15 => .array .int
  | 16 => .array .int
  | 17 => .array .int
  | 18 => .array .int
  | 19 => .array .int
  | 20 => .int
  | 21 => .int
  | 22 => .int
  | 23 => .int
  | 24 => .int
  | 25 => .int
  | 26 => .int
  | 27 => .int
  | 28 => .int
  | 29 => .int
  | 30 => .int
  | 31 => .int
  | 32 => .int
  | 33 => .array .long
  | 34 => .array .long
  | 35 => .int
  | 36 => .array .int
  | 37 => .array .int
  | 38 => .array .int
  | 39 => .array .int
  | 40 => .array .int
  | 41 => .array .int
  | 42 => .array .int
  | 43 => .boolean
  | 44 => .int
  | 45 => .int
  | 46 => .int
  | 47 => .int
  | 48 => .int
  | 49 => .int
  | 50 => .array .int
  | 51 => .array .int
  | 52 => .int
  | 53 => .array .int
  | 54 => .array .int
  | 55 => .array .int
  | 56 => .int
  | 57 => .int
  | 58 => .array .int
  | 59 => .array .int
  | 60 => .array .int
  | 61 => .array .boolean
  | 62 => .array .int
  | 63 => .array .boolean
  | _ => .array .int
theorem nmX11 : ∀ a, a < 65 → ∀ b, b < 65 → a ≠ b → (TX11 a).2.1 ≠ (TX11 b).2.1 := by decide +kernel
theorem tyX11_ok : ∀ k, k < 65 → parseFieldDescriptor (TX11 k).2.2.1 = some (tyX11 k) := by decide +kernel
def RJ0 : String := "java/lang/String"
def RJ1 : String := "java/lang/StringLatin1"
def RJ2 : String := "java/lang/StringUTF16"
def RJ3 : String := "jdk/internal/util/Preconditions"
def RJ6 : String := "java/lang/Intege\x72"
def RJ7 : String := "java/util/Arrays"
def RJ9 : String := "java/lang/Math"
def RJ10 : String := "java/lang/System"
def cls : List vw_C := [(RX0, TX0, 11), (RX1, TX1, 2), (RX2, TX2, 5), (RX3, TX3, 8), (RX4, TX4, 3), (RX5, TX5, 17), (RX6, TX6, 12), (RX7, TX7, 7), (RX8, TX8, 4), (RX9, TX9, 3), (RX10, TX10, 13), (RX11, TX11, 65)]
theorem inX0 : ∀ w ∈ u_ws RX0 TX0 11, w ∈ tb := by
  intro w hw
  obtain ⟨k, hk, rfl⟩ := List.mem_map.mp hw
  have hk := List.mem_range.mp hk
  exact match k, hk with
  | 0, _ => tb_in 379 (by decide +kernel) (by decide +kernel)
  | 1, _ => tb_in 381 (by decide +kernel) (by decide +kernel)
  | 2, _ => tb_in 383 (by decide +kernel) (by decide +kernel)
  | 3, _ => tb_in 385 (by decide +kernel) (by decide +kernel)
  | 4, _ => tb_in 387 (by decide +kernel) (by decide +kernel)
  | 5, _ => tb_in 389 (by decide +kernel) (by decide +kernel)
  | 6, _ => tb_in 391 (by decide +kernel) (by decide +kernel)
  | 7, _ => tb_in 393 (by decide +kernel) (by decide +kernel)
  | 8, _ => tb_in 395 (by decide +kernel) (by decide +kernel)
  | 9, _ => tb_in 397 (by decide +kernel) (by decide +kernel)
  | 10, _ => tb_in 399 (by decide +kernel) (by decide +kernel)
  | k + 11, h => absurd h (by omega)
theorem inX1 : ∀ w ∈ u_ws RX1 TX1 2, w ∈ tb := by
  intro w hw
  obtain ⟨k, hk, rfl⟩ := List.mem_map.mp hw
  have hk := List.mem_range.mp hk
  exact match k, hk with
  | 0, _ => tb_in 413 (by decide +kernel) (by decide +kernel)
  | 1, _ => tb_in 415 (by decide +kernel) (by decide +kernel)
  | k + 2, h => absurd h (by omega)
theorem inX2 : ∀ w ∈ u_ws RX2 TX2 5, w ∈ tb := by
  intro w hw
  obtain ⟨k, hk, rfl⟩ := List.mem_map.mp hw
  have hk := List.mem_range.mp hk
  exact match k, hk with
  | 0, _ => tb_in 59 (by decide +kernel) (by decide +kernel)
  | 1, _ => tb_in 61 (by decide +kernel) (by decide +kernel)
  | 2, _ => tb_in 63 (by decide +kernel) (by decide +kernel)
  | 3, _ => tb_in 65 (by decide +kernel) (by decide +kernel)
  | 4, _ => tb_in 67 (by decide +kernel) (by decide +kernel)
  | k + 5, h => absurd h (by omega)
theorem inX3 : ∀ w ∈ u_ws RX3 TX3 8, w ∈ tb := by
  intro w hw
  obtain ⟨k, hk, rfl⟩ := List.mem_map.mp hw
  have hk := List.mem_range.mp hk
  exact match k, hk with
  | 0, _ => tb_in 326 (by decide +kernel) (by decide +kernel)
  | 1, _ => tb_in 328 (by decide +kernel) (by decide +kernel)
  | 2, _ => tb_in 330 (by decide +kernel) (by decide +kernel)
  | 3, _ => tb_in 332 (by decide +kernel) (by decide +kernel)
  | 4, _ => tb_in 334 (by decide +kernel) (by decide +kernel)
  | 5, _ => tb_in 336 (by decide +kernel) (by decide +kernel)
  | 6, _ => tb_in 338 (by decide +kernel) (by decide +kernel)
  | 7, _ => tb_in 340 (by decide +kernel) (by decide +kernel)
  | k + 8, h => absurd h (by omega)
theorem inX4 : ∀ w ∈ u_ws RX4 TX4 3, w ∈ tb := by
  intro w hw
  obtain ⟨k, hk, rfl⟩ := List.mem_map.mp hw
  have hk := List.mem_range.mp hk
  exact match k, hk with
  | 0, _ => tb_in 303 (by decide +kernel) (by decide +kernel)
  | 1, _ => tb_in 305 (by decide +kernel) (by decide +kernel)
  | 2, _ => tb_in 307 (by decide +kernel) (by decide +kernel)
  | k + 3, h => absurd h (by omega)
theorem inX5 : ∀ w ∈ u_ws RX5 TX5 17, w ∈ tb := by
  intro w hw
  obtain ⟨k, hk, rfl⟩ := List.mem_map.mp hw
  have hk := List.mem_range.mp hk
  exact match k, hk with
  | 0, _ => tb_in 182 (by decide +kernel) (by decide +kernel)
  | 1, _ => tb_in 184 (by decide +kernel) (by decide +kernel)
  | 2, _ => tb_in 186 (by decide +kernel) (by decide +kernel)
  | 3, _ => tb_in 188 (by decide +kernel) (by decide +kernel)
  | 4, _ => tb_in 190 (by decide +kernel) (by decide +kernel)
  | 5, _ => tb_in 192 (by decide +kernel) (by decide +kernel)
  | 6, _ => tb_in 194 (by decide +kernel) (by decide +kernel)
  | 7, _ => tb_in 196 (by decide +kernel) (by decide +kernel)
  | 8, _ => tb_in 198 (by decide +kernel) (by decide +kernel)
  | 9, _ => tb_in 200 (by decide +kernel) (by decide +kernel)
  | 10, _ => tb_in 202 (by decide +kernel) (by decide +kernel)
  | 11, _ => tb_in 204 (by decide +kernel) (by decide +kernel)
  | 12, _ => tb_in 206 (by decide +kernel) (by decide +kernel)
  | 13, _ => tb_in 208 (by decide +kernel) (by decide +kernel)
  | 14, _ => tb_in 210 (by decide +kernel) (by decide +kernel)
  | 15, _ => tb_in 212 (by decide +kernel) (by decide +kernel)
  | 16, _ => tb_in 214 (by decide +kernel) (by decide +kernel)
  | k + 17, h => absurd h (by omega)
theorem inX6 : ∀ w ∈ u_ws RX6 TX6 12, w ∈ tb := by
  intro w hw
  obtain ⟨k, hk, rfl⟩ := List.mem_map.mp hw
  have hk := List.mem_range.mp hk
  exact match k, hk with
  | 0, _ => tb_in 263 (by decide +kernel) (by decide +kernel)
  | 1, _ => tb_in 265 (by decide +kernel) (by decide +kernel)
  | 2, _ => tb_in 267 (by decide +kernel) (by decide +kernel)
  | 3, _ => tb_in 269 (by decide +kernel) (by decide +kernel)
  | 4, _ => tb_in 271 (by decide +kernel) (by decide +kernel)
  | 5, _ => tb_in 273 (by decide +kernel) (by decide +kernel)
  | 6, _ => tb_in 275 (by decide +kernel) (by decide +kernel)
  | 7, _ => tb_in 277 (by decide +kernel) (by decide +kernel)
  | 8, _ => tb_in 279 (by decide +kernel) (by decide +kernel)
  | 9, _ => tb_in 281 (by decide +kernel) (by decide +kernel)
  | 10, _ => tb_in 283 (by decide +kernel) (by decide +kernel)
  | 11, _ => tb_in 285 (by decide +kernel) (by decide +kernel)
  | k + 12, h => absurd h (by omega)
theorem inX7 : ∀ w ∈ u_ws RX7 TX7 7, w ∈ tb := by
  intro w hw
  obtain ⟨k, hk, rfl⟩ := List.mem_map.mp hw
  have hk := List.mem_range.mp hk
  exact match k, hk with
  | 0, _ => tb_in 105 (by decide +kernel) (by decide +kernel)
  | 1, _ => tb_in 107 (by decide +kernel) (by decide +kernel)
  | 2, _ => tb_in 109 (by decide +kernel) (by decide +kernel)
  | 3, _ => tb_in 111 (by decide +kernel) (by decide +kernel)
  | 4, _ => tb_in 113 (by decide +kernel) (by decide +kernel)
  | 5, _ => tb_in 115 (by decide +kernel) (by decide +kernel)
  | 6, _ => tb_in 117 (by decide +kernel) (by decide +kernel)
  | k + 7, h => absurd h (by omega)
theorem inX8 : ∀ w ∈ u_ws RX8 TX8 4, w ∈ tb := by
  intro w hw
  obtain ⟨k, hk, rfl⟩ := List.mem_map.mp hw
  have hk := List.mem_range.mp hk
  exact match k, hk with
  | 0, _ => tb_in 237 (by decide +kernel) (by decide +kernel)
  | 1, _ => tb_in 239 (by decide +kernel) (by decide +kernel)
  | 2, _ => tb_in 241 (by decide +kernel) (by decide +kernel)
  | 3, _ => tb_in 243 (by decide +kernel) (by decide +kernel)
  | k + 4, h => absurd h (by omega)
theorem inX9 : ∀ w ∈ u_ws RX9 TX9 3, w ∈ tb := by
  intro w hw
  obtain ⟨k, hk, rfl⟩ := List.mem_map.mp hw
  have hk := List.mem_range.mp hk
  exact match k, hk with
  | 0, _ => tb_in 429 (by decide +kernel) (by decide +kernel)
  | 1, _ => tb_in 431 (by decide +kernel) (by decide +kernel)
  | 2, _ => tb_in 433 (by decide +kernel) (by decide +kernel)
  | k + 3, h => absurd h (by omega)
theorem inX10 : ∀ w ∈ u_ws RX10 TX10 13, w ∈ tb := by
  intro w hw
  obtain ⟨k, hk, rfl⟩ := List.mem_map.mp hw
  have hk := List.mem_range.mp hk
  exact match k, hk with
  | 0, _ => tb_in 449 (by decide +kernel) (by decide +kernel)
  | 1, _ => tb_in 451 (by decide +kernel) (by decide +kernel)
  | 2, _ => tb_in 453 (by decide +kernel) (by decide +kernel)
  | 3, _ => tb_in 455 (by decide +kernel) (by decide +kernel)
  | 4, _ => tb_in 457 (by decide +kernel) (by decide +kernel)
  | 5, _ => tb_in 459 (by decide +kernel) (by decide +kernel)
  | 6, _ => tb_in 461 (by decide +kernel) (by decide +kernel)
  | 7, _ => tb_in 463 (by decide +kernel) (by decide +kernel)
  | 8, _ => tb_in 465 (by decide +kernel) (by decide +kernel)
  | 9, _ => tb_in 467 (by decide +kernel) (by decide +kernel)
  | 10, _ => tb_in 469 (by decide +kernel) (by decide +kernel)
  | 11, _ => tb_in 471 (by decide +kernel) (by decide +kernel)
  | 12, _ => tb_in 473 (by decide +kernel) (by decide +kernel)
  | k + 13, h => absurd h (by omega)
theorem inX11 : ∀ w ∈ u_ws RX11 TX11 65, w ∈ tb := by
  intro w hw
  obtain ⟨k, hk, rfl⟩ := List.mem_map.mp hw
  have hk := List.mem_range.mp hk
  exact match k, hk with
  | 0, _ => tb_in 1269 (by decide +kernel) (by decide +kernel)
  | 1, _ => tb_in 1271 (by decide +kernel) (by decide +kernel)
  | 2, _ => tb_in 1273 (by decide +kernel) (by decide +kernel)
  | 3, _ => tb_in 1275 (by decide +kernel) (by decide +kernel)
  | 4, _ => tb_in 1277 (by decide +kernel) (by decide +kernel)
  | 5, _ => tb_in 1279 (by decide +kernel) (by decide +kernel)
  | 6, _ => tb_in 1281 (by decide +kernel) (by decide +kernel)
  | 7, _ => tb_in 1283 (by decide +kernel) (by decide +kernel)
  | 8, _ => tb_in 1285 (by decide +kernel) (by decide +kernel)
  | 9, _ => tb_in 1287 (by decide +kernel) (by decide +kernel)
  | 10, _ => tb_in 1289 (by decide +kernel) (by decide +kernel)
  | 11, _ => tb_in 1291 (by decide +kernel) (by decide +kernel)
  | 12, _ => tb_in 1293 (by decide +kernel) (by decide +kernel)
  | 13, _ => tb_in 1295 (by decide +kernel) (by decide +kernel)
  | 14, _ => tb_in 1297 (by decide +kernel) (by decide +kernel)
  | 15, _ => tb_in 1299 (by decide +kernel) (by decide +kernel)
  | 16, _ => tb_in 1301 (by decide +kernel) (by decide +kernel)
  | 17, _ => tb_in 1303 (by decide +kernel) (by decide +kernel)
  | 18, _ => tb_in 1305 (by decide +kernel) (by decide +kernel)
  | 19, _ => tb_in 1307 (by decide +kernel) (by decide +kernel)
  | 20, _ => tb_in 1309 (by decide +kernel) (by decide +kernel)
  | 21, _ => tb_in 1311 (by decide +kernel) (by decide +kernel)
  | 22, _ => tb_in 1313 (by decide +kernel) (by decide +kernel)
  | 23, _ => tb_in 1315 (by decide +kernel) (by decide +kernel)
  | 24, _ => tb_in 1317 (by decide +kernel) (by decide +kernel)
  | 25, _ => tb_in 1319 (by decide +kernel) (by decide +kernel)
  | 26, _ => tb_in 1321 (by decide +kernel) (by decide +kernel)
  | 27, _ => tb_in 1323 (by decide +kernel) (by decide +kernel)
  | 28, _ => tb_in 1325 (by decide +kernel) (by decide +kernel)
  | 29, _ => tb_in 1327 (by decide +kernel) (by decide +kernel)
  | 30, _ => tb_in 1329 (by decide +kernel) (by decide +kernel)
  | 31, _ => tb_in 1331 (by decide +kernel) (by decide +kernel)
  | 32, _ => tb_in 1333 (by decide +kernel) (by decide +kernel)
  | 33, _ => tb_in 1335 (by decide +kernel) (by decide +kernel)
  | 34, _ => tb_in 1337 (by decide +kernel) (by decide +kernel)
  | 35, _ => tb_in 1339 (by decide +kernel) (by decide +kernel)
  | 36, _ => tb_in 1341 (by decide +kernel) (by decide +kernel)
  | 37, _ => tb_in 1343 (by decide +kernel) (by decide +kernel)
  | 38, _ => tb_in 1345 (by decide +kernel) (by decide +kernel)
  | 39, _ => tb_in 1347 (by decide +kernel) (by decide +kernel)
  | 40, _ => tb_in 1349 (by decide +kernel) (by decide +kernel)
  | 41, _ => tb_in 1351 (by decide +kernel) (by decide +kernel)
  | 42, _ => tb_in 1353 (by decide +kernel) (by decide +kernel)
  | 43, _ => tb_in 1355 (by decide +kernel) (by decide +kernel)
  | 44, _ => tb_in 1357 (by decide +kernel) (by decide +kernel)
  | 45, _ => tb_in 1359 (by decide +kernel) (by decide +kernel)
  | 46, _ => tb_in 1361 (by decide +kernel) (by decide +kernel)
  | 47, _ => tb_in 1363 (by decide +kernel) (by decide +kernel)
  | 48, _ => tb_in 1365 (by decide +kernel) (by decide +kernel)
  | 49, _ => tb_in 1367 (by decide +kernel) (by decide +kernel)
  | 50, _ => tb_in 1369 (by decide +kernel) (by decide +kernel)
  | 51, _ => tb_in 1371 (by decide +kernel) (by decide +kernel)
  | 52, _ => tb_in 1373 (by decide +kernel) (by decide +kernel)
  | 53, _ => tb_in 1375 (by decide +kernel) (by decide +kernel)
  | 54, _ => tb_in 1377 (by decide +kernel) (by decide +kernel)
  | 55, _ => tb_in 1379 (by decide +kernel) (by decide +kernel)
  | 56, _ => tb_in 1381 (by decide +kernel) (by decide +kernel)
  | 57, _ => tb_in 1383 (by decide +kernel) (by decide +kernel)
  | 58, _ => tb_in 1385 (by decide +kernel) (by decide +kernel)
  | 59, _ => tb_in 1387 (by decide +kernel) (by decide +kernel)
  | 60, _ => tb_in 1389 (by decide +kernel) (by decide +kernel)
  | 61, _ => tb_in 1391 (by decide +kernel) (by decide +kernel)
  | 62, _ => tb_in 1393 (by decide +kernel) (by decide +kernel)
  | 63, _ => tb_in 1395 (by decide +kernel) (by decide +kernel)
  | 64, _ => tb_in 1397 (by decide +kernel) (by decide +kernel)
  | k + 65, h => absurd h (by omega)
/-- what every row over a field wants of a class -/
def okC (q : vw_C) : Prop := (∀ w ∈ u_ws q.1 q.2.1 q.2.2, w ∈ tb) ∧ (∃ ty : Nat → FieldType, ∀ k, k < q.2.2 → parseFieldDescriptor (q.2.1 k).2.2.1 = some (ty k)) ∧ (∀ a, a < q.2.2 → ∀ b, b < q.2.2 → a ≠ b → (q.2.1 a).2.1 ≠ (q.2.1 b).2.1)
theorem cls_ok : ∀ q ∈ cls, okC q := by
  intro q hq
  simp only [cls, List.mem_cons, List.not_mem_nil, or_false] at hq
  rcases hq with rfl | rfl | rfl | rfl | rfl | rfl | rfl | rfl | rfl | rfl | rfl | rfl
  · exact ⟨inX0, ⟨tyX0, tyX0_ok⟩, nmX0⟩
  · exact ⟨inX1, ⟨tyX1, tyX1_ok⟩, nmX1⟩
  · exact ⟨inX2, ⟨tyX2, tyX2_ok⟩, nmX2⟩
  · exact ⟨inX3, ⟨tyX3, tyX3_ok⟩, nmX3⟩
  · exact ⟨inX4, ⟨tyX4, tyX4_ok⟩, nmX4⟩
  · exact ⟨inX5, ⟨tyX5, tyX5_ok⟩, nmX5⟩
  · exact ⟨inX6, ⟨tyX6, tyX6_ok⟩, nmX6⟩
  · exact ⟨inX7, ⟨tyX7, tyX7_ok⟩, nmX7⟩
  · exact ⟨inX8, ⟨tyX8, tyX8_ok⟩, nmX8⟩
  · exact ⟨inX9, ⟨tyX9, tyX9_ok⟩, nmX9⟩
  · exact ⟨inX10, ⟨tyX10, tyX10_ok⟩, nmX10⟩
  · exact ⟨inX11, ⟨tyX11, tyX11_ok⟩, nmX11⟩
/-- a field: an int of its own place, a final reference (so many cells behind its object), a reference that changes -/
abbrev fS : Type := Nat ⊕ Nat ⊕ Nat
def fsC : Nat → List fS := fun ci => match ci with
  | 0 => [.inr (.inl 1), .inr (.inl 2), .inr (.inl 3), .inl 3, .inr (.inr 2), .inr (.inr 3), .inl 6, .inl 7, .inl 8, .inr (.inl 31), .inr (.inr 4)]
  | 1 => [.inr (.inl 1), .inr (.inl 21)]
  | 2 => [.inr (.inl 1), .inr (.inl 2), .inl 2, .inr (.inl 3), .inr (.inl 4)]
  | 3 => [.inr (.inl 1), .inr (.inl 2), .inr (.inl 3), .inr (.inl 4), .inr (.inl 5), .inr (.inl 6), .inl 6, .inl 7]
  | 4 => [.inr (.inl 1), .inl 1, .inl 2]
  | 5 => [.inl 0, .inr (.inl 1), .inl 2, .inr (.inl 2), .inr (.inl 3), .inl 5, .inr (.inl 4), .inr (.inl 5), .inr (.inl 6), .inl 9, .inr (.inl 7), .inr (.inl 8), .inr (.inl 9), .inr (.inl 10), .inr (.inl 11), .inl 15, .inr (.inl 16)]
  | 6 => [.inr (.inl 1), .inr (.inl 5), .inr (.inr 1), .inl 3, .inl 4, .inl 5, .inl 6, .inl 7, .inl 8, .inl 9, .inl 10, .inl 11]
  | 7 => [.inr (.inl 1), .inr (.inl 2), .inr (.inl 3), .inr (.inl 4), .inr (.inl 5), .inl 5, .inl 6]
  | 8 => [.inr (.inl 1), .inr (.inl 2), .inr (.inl 3), .inl 3]
  | 9 => [.inr (.inl 1), .inr (.inl 2), .inr (.inl 3)]
  | 10 => [.inr (.inl 1), .inl 1, .inr (.inr 0), .inr (.inl 24), .inr (.inl 52), .inr (.inl 58), .inl 6, .inr (.inl 64), .inr (.inl 186), .inr (.inl 193), .inr (.inl 225), .inr (.inl 247), .inr (.inl 251)]
  | _ => [.inl 0, .inr (.inl 1), .inl 2, .inr (.inl 2), .inr (.inl 3), .inr (.inl 4), .inr (.inl 5), .inr (.inl 6), .inr (.inl 7), .inr (.inl 8), .inr (.inl 9), .inr (.inl 10), .inr (.inl 11), .inr (.inl 12), .inr (.inl 13), .inr (.inl 14), .inr (.inl 15), .inr (.inl 16), .inr (.inl 17), .inr (.inl 18), .inl 20, .inl 21, .inl 22, .inl 23, .inl 24, .inl 25, .inl 26, .inl 27, .inl 28, .inl 29, .inl 30, .inl 31, .inl 32, .inr (.inl 19), .inr (.inl 20), .inl 35, .inr (.inl 21), .inr (.inl 22), .inr (.inl 23), .inr (.inl 24), .inr (.inl 25), .inr (.inl 26), .inr (.inl 27), .inl 43, .inl 44, .inl 45, .inl 46, .inl 47, .inl 48, .inl 49, .inr (.inl 28), .inr (.inl 29), .inl 52, .inr (.inl 30), .inr (.inl 31), .inr (.inl 32), .inl 56, .inl 57, .inr (.inl 33), .inr (.inl 34), .inr (.inl 35), .inr (.inl 36), .inr (.inl 37), .inr (.inl 38), .inr (.inl 39)]
/-- a cell: an object of a class, or an array: type, length, and what it holds (0 ints, 1 longs, 2 and k: references, the first to the next cell, then k further each) -/
def shL_0 : List (Nat ⊕ (Nat × Nat × Nat)) := [.inl 10, .inr (1, 700, 0), .inl 5, .inr (0, 6, 0), .inr (0, 6, 0), .inr (0, 6, 0), .inr (0, 6, 0), .inr (0, 6, 0), .inr (0, 6, 0), .inr (0, 20, 0), .inr (0, 20, 0), .inr (0, 20, 0), .inr (0, 20, 0), .inl 2, .inr (0, 64, 0), .inr (0, 64, 0), .inr (0, 3, 0), .inr (0, 3, 0), .inl 7, .inr (0, 6, 0), .inr (0, 6, 0), .inr (0, 6, 0), .inr (0, 6, 0), .inr (0, 36, 0), .inl 6, .inl 8, .inr (0, 701, 0), .inr (0, 701, 0), .inr (0, 701, 0), .inr (0, 72, 0), .inl 5, .inr (0, 6, 0), .inr (0, 6, 0), .inr (0, 6, 0), .inr (0, 6, 0), .inr (0, 6, 0), .inr (0, 6, 0), .inr (0, 20, 0), .inr (0, 20, 0), .inr (0, 20, 0), .inr (0, 20, 0), .inl 2, .inr (0, 64, 0), .inr (0, 64, 0), .inr (0, 3, 0), .inr (0, 3, 0), .inl 7, .inr (0, 6, 0), .inr (0, 6, 0), .inr (0, 6, 0)]
def shL_1 : List (Nat ⊕ (Nat × Nat × Nat)) := [.inr (0, 6, 0), .inr (0, 36, 0), .inl 7, .inr (0, 6, 0), .inr (0, 6, 0), .inr (0, 6, 0), .inr (0, 6, 0), .inr (0, 36, 0), .inl 7, .inr (0, 6, 0), .inr (0, 6, 0), .inr (0, 6, 0), .inr (0, 6, 0), .inr (0, 36, 0), .inl 4, .inr (4, 20, 8), .inl 7, .inr (0, 6, 0), .inr (0, 6, 0), .inr (0, 6, 0), .inr (0, 6, 0), .inr (0, 36, 0), .inl 7, .inr (0, 6, 0), .inr (0, 6, 0), .inr (0, 6, 0), .inr (0, 6, 0), .inr (0, 36, 0), .inl 7, .inr (0, 6, 0), .inr (0, 6, 0), .inr (0, 6, 0), .inr (0, 6, 0), .inr (0, 36, 0), .inl 7, .inr (0, 6, 0), .inr (0, 6, 0), .inr (0, 6, 0), .inr (0, 6, 0), .inr (0, 36, 0), .inl 7, .inr (0, 6, 0), .inr (0, 6, 0), .inr (0, 6, 0), .inr (0, 6, 0), .inr (0, 36, 0), .inl 7, .inr (0, 6, 0), .inr (0, 6, 0), .inr (0, 6, 0)]
def shL_2 : List (Nat ⊕ (Nat × Nat × Nat)) := [.inr (0, 6, 0), .inr (0, 36, 0), .inl 7, .inr (0, 6, 0), .inr (0, 6, 0), .inr (0, 6, 0), .inr (0, 6, 0), .inr (0, 36, 0), .inl 7, .inr (0, 6, 0), .inr (0, 6, 0), .inr (0, 6, 0), .inr (0, 6, 0), .inr (0, 36, 0), .inl 7, .inr (0, 6, 0), .inr (0, 6, 0), .inr (0, 6, 0), .inr (0, 6, 0), .inr (0, 36, 0), .inl 7, .inr (0, 6, 0), .inr (0, 6, 0), .inr (0, 6, 0), .inr (0, 6, 0), .inr (0, 36, 0), .inl 7, .inr (0, 6, 0), .inr (0, 6, 0), .inr (0, 6, 0), .inr (0, 6, 0), .inr (0, 36, 0), .inl 7, .inr (0, 6, 0), .inr (0, 6, 0), .inr (0, 6, 0), .inr (0, 6, 0), .inr (0, 36, 0), .inl 7, .inr (0, 6, 0), .inr (0, 6, 0), .inr (0, 6, 0), .inr (0, 6, 0), .inr (0, 36, 0), .inl 7, .inr (0, 6, 0), .inr (0, 6, 0), .inr (0, 6, 0), .inr (0, 6, 0), .inr (0, 36, 0)]
def shL_3 : List (Nat ⊕ (Nat × Nat × Nat)) := [.inl 7, .inr (0, 6, 0), .inr (0, 6, 0), .inr (0, 6, 0), .inr (0, 6, 0), .inr (0, 36, 0), .inl 7, .inr (0, 6, 0), .inr (0, 6, 0), .inr (0, 6, 0), .inr (0, 6, 0), .inr (0, 36, 0), .inl 7, .inr (0, 6, 0), .inr (0, 6, 0), .inr (0, 6, 0), .inr (0, 6, 0), .inr (0, 36, 0), .inl 7, .inr (0, 6, 0), .inr (0, 6, 0), .inr (0, 6, 0), .inr (0, 6, 0), .inr (0, 36, 0), .inl 7, .inr (0, 6, 0), .inr (0, 6, 0), .inr (0, 6, 0), .inr (0, 6, 0), .inr (0, 36, 0), .inl 7, .inr (0, 6, 0), .inr (0, 6, 0), .inr (0, 6, 0), .inr (0, 6, 0), .inr (0, 36, 0), .inl 3, .inr (0, 24, 0), .inr (0, 24, 0), .inr (0, 24, 0), .inr (2, 24, 0), .inr (0, 24, 0), .inr (2, 24, 0), .inl 0, .inr (0, 20, 0), .inr (3, 64, 1), .inl 7, .inr (0, 6, 0), .inr (0, 6, 0), .inr (0, 6, 0)]
def shL_4 : List (Nat ⊕ (Nat × Nat × Nat)) := [.inr (0, 6, 0), .inr (0, 36, 0), .inl 5, .inr (0, 6, 0), .inr (0, 6, 0), .inr (0, 6, 0), .inr (0, 6, 0), .inr (0, 6, 0), .inr (0, 6, 0), .inr (0, 20, 0), .inr (0, 20, 0), .inr (0, 20, 0), .inr (0, 20, 0), .inl 2, .inr (0, 64, 0), .inr (0, 64, 0), .inr (0, 3, 0), .inr (0, 3, 0), .inl 7, .inr (0, 6, 0), .inr (0, 6, 0), .inr (0, 6, 0), .inr (0, 6, 0), .inr (0, 36, 0), .inr (0, 6, 0), .inl 1, .inr (5, 19, 3), .inr (0, 41, 0), .inr (0, 41, 0), .inr (0, 41, 0), .inr (0, 41, 0), .inr (0, 41, 0), .inr (0, 41, 0), .inr (0, 41, 0), .inr (0, 41, 0), .inr (0, 41, 0), .inr (0, 41, 0), .inr (0, 41, 0), .inr (0, 41, 0), .inr (0, 41, 0), .inr (0, 41, 0), .inr (0, 41, 0), .inr (0, 41, 0), .inr (0, 41, 0), .inr (0, 41, 0), .inr (0, 41, 0), .inr (0, 7, 0), .inl 9, .inr (0, 7, 0), .inr (0, 7, 0)]
def shL_5 : List (Nat ⊕ (Nat × Nat × Nat)) := [.inr (0, 6, 0), .inl 9, .inr (0, 7, 0), .inr (0, 7, 0), .inr (0, 6, 0), .inl 11, .inr (0, 700, 0), .inr (0, 14, 0), .inr (0, 12, 0), .inr (0, 12, 0), .inr (0, 12, 0), .inr (0, 12, 0), .inr (0, 72, 0), .inr (0, 12, 0), .inr (0, 12, 0), .inr (0, 12, 0), .inr (0, 40, 0), .inr (0, 40, 0), .inr (0, 40, 0), .inr (0, 40, 0), .inr (0, 6, 0), .inr (0, 6, 0), .inr (0, 128, 0), .inr (0, 128, 0), .inr (3, 7, 1), .inr (3, 64, 1), .inr (0, 23, 0), .inr (0, 23, 0), .inr (0, 138, 0), .inr (0, 138, 0), .inr (0, 138, 0), .inr (0, 138, 0), .inr (0, 828, 0), .inr (0, 20, 0), .inr (0, 20, 0), .inr (0, 14, 0), .inr (0, 14, 0), .inr (0, 6, 0), .inr (0, 24, 0), .inr (0, 24, 0), .inr (0, 24, 0), .inr (2, 24, 0), .inr (0, 24, 0), .inr (2, 24, 0), .inr (0, 779, 0)]
def shL : List (Nat ⊕ (Nat × Nat × Nat)) := shL_0 ++ (shL_1 ++ (shL_2 ++ (shL_3 ++ (shL_4 ++ (shL_5)))))
abbrev nN : Nat := 295
theorem shL_len : shL.length = nN := by decide +kernel
def tyA : Nat → FieldType := fun k => match k with
  | 0 => .int
  | 1 => .byte
  | 2 => .boolean
  | 3 => .long
  | 4 => .object RX7
  | _ => .array .int
