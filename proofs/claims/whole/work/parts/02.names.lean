/-! names: the classes, their fields in the order of the slots, the good words of the tables (wip/gen/names.py) -/
def tG : List Cond := lw_tbl.filter goodWord
theorem tG_of {w : Cond} (h : w ∈ lw_tbl) (hg : goodWord w = true) : w ∈ tG := List.mem_filter.mpr ⟨h, hg⟩
theorem tG_at (i : Nat) {w : Cond} (h : lw_tbl[i]? = some w) (hg : goodWord w = true) : w ∈ tG := tG_of (List.mem_of_getElem? h) hg
theorem tG_good {w : Cond} (h : w ∈ tG) : w ∈ lw_tbl ∧ goodWord w = true := List.mem_filter.mp h
theorem tG_all (ws : List Cond) (ps : List Nat) (h : ws = ps.filterMap (fun i => lw_tbl[i]?)) (hg : ws.all goodWord = true) : ∀ w ∈ ws, w ∈ tG := by
  intro w hw
  have h1 := List.all_eq_true.mp hg w hw
  rw [h] at hw
  obtain ⟨i, -, hi⟩ := List.mem_filterMap.mp hw
  exact tG_at i hi h1
def RX0 : String := "SundayGame$Bytes"
def TX0 : u_T := fun k => match k with
  | 0 => ("SundayGame$Bytes", "length", "I", false)
  | _ => ("SundayGame$Bytes", "row", "[I", true)
def tyX0 : Nat → FieldType := fun k => match k with
  | 0 => .int
  | _ => .array .int
theorem nmX0 : ∀ a, a < 2 → ∀ b, b < 2 → a ≠ b → (TX0 a).2.1 ≠ (TX0 b).2.1 := by decide +kernel
theorem tyX0_ok : ∀ k, k < 2 → parseFieldDescriptor (TX0 k).2.2.1 = some (tyX0 k) := by decide +kernel
set_option maxRecDepth 20000 in
theorem inX0 : ∀ w ∈ u_ws RX0 TX0 2, w ∈ tG := tG_all _ [177, 179] (by decide +kernel) (by decide +kernel)
def RX1 : String := "SundayGame$Game"
def TX1 : u_T := fun k => match k with
  | 0 => ("SundayGame$Game", "fields", "I", false)
  | 1 => ("SundayGame$Game", "pieces", "I", false)
  | 2 => ("SundayGame$Game", "rules", "I", false)
  | 3 => ("SundayGame$Game", "positions", "I", false)
  | 4 => ("SundayGame$Game", "stuck", "I", false)
  | 5 => ("SundayGame$Game", "tests", "LSundayGame$Tests;", true)
  | 6 => ("SundayGame$Game", "names", "[I", true)
  | 7 => ("SundayGame$Game", "starts", "[I", true)
  | 8 => ("SundayGame$Game", "owners", "[I", true)
  | 9 => ("SundayGame$Game", "kindsTold", "[I", true)
  | 10 => ("SundayGame$Game", "piecesTold", "[I", true)
  | 11 => ("SundayGame$Game", "waysTold", "[I", true)
  | 12 => ("SundayGame$Game", "stepsTold", "[I", true)
  | 13 => ("SundayGame$Game", "evers", "[Z", true)
  | 14 => ("SundayGame$Game", "weights", "[I", true)
  | 15 => ("SundayGame$Game", "spots", "[I", true)
  | _ => ("SundayGame$Game", "truths", "[I", true)
def tyX1 : Nat → FieldType := fun k => match k with
  | 0 => .int
  | 1 => .int
  | 2 => .int
  | 3 => .int
  | 4 => .int
  | 5 => .object "SundayGame$Tests"
  | 6 => .array .int
  | 7 => .array .int
  | 8 => .array .int
  | 9 => .array .int
  | 10 => .array .int
  | 11 => .array .int
  | 12 => .array .int
  | 13 => .array .boolean
  | 14 => .array .int
  | 15 => .array .int
  | _ => .array .int
theorem nmX1 : ∀ a, a < 17 → ∀ b, b < 17 → a ≠ b → (TX1 a).2.1 ≠ (TX1 b).2.1 := by decide +kernel
theorem tyX1_ok : ∀ k, k < 17 → parseFieldDescriptor (TX1 k).2.2.1 = some (tyX1 k) := by decide +kernel
set_option maxRecDepth 20000 in
theorem inX1 : ∀ w ∈ u_ws RX1 TX1 17, w ∈ tG := tG_all _ [241, 243, 245, 247, 249, 251, 253, 255, 257, 259, 261, 263, 265, 267, 269, 271, 273] (by decide +kernel) (by decide +kernel)
def RX2 : String := "SundayGame$History"
def TX2 : u_T := fun k => match k with
  | 0 => ("SundayGame$History", "count", "I", false)
  | 1 => ("SundayGame$History", "codes", "[I", true)
  | _ => ("SundayGame$History", "before", "[I", true)
def tyX2 : Nat → FieldType := fun k => match k with
  | 0 => .int
  | 1 => .array .int
  | _ => .array .int
theorem nmX2 : ∀ a, a < 3 → ∀ b, b < 3 → a ≠ b → (TX2 a).2.1 ≠ (TX2 b).2.1 := by decide +kernel
theorem tyX2_ok : ∀ k, k < 3 → parseFieldDescriptor (TX2 k).2.2.1 = some (tyX2 k) := by decide +kernel
set_option maxRecDepth 20000 in
theorem inX2 : ∀ w ∈ u_ws RX2 TX2 3, w ∈ tG := tG_all _ [439, 441, 443] (by decide +kernel) (by decide +kernel)
def RX3 : String := "SundayGame$Match"
def TX3 : u_T := fun k => match k with
  | 0 => ("SundayGame$Match", "position", "I", false)
  | 1 => ("SundayGame$Match", "moveCount", "I", false)
  | _ => ("SundayGame$Match", "wonByMove", "I", false)
def tyX3 : Nat → FieldType := fun k => match k with
  | 0 => .int
  | 1 => .int
  | _ => .int
theorem nmX3 : ∀ a, a < 3 → ∀ b, b < 3 → a ≠ b → (TX3 a).2.1 ≠ (TX3 b).2.1 := by decide +kernel
theorem tyX3_ok : ∀ k, k < 3 → parseFieldDescriptor (TX3 k).2.2.1 = some (tyX3 k) := by decide +kernel
set_option maxRecDepth 20000 in
theorem inX3 : ∀ w ∈ u_ws RX3 TX3 3, w ∈ tG := tG_all _ [589, 591, 593] (by decide +kernel) (by decide +kernel)
def RX4 : String := "SundayGame$Moves"
def TX4 : u_T := fun k => match k with
  | 0 => ("SundayGame$Moves", "laidAll", "Z", false)
  | 1 => ("SundayGame$Moves", "listLength", "I", false)
  | 2 => ("SundayGame$Moves", "game", "LSundayGame$Game;", false)
  | 3 => ("SundayGame$Moves", "list", "[I", true)
  | 4 => ("SundayGame$Moves", "listed", "[I", true)
  | 5 => ("SundayGame$Moves", "counts", "[I", true)
  | 6 => ("SundayGame$Moves", "codes", "[I", true)
  | 7 => ("SundayGame$Moves", "nexts", "[I", true)
  | 8 => ("SundayGame$Moves", "speakers", "[I", true)
  | 9 => ("SundayGame$Moves", "speakerShifts", "[I", true)
  | 10 => ("SundayGame$Moves", "speakerAllows", "[Z", true)
  | 11 => ("SundayGame$Moves", "speakerCounts", "[I", true)
  | 12 => ("SundayGame$Moves", "enders", "[I", true)
  | 13 => ("SundayGame$Moves", "enderResults", "[I", true)
  | _ => ("SundayGame$Moves", "enderCount", "I", false)
def tyX4 : Nat → FieldType := fun k => match k with
  | 0 => .boolean
  | 1 => .int
  | 2 => .object "SundayGame$Game"
  | 3 => .array .int
  | 4 => .array .int
  | 5 => .array .int
  | 6 => .array .int
  | 7 => .array .int
  | 8 => .array .int
  | 9 => .array .int
  | 10 => .array .boolean
  | 11 => .array .int
  | 12 => .array .int
  | 13 => .array .int
  | _ => .int
theorem nmX4 : ∀ a, a < 15 → ∀ b, b < 15 → a ≠ b → (TX4 a).2.1 ≠ (TX4 b).2.1 := by decide +kernel
theorem tyX4_ok : ∀ k, k < 15 → parseFieldDescriptor (TX4 k).2.2.1 = some (tyX4 k) := by decide +kernel
set_option maxRecDepth 20000 in
theorem inX4 : ∀ w ∈ u_ws RX4 TX4 15, w ∈ tG := tG_all _ [469, 471, 473, 475, 477, 479, 481, 483, 485, 487, 489, 491, 493, 495, 497] (by decide +kernel) (by decide +kernel)
def RX5 : String := "SundayGame$Reader"
def TX5 : u_T := fun k => match k with
  | 0 => ("SundayGame$Reader", "faultKind", "I", false)
  | 1 => ("SundayGame$Reader", "faultPlace", "I", false)
  | 2 => ("SundayGame$Reader", "tokens", "LSundayGame$Tokens;", true)
  | 3 => ("SundayGame$Reader", "cursor", "I", false)
  | 4 => ("SundayGame$Reader", "game", "LSundayGame$Game;", false)
  | _ => ("SundayGame$Reader", "openBrackets", "I", false)
def tyX5 : Nat → FieldType := fun k => match k with
  | 0 => .int
  | 1 => .int
  | 2 => .object "SundayGame$Tokens"
  | 3 => .int
  | 4 => .object "SundayGame$Game"
  | _ => .int
theorem nmX5 : ∀ a, a < 6 → ∀ b, b < 6 → a ≠ b → (TX5 a).2.1 ≠ (TX5 b).2.1 := by decide +kernel
theorem tyX5_ok : ∀ k, k < 6 → parseFieldDescriptor (TX5 k).2.2.1 = some (tyX5 k) := by decide +kernel
set_option maxRecDepth 20000 in
theorem inX5 : ∀ w ∈ u_ws RX5 TX5 6, w ∈ tG := tG_all _ [373, 375, 377, 379, 381, 383] (by decide +kernel) (by decide +kernel)
def RX6 : String := "SundayGame$Slate"
def TX6 : u_T := fun k => match k with
  | 0 => ("SundayGame$Slate", "size", "I", false)
  | _ => ("SundayGame$Slate", "places", "[I", true)
def tyX6 : Nat → FieldType := fun k => match k with
  | 0 => .int
  | _ => .array .int
theorem nmX6 : ∀ a, a < 2 → ∀ b, b < 2 → a ≠ b → (TX6 a).2.1 ≠ (TX6 b).2.1 := by decide +kernel
theorem tyX6_ok : ∀ k, k < 2 → parseFieldDescriptor (TX6 k).2.2.1 = some (tyX6 k) := by decide +kernel
set_option maxRecDepth 20000 in
theorem inX6 : ∀ w ∈ u_ws RX6 TX6 2, w ∈ tG := tG_all _ [396, 398] (by decide +kernel) (by decide +kernel)
def RX7 : String := "SundayGame$Spring"
def TX7 : u_T := fun k => match k with
  | 0 => ("SundayGame$Spring", "kept", "Z", false)
  | 1 => ("SundayGame$Spring", "slate", "LSundayGame$Slate;", true)
  | 2 => ("SundayGame$Spring", "partingMoves", "I", false)
  | 3 => ("SundayGame$Spring", "partingPosition", "I", false)
  | _ => ("SundayGame$Spring", "distances", "[I", true)
def tyX7 : Nat → FieldType := fun k => match k with
  | 0 => .boolean
  | 1 => .object "SundayGame$Slate"
  | 2 => .int
  | 3 => .int
  | _ => .array .int
theorem nmX7 : ∀ a, a < 5 → ∀ b, b < 5 → a ≠ b → (TX7 a).2.1 ≠ (TX7 b).2.1 := by decide +kernel
theorem tyX7_ok : ∀ k, k < 5 → parseFieldDescriptor (TX7 k).2.2.1 = some (tyX7 k) := by decide +kernel
set_option maxRecDepth 20000 in
theorem inX7 : ∀ w ∈ u_ws RX7 TX7 5, w ∈ tG := tG_all _ [418, 420, 422, 424, 426] (by decide +kernel) (by decide +kernel)
def RX8 : String := "SundayGame$Tests"
def TX8 : u_T := fun k => match k with
  | 0 => ("SundayGame$Tests", "code", "[I", true)
  | 1 => ("SundayGame$Tests", "ends", "[I", true)
  | 2 => ("SundayGame$Tests", "length", "I", false)
  | 3 => ("SundayGame$Tests", "count", "I", false)
  | _ => ("SundayGame$Tests", "stack", "[I", true)
def tyX8 : Nat → FieldType := fun k => match k with
  | 0 => .array .int
  | 1 => .array .int
  | 2 => .int
  | 3 => .int
  | _ => .array .int
theorem nmX8 : ∀ a, a < 5 → ∀ b, b < 5 → a ≠ b → (TX8 a).2.1 ≠ (TX8 b).2.1 := by decide +kernel
theorem tyX8_ok : ∀ k, k < 5 → parseFieldDescriptor (TX8 k).2.2.1 = some (tyX8 k) := by decide +kernel
set_option maxRecDepth 20000 in
theorem inX8 : ∀ w ∈ u_ws RX8 TX8 5, w ∈ tG := tG_all _ [200, 202, 204, 206, 208] (by decide +kernel) (by decide +kernel)
def RX9 : String := "SundayGame$Tokens"
def TX9 : u_T := fun k => match k with
  | 0 => ("SundayGame$Tokens", "ownCodes", "[I", true)
  | 1 => ("SundayGame$Tokens", "types", "[I", true)
  | 2 => ("SundayGame$Tokens", "places", "[I", true)
  | 3 => ("SundayGame$Tokens", "contents", "[I", true)
  | 4 => ("SundayGame$Tokens", "count", "I", false)
  | _ => ("SundayGame$Tokens", "next", "I", false)
def tyX9 : Nat → FieldType := fun k => match k with
  | 0 => .array .int
  | 1 => .array .int
  | 2 => .array .int
  | 3 => .array .int
  | 4 => .int
  | _ => .int
theorem nmX9 : ∀ a, a < 6 → ∀ b, b < 6 → a ≠ b → (TX9 a).2.1 ≠ (TX9 b).2.1 := by decide +kernel
theorem tyX9_ok : ∀ k, k < 6 → parseFieldDescriptor (TX9 k).2.2.1 = some (tyX9 k) := by decide +kernel
set_option maxRecDepth 20000 in
theorem inX9 : ∀ w ∈ u_ws RX9 TX9 6, w ∈ tG := tG_all _ [351, 353, 355, 357, 359, 361] (by decide +kernel) (by decide +kernel)
def RX10 : String := "SundayGame$Values"
def TX10 : u_T := fun k => match k with
  | 0 => ("SundayGame$Values", "solved", "Z", false)
  | 1 => ("SundayGame$Values", "moves", "LSundayGame$Moves;", true)
  | 2 => ("SundayGame$Values", "settledWorths", "[I", true)
  | 3 => ("SundayGame$Values", "settledSteps", "[I", true)
  | 4 => ("SundayGame$Values", "left", "[I", true)
  | 5 => ("SundayGame$Values", "sourceStarts", "[I", true)
  | 6 => ("SundayGame$Values", "sources", "[I", true)
  | 7 => ("SundayGame$Values", "queue", "[I", true)
  | 8 => ("SundayGame$Values", "queueLength", "I", false)
  | 9 => ("SundayGame$Values", "rowLengths", "[I", true)
  | 10 => ("SundayGame$Values", "bestMoves", "[I", true)
  | 11 => ("SundayGame$Values", "chances", "[J", false)
  | _ => ("SundayGame$Values", "chancesBefore", "[J", false)
def tyX10 : Nat → FieldType := fun k => match k with
  | 0 => .boolean
  | 1 => .object "SundayGame$Moves"
  | 2 => .array .int
  | 3 => .array .int
  | 4 => .array .int
  | 5 => .array .int
  | 6 => .array .int
  | 7 => .array .int
  | 8 => .int
  | 9 => .array .int
  | 10 => .array .int
  | 11 => .array .long
  | _ => .array .long
theorem nmX10 : ∀ a, a < 13 → ∀ b, b < 13 → a ≠ b → (TX10 a).2.1 ≠ (TX10 b).2.1 := by decide +kernel
theorem tyX10_ok : ∀ k, k < 13 → parseFieldDescriptor (TX10 k).2.2.1 = some (tyX10 k) := by decide +kernel
set_option maxRecDepth 20000 in
theorem inX10 : ∀ w ∈ u_ws RX10 TX10 13, w ∈ tG := tG_all _ [522, 524, 526, 528, 530, 532, 534, 536, 538, 540, 542, 544, 546] (by decide +kernel) (by decide +kernel)
def RX11 : String := "SundayGame$Worths"
def TX11 : u_T := fun k => match k with
  | 0 => ("SundayGame$Worths", "values", "LSundayGame$Values;", true)
  | 1 => ("SundayGame$Worths", "game", "LSundayGame$Game;", false)
  | 2 => ("SundayGame$Worths", "knowsGame", "Z", false)
  | 3 => ("SundayGame$Worths", "base", "LSundayGame$Slate;", true)
  | 4 => ("SundayGame$Worths", "changed", "LSundayGame$Slate;", true)
  | _ => ("SundayGame$Worths", "known", "[I", true)
def tyX11 : Nat → FieldType := fun k => match k with
  | 0 => .object "SundayGame$Values"
  | 1 => .object "SundayGame$Game"
  | 2 => .boolean
  | 3 => .object "SundayGame$Slate"
  | 4 => .object "SundayGame$Slate"
  | _ => .array .int
theorem nmX11 : ∀ a, a < 6 → ∀ b, b < 6 → a ≠ b → (TX11 a).2.1 ≠ (TX11 b).2.1 := by decide +kernel
theorem tyX11_ok : ∀ k, k < 6 → parseFieldDescriptor (TX11 k).2.2.1 = some (tyX11 k) := by decide +kernel
set_option maxRecDepth 20000 in
theorem inX11 : ∀ w ∈ u_ws RX11 TX11 6, w ∈ tG := tG_all _ [564, 566, 568, 570, 572, 574] (by decide +kernel) (by decide +kernel)
def RX12 : String := "SundayGame"
def TX12 : u_T := fun k => match k with
  | 0 => ("SundayGame", "tape", "LSundayGame$Bytes;", true)
  | 1 => ("SundayGame", "told", "LSundayGame$Game;", false)
  | 2 => ("SundayGame", "spare", "LSundayGame$Game;", false)
  | 3 => ("SundayGame", "reader", "LSundayGame$Reader;", true)
  | 4 => ("SundayGame", "slate", "LSundayGame$Slate;", true)
  | 5 => ("SundayGame", "spring", "LSundayGame$Spring;", true)
  | 6 => ("SundayGame", "history", "LSundayGame$History;", true)
  | 7 => ("SundayGame", "moves", "LSundayGame$Moves;", true)
  | 8 => ("SundayGame", "values", "LSundayGame$Values;", true)
  | 9 => ("SundayGame", "trials", "LSundayGame$Values;", true)
  | 10 => ("SundayGame", "worths", "LSundayGame$Worths;", true)
  | 11 => ("SundayGame", "laterWorths", "LSundayGame$Worths;", true)
  | 12 => ("SundayGame", "trail", "[LSundayGame$Slate;", true)
  | 13 => ("SundayGame", "match", "LSundayGame$Match;", true)
  | 14 => ("SundayGame", "rowMatch", "LSundayGame$Match;", true)
  | 15 => ("SundayGame", "errs", "[I", true)
  | 16 => ("SundayGame", "kinds", "[I", true)
  | 17 => ("SundayGame", "sunday", "I", false)
  | 18 => ("SundayGame", "image", "LSundayGame$Bytes;", true)
  | _ => ("SundayGame", "refusals", "[I", true)
def tyX12 : Nat → FieldType := fun k => match k with
  | 0 => .object "SundayGame$Bytes"
  | 1 => .object "SundayGame$Game"
  | 2 => .object "SundayGame$Game"
  | 3 => .object "SundayGame$Reader"
  | 4 => .object "SundayGame$Slate"
  | 5 => .object "SundayGame$Spring"
  | 6 => .object "SundayGame$History"
  | 7 => .object "SundayGame$Moves"
  | 8 => .object "SundayGame$Values"
  | 9 => .object "SundayGame$Values"
  | 10 => .object "SundayGame$Worths"
  | 11 => .object "SundayGame$Worths"
  | 12 => .array (.object "SundayGame$Slate")
  | 13 => .object "SundayGame$Match"
  | 14 => .object "SundayGame$Match"
  | 15 => .array .int
  | 16 => .array .int
  | 17 => .int
  | 18 => .object "SundayGame$Bytes"
  | _ => .array .int
theorem nmX12 : ∀ a, a < 20 → ∀ b, b < 20 → a ≠ b → (TX12 a).2.1 ≠ (TX12 b).2.1 := by decide +kernel
theorem tyX12_ok : ∀ k, k < 20 → parseFieldDescriptor (TX12 k).2.2.1 = some (tyX12 k) := by decide +kernel
set_option maxRecDepth 20000 in
theorem inX12 : ∀ w ∈ u_ws RX12 TX12 20, w ∈ tG := tG_all _ [687, 689, 691, 693, 695, 697, 699, 701, 703, 705, 707, 709, 711, 713, 715, 717, 719, 721, 723, 725] (by decide +kernel) (by decide +kernel)
def RX13 : String := "SundayGameModel"
def TX13 : u_T := fun k => match k with
  | 0 => ("SundayGameModel", "tape", "[I", true)
  | 1 => ("SundayGameModel", "taped", "I", false)
  | 2 => ("SundayGameModel", "size", "I", false)
  | 3 => ("SundayGameModel", "sign", "I", false)
  | 4 => ("SundayGameModel", "signAt", "I", false)
  | 5 => ("SundayGameModel", "signEnd", "I", false)
  | 6 => ("SundayGameModel", "value", "I", false)
  | 7 => ("SundayGameModel", "word", "J", false)
  | 8 => ("SundayGameModel", "faultKind", "I", false)
  | 9 => ("SundayGameModel", "faultPlace", "I", false)
  | 10 => ("SundayGameModel", "toldKind", "I", false)
  | 11 => ("SundayGameModel", "toldPlace", "I", false)
  | 12 => ("SundayGameModel", "bank", "I", false)
  | 13 => ("SundayGameModel", "fields", "[I", true)
  | 14 => ("SundayGameModel", "pieces", "[I", true)
  | 15 => ("SundayGameModel", "pieceName", "[J", true)
  | 16 => ("SundayGameModel", "pieceAt", "[I", true)
  | 17 => ("SundayGameModel", "pieceOf", "[I", true)
  | 18 => ("SundayGameModel", "stuck", "[I", true)
  | 19 => ("SundayGameModel", "rules", "[I", true)
  | 20 => ("SundayGameModel", "kindTold", "[I", true)
  | 21 => ("SundayGameModel", "ofPiece", "[I", true)
  | 22 => ("SundayGameModel", "way", "[I", true)
  | 23 => ("SundayGameModel", "numberTold", "[I", true)
  | 24 => ("SundayGameModel", "isEver", "[Z", true)
  | 25 => ("SundayGameModel", "testFrom", "[I", true)
  | 26 => ("SundayGameModel", "testTo", "[I", true)
  | 27 => ("SundayGameModel", "codeSort", "[I", true)
  | 28 => ("SundayGameModel", "codeValue", "[I", true)
  | 29 => ("SundayGameModel", "codes", "I", false)
  | 30 => ("SundayGameModel", "in", "I", false)
  | 31 => ("SundayGameModel", "frame", "[I", true)
  | 32 => ("SundayGameModel", "phase", "[I", true)
  | 33 => ("SundayGameModel", "begins", "[Z", true)
  | 34 => ("SundayGameModel", "pair", "[I", true)
  | 35 => ("SundayGameModel", "base", "[I", true)
  | 36 => ("SundayGameModel", "deep", "I", false)
  | 37 => ("SundayGameModel", "open", "I", false)
  | 38 => ("SundayGameModel", "ops", "[I", true)
  | 39 => ("SundayGameModel", "opMany", "I", false)
  | 40 => ("SundayGameModel", "operand", "Z", false)
  | 41 => ("SundayGameModel", "refused", "[I", true)
  | 42 => ("SundayGameModel", "heap", "[J", true)
  | 43 => ("SundayGameModel", "moment", "[I", true)
  | 44 => ("SundayGameModel", "at", "[I", true)
  | 45 => ("SundayGameModel", "isStruck", "[Z", true)
  | 46 => ("SundayGameModel", "isTurned", "[Z", true)
  | 47 => ("SundayGameModel", "steps", "[I", true)
  | 48 => ("SundayGameModel", "sunday", "I", false)
  | 49 => ("SundayGameModel", "kinds", "[I", true)
  | 50 => ("SundayGameModel", "err", "[I", true)
  | 51 => ("SundayGameModel", "many", "[I", true)
  | 52 => ("SundayGameModel", "code", "[I", true)
  | 53 => ("SundayGameModel", "to", "[I", true)
  | 54 => ("SundayGameModel", "isLaid", "[Z", true)
  | 55 => ("SundayGameModel", "queue", "[I", true)
  | 56 => ("SundayGameModel", "queued", "I", false)
  | 57 => ("SundayGameModel", "worthOf", "[I", true)
  | 58 => ("SundayGameModel", "within", "[I", true)
  | 59 => ("SundayGameModel", "position", "I", false)
  | 60 => ("SundayGameModel", "moved", "I", false)
  | 61 => ("SundayGameModel", "ended", "I", false)
  | 62 => ("SundayGameModel", "rows", "[I", true)
  | 63 => ("SundayGameModel", "chance", "[J", true)
  | 64 => ("SundayGameModel", "chanceNext", "[J", true)
  | 65 => ("SundayGameModel", "undos", "I", false)
  | 66 => ("SundayGameModel", "keptAt", "[I", true)
  | 67 => ("SundayGameModel", "keptStruck", "[Z", true)
  | 68 => ("SundayGameModel", "keptTurned", "[Z", true)
  | 69 => ("SundayGameModel", "keptSteps", "[I", true)
  | 70 => ("SundayGameModel", "ringAt", "[I", true)
  | 71 => ("SundayGameModel", "ringRest", "[I", true)
  | 72 => ("SundayGameModel", "hasSpring", "Z", false)
  | 73 => ("SundayGameModel", "springAt", "[I", true)
  | 74 => ("SundayGameModel", "springRest", "[I", true)
  | 75 => ("SundayGameModel", "manyThen", "[I", true)
  | 76 => ("SundayGameModel", "codeThen", "[I", true)
  | 77 => ("SundayGameModel", "toThen", "[I", true)
  | 78 => ("SundayGameModel", "come", "[I", true)
  | 79 => ("SundayGameModel", "out", "[I", true)
  | _ => ("SundayGameModel", "outs", "I", false)
def tyX13 : Nat → FieldType := fun k => match k with
  | 0 => .array .int
  | 1 => .int
  | 2 => .int
  | 3 => .int
  | 4 => .int
  | 5 => .int
  | 6 => .int
  | 7 => .long
  | 8 => .int
  | 9 => .int
  | 10 => .int
  | 11 => .int
  | 12 => .int
  | 13 => .array .int
  | 14 => .array .int
  | 15 => .array .long
  | 16 => .array .int
  | 17 => .array .int
  | 18 => .array .int
  | 19 => .array .int
  | 20 => .array .int
  | 21 => .array .int
  | 22 => .array .int
  | 23 => .array .int
  | 24 => .array .boolean
  | 25 => .array .int
  | 26 => .array .int
  | 27 => .array .int
  | 28 => .array .int
  | 29 => .int
  | 30 => .int
  | 31 => .array .int
  | 32 => .array .int
  | 33 => .array .boolean
  | 34 => .array .int
  | 35 => .array .int
  | 36 => .int
  | 37 => .int
  | 38 => .array .int
  | 39 => .int
  | 40 => .boolean
  | 41 => .array .int
  | 42 => .array .long
  | 43 => .array .int
  | 44 => .array .int
  | 45 => .array .boolean
  | 46 => .array .boolean
  | 47 => .array .int
  | 48 => .int
  | 49 => .array .int
  | 50 => .array .int
  | 51 => .array .int
  | 52 => .array .int
  | 53 => .array .int
  | 54 => .array .boolean
  | 55 => .array .int
  | 56 => .int
  | 57 => .array .int
  | 58 => .array .int
  | 59 => .int
  | 60 => .int
  | 61 => .int
  | 62 => .array .int
  | 63 => .array .long
  | 64 => .array .long
  | 65 => .int
  | 66 => .array .int
  | 67 => .array .boolean
  | 68 => .array .boolean
  | 69 => .array .int
  | 70 => .array .int
  | 71 => .array .int
  | 72 => .boolean
  | 73 => .array .int
  | 74 => .array .int
  | 75 => .array .int
  | 76 => .array .int
  | 77 => .array .int
  | 78 => .array .int
  | 79 => .array .int
  | _ => .int
theorem nmX13 : ∀ a, a < 81 → ∀ b, b < 81 → a ≠ b → (TX13 a).2.1 ≠ (TX13 b).2.1 := by decide +kernel
theorem tyX13_ok : ∀ k, k < 81 → parseFieldDescriptor (TX13 k).2.2.1 = some (tyX13 k) := by decide +kernel
set_option maxRecDepth 20000 in
theorem inX13 : ∀ w ∈ u_ws RX13 TX13 81, w ∈ tG := tG_all _ [1570, 1572, 1574, 1576, 1578, 1580, 1582, 1584, 1586, 1588, 1590, 1592, 1594, 1596, 1598, 1600, 1602, 1604, 1606, 1608, 1610, 1612, 1614, 1616, 1618, 1620, 1622, 1624, 1626, 1628, 1630, 1632, 1634, 1636, 1638, 1640, 1642, 1644, 1646, 1648, 1650, 1652, 1654, 1656, 1658, 1660, 1662, 1664, 1666, 1668, 1670, 1672, 1674, 1676, 1678, 1680, 1682, 1684, 1686, 1688, 1690, 1692, 1694, 1696, 1698, 1700, 1702, 1704, 1706, 1708, 1710, 1712, 1714, 1716, 1718, 1720, 1722, 1724, 1726, 1728, 1730] (by decide +kernel) (by decide +kernel)
abbrev vwCl : List vw_C := [(RX0, TX0, 2), (RX1, TX1, 17), (RX2, TX2, 3), (RX3, TX3, 3), (RX4, TX4, 15), (RX5, TX5, 6), (RX6, TX6, 2), (RX7, TX7, 5), (RX8, TX8, 5), (RX9, TX9, 6), (RX10, TX10, 13), (RX11, TX11, 6), (RX12, TX12, 20), (RX13, TX13, 81)]
/-- how many fields; a field's kind: 0 int, 1 long, 2 boolean, 3 a reference, 4 a final one -/
def ctyT : List (List Nat) := [[0, 4], [0, 0, 0, 0, 0, 4, 4, 4, 4, 4, 4, 4, 4, 4, 4, 4, 4], [0, 4, 4], [0, 0, 0], [2, 0, 3, 4, 4, 4, 4, 4, 4, 4, 4, 4, 4, 4, 0], [0, 0, 4, 0, 3, 0], [0, 4], [2, 4, 0, 0, 4], [4, 4, 0, 0, 4], [4, 4, 4, 4, 0, 0], [2, 4, 4, 4, 4, 4, 4, 4, 0, 4, 4, 3, 3], [4, 3, 2, 4, 4, 4], [4, 3, 3, 4, 4, 4, 4, 4, 4, 4, 4, 4, 4, 4, 4, 4, 4, 0, 4, 4], [4, 0, 0, 0, 0, 0, 0, 1, 0, 0, 0, 0, 0, 4, 4, 4, 4, 4, 4, 4, 4, 4, 4, 4, 4, 4, 4, 4, 4, 0, 0, 4, 4, 4, 4, 4, 0, 0, 4, 0, 2, 4, 4, 4, 4, 4, 4, 4, 0, 4, 4, 4, 4, 4, 4, 4, 0, 4, 4, 0, 0, 0, 4, 4, 4, 0, 4, 4, 4, 4, 4, 4, 2, 4, 4, 4, 4, 4, 4, 4, 0]]
def nfX (c : Nat) : Nat := (ctyT.getD c []).length
def cty (c k : Nat) : Nat := (ctyT.getD c []).getD k 0
