def RX0 : String := "OddHay$Acts"
def TX0 : u_T := fun k => match k with
  | 0 => ("OddHay$Acts", "kept", "[I", true)
  | _ => ("OddHay$Acts", "count", "I", false)
def tyX0 : Nat → FieldType := fun k => match k with
  | 0 => .array .int
  | _ => .int
set_option maxRecDepth 20000 in
theorem nmX0 : ∀ a, a < 2 → ∀ b, b < 2 → a ≠ b → (TX0 a).2.1 ≠ (TX0 b).2.1 := by decide +kernel
theorem tyX0_ok : ∀ k, k < 2 → parseFieldDescriptor (TX0 k).2.2.1 = some (tyX0 k) := by decide +kernel
def RX1 : String := "OddHay$Ground"
def TX1 : u_T := fun k => match k with
  | 0 => ("OddHay$Ground", "his", "[I", true)
  | 1 => ("OddHay$Ground", "east", "[I", true)
  | 2 => ("OddHay$Ground", "south", "[I", true)
  | 3 => ("OddHay$Ground", "turns", "[I", true)
  | _ => ("OddHay$Ground", "on", "[I", true)
def tyX1 : Nat → FieldType := fun k => match k with
  | 0 => .array .int
  | 1 => .array .int
  | 2 => .array .int
  | 3 => .array .int
  | _ => .array .int
set_option maxRecDepth 20000 in
theorem nmX1 : ∀ a, a < 5 → ∀ b, b < 5 → a ≠ b → (TX1 a).2.1 ≠ (TX1 b).2.1 := by decide +kernel
theorem tyX1_ok : ∀ k, k < 5 → parseFieldDescriptor (TX1 k).2.2.1 = some (tyX1 k) := by decide +kernel
def RX2 : String := "OddHay$Line"
def TX2 : u_T := fun k => match k with
  | 0 => ("OddHay$Line", "name", "J", false)
  | 1 => ("OddHay$Line", "corners", "I", false)
  | 2 => ("OddHay$Line", "x", "[I", true)
  | _ => ("OddHay$Line", "y", "[I", true)
def tyX2 : Nat → FieldType := fun k => match k with
  | 0 => .long
  | 1 => .int
  | 2 => .array .int
  | _ => .array .int
set_option maxRecDepth 20000 in
theorem nmX2 : ∀ a, a < 4 → ∀ b, b < 4 → a ≠ b → (TX2 a).2.1 ≠ (TX2 b).2.1 := by decide +kernel
theorem tyX2_ok : ∀ k, k < 4 → parseFieldDescriptor (TX2 k).2.2.1 = some (tyX2 k) := by decide +kernel
def RX3 : String := "OddHay$Night"
def TX3 : u_T := fun k => match k with
  | 0 => ("OddHay$Night", "fewest", "I", false)
  | 1 => ("OddHay$Night", "ways", "I", false)
  | 2 => ("OddHay$Night", "first", "[I", true)
  | 3 => ("OddHay$Night", "points", "LOddHay$Points;", true)
  | 4 => ("OddHay$Night", "line", "LOddHay$Line;", true)
  | 5 => ("OddHay$Night", "edges", "LOddHay$Sights;", true)
  | 6 => ("OddHay$Night", "placeCount", "[I", true)
  | 7 => ("OddHay$Night", "placeX", "[I", true)
  | 8 => ("OddHay$Night", "placeY", "[I", true)
  | 9 => ("OddHay$Night", "coming", "LOddHay$Sights;", true)
  | 10 => ("OddHay$Night", "going", "LOddHay$Sights;", true)
  | 11 => ("OddHay$Night", "kinds", "LOddHay$Sights;", true)
  | 12 => ("OddHay$Night", "kindCount", "[I", true)
  | 13 => ("OddHay$Night", "kindSize", "[I", true)
  | 14 => ("OddHay$Night", "kindFirst", "[I", true)
  | 15 => ("OddHay$Night", "restRounds", "J", false)
  | 16 => ("OddHay$Night", "restOn", "I", false)
  | _ => ("OddHay$Night", "found", "I", false)
def tyX3 : Nat → FieldType := fun k => match k with
  | 0 => .int
  | 1 => .int
  | 2 => .array .int
  | 3 => .object "OddHay$Points"
  | 4 => .object "OddHay$Line"
  | 5 => .object "OddHay$Sights"
  | 6 => .array .int
  | 7 => .array .int
  | 8 => .array .int
  | 9 => .object "OddHay$Sights"
  | 10 => .object "OddHay$Sights"
  | 11 => .object "OddHay$Sights"
  | 12 => .array .int
  | 13 => .array .int
  | 14 => .array .int
  | 15 => .long
  | 16 => .int
  | _ => .int
set_option maxRecDepth 20000 in
theorem nmX3 : ∀ a, a < 18 → ∀ b, b < 18 → a ≠ b → (TX3 a).2.1 ≠ (TX3 b).2.1 := by decide +kernel
theorem tyX3_ok : ∀ k, k < 18 → parseFieldDescriptor (TX3 k).2.2.1 = some (tyX3 k) := by decide +kernel
def RX4 : String := "OddHay$Pacer"
def TX4 : u_T := fun k => match k with
  | 0 => ("OddHay$Pacer", "told", "[I", true)
  | 1 => ("OddHay$Pacer", "rows", "I", false)
  | 2 => ("OddHay$Pacer", "directions", "[I", true)
  | 3 => ("OddHay$Pacer", "lengths", "[I", true)
  | _ => ("OddHay$Pacer", "rowsWithRoom", "[I", true)
def tyX4 : Nat → FieldType := fun k => match k with
  | 0 => .array .int
  | 1 => .int
  | 2 => .array .int
  | 3 => .array .int
  | _ => .array .int
set_option maxRecDepth 20000 in
theorem nmX4 : ∀ a, a < 5 → ∀ b, b < 5 → a ≠ b → (TX4 a).2.1 ≠ (TX4 b).2.1 := by decide +kernel
theorem tyX4_ok : ∀ k, k < 5 → parseFieldDescriptor (TX4 k).2.2.1 = some (tyX4 k) := by decide +kernel
def RX5 : String := "OddHay$Parish"
def TX5 : u_T := fun k => match k with
  | 0 => ("OddHay$Parish", "lines", "[LOddHay$Line;", true)
  | 1 => ("OddHay$Parish", "hayX", "[I", true)
  | 2 => ("OddHay$Parish", "hayY", "[I", true)
  | 3 => ("OddHay$Parish", "hayLoads", "[I", true)
  | 4 => ("OddHay$Parish", "hayNames", "[J", true)
  | 5 => ("OddHay$Parish", "heirs", "[I", true)
  | 6 => ("OddHay$Parish", "lineCount", "I", false)
  | 7 => ("OddHay$Parish", "hayCount", "I", false)
  | 8 => ("OddHay$Parish", "churchX", "I", false)
  | 9 => ("OddHay$Parish", "churchY", "I", false)
  | 10 => ("OddHay$Parish", "law", "I", false)
  | 11 => ("OddHay$Parish", "edge", "I", false)
  | 12 => ("OddHay$Parish", "movedCorners", "I", false)
  | 13 => ("OddHay$Parish", "toldOnce", "I", false)
  | _ => ("OddHay$Parish", "seed", "I", false)
def tyX5 : Nat → FieldType := fun k => match k with
  | 0 => .array (.object "OddHay$Line")
  | 1 => .array .int
  | 2 => .array .int
  | 3 => .array .int
  | 4 => .array .long
  | 5 => .array .int
  | 6 => .int
  | 7 => .int
  | 8 => .int
  | 9 => .int
  | 10 => .int
  | 11 => .int
  | 12 => .int
  | 13 => .int
  | _ => .int
set_option maxRecDepth 20000 in
theorem nmX5 : ∀ a, a < 15 → ∀ b, b < 15 → a ≠ b → (TX5 a).2.1 ≠ (TX5 b).2.1 := by decide +kernel
theorem tyX5_ok : ∀ k, k < 15 → parseFieldDescriptor (TX5 k).2.2.1 = some (tyX5 k) := by decide +kernel
def RX6 : String := "OddHay$Pieces"
def TX6 : u_T := fun k => match k with
  | 0 => ("OddHay$Pieces", "count", "I", false)
  | 1 => ("OddHay$Pieces", "pieceOf", "[I", true)
  | 2 => ("OddHay$Pieces", "squares", "[I", true)
  | 3 => ("OddHay$Pieces", "start", "[I", true)
  | 4 => ("OddHay$Pieces", "beside", "[I", true)
  | 5 => ("OddHay$Pieces", "besideStart", "[I", true)
  | 6 => ("OddHay$Pieces", "seenFrom", "[I", true)
  | 7 => ("OddHay$Pieces", "ends", "[I", true)
  | 8 => ("OddHay$Pieces", "endCount", "I", false)
  | 9 => ("OddHay$Pieces", "goal", "I", false)
  | _ => ("OddHay$Pieces", "cost", "[I", true)
def tyX6 : Nat → FieldType := fun k => match k with
  | 0 => .int
  | 1 => .array .int
  | 2 => .array .int
  | 3 => .array .int
  | 4 => .array .int
  | 5 => .array .int
  | 6 => .array .int
  | 7 => .array .int
  | 8 => .int
  | 9 => .int
  | _ => .array .int
set_option maxRecDepth 20000 in
theorem nmX6 : ∀ a, a < 11 → ∀ b, b < 11 → a ≠ b → (TX6 a).2.1 ≠ (TX6 b).2.1 := by decide +kernel
theorem tyX6_ok : ∀ k, k < 11 → parseFieldDescriptor (TX6 k).2.2.1 = some (tyX6 k) := by decide +kernel
def RX7 : String := "OddHay$Points"
def TX7 : u_T := fun k => match k with
  | 0 => ("OddHay$Points", "law", "I", false)
  | 1 => ("OddHay$Points", "edge", "I", false)
  | 2 => ("OddHay$Points", "count", "I", false)
  | 3 => ("OddHay$Points", "x", "[I", true)
  | 4 => ("OddHay$Points", "y", "[I", true)
  | _ => ("OddHay$Points", "owner", "[I", true)
def tyX7 : Nat → FieldType := fun k => match k with
  | 0 => .int
  | 1 => .int
  | 2 => .int
  | 3 => .array .int
  | 4 => .array .int
  | _ => .array .int
set_option maxRecDepth 20000 in
theorem nmX7 : ∀ a, a < 6 → ∀ b, b < 6 → a ≠ b → (TX7 a).2.1 ≠ (TX7 b).2.1 := by decide +kernel
theorem tyX7_ok : ∀ k, k < 6 → parseFieldDescriptor (TX7 k).2.2.1 = some (tyX7 k) := by decide +kernel
def RX8 : String := "OddHay$Reader"
def TX8 : u_T := fun k => match k with
  | 0 => ("OddHay$Reader", "bytes", "[I", true)
  | 1 => ("OddHay$Reader", "length", "I", false)
  | 2 => ("OddHay$Reader", "faultKind", "I", false)
  | 3 => ("OddHay$Reader", "faultPlace", "I", false)
  | 4 => ("OddHay$Reader", "kind", "I", false)
  | 5 => ("OddHay$Reader", "start", "I", false)
  | 6 => ("OddHay$Reader", "word", "I", false)
  | 7 => ("OddHay$Reader", "value", "I", false)
  | 8 => ("OddHay$Reader", "letters", "J", false)
  | 9 => ("OddHay$Reader", "most", "I", false)
  | _ => ("OddHay$Reader", "at", "I", false)
def tyX8 : Nat → FieldType := fun k => match k with
  | 0 => .array .int
  | 1 => .int
  | 2 => .int
  | 3 => .int
  | 4 => .int
  | 5 => .int
  | 6 => .int
  | 7 => .int
  | 8 => .long
  | 9 => .int
  | _ => .int
set_option maxRecDepth 20000 in
theorem nmX8 : ∀ a, a < 11 → ∀ b, b < 11 → a ≠ b → (TX8 a).2.1 ≠ (TX8 b).2.1 := by decide +kernel
theorem tyX8_ok : ∀ k, k < 11 → parseFieldDescriptor (TX8 k).2.2.1 = some (tyX8 k) := by decide +kernel
def RX9 : String := "OddHay$Sights"
def TX9 : u_T := fun k => match k with
  | 0 => ("OddHay$Sights", "rounds", "[J", true)
  | _ => ("OddHay$Sights", "on", "[I", true)
def tyX9 : Nat → FieldType := fun k => match k with
  | 0 => .array .long
  | _ => .array .int
set_option maxRecDepth 20000 in
theorem nmX9 : ∀ a, a < 2 → ∀ b, b < 2 → a ≠ b → (TX9 a).2.1 ≠ (TX9 b).2.1 := by decide +kernel
theorem tyX9_ok : ∀ k, k < 2 → parseFieldDescriptor (TX9 k).2.2.1 = some (tyX9 k) := by decide +kernel
def RX10 : String := "OddHay$Walker"
def TX10 : u_T := fun k => match k with
  | 0 => ("OddHay$Walker", "told", "[I", true)
  | 1 => ("OddHay$Walker", "square", "I", false)
  | 2 => ("OddHay$Walker", "steps", "I", false)
  | 3 => ("OddHay$Walker", "crossings", "I", false)
  | 4 => ("OddHay$Walker", "cost", "[I", true)
  | 5 => ("OddHay$Walker", "queue", "[I", true)
  | 6 => ("OddHay$Walker", "waits", "[I", true)
  | 7 => ("OddHay$Walker", "head", "I", false)
  | _ => ("OddHay$Walker", "waiting", "I", false)
def tyX10 : Nat → FieldType := fun k => match k with
  | 0 => .array .int
  | 1 => .int
  | 2 => .int
  | 3 => .int
  | 4 => .array .int
  | 5 => .array .int
  | 6 => .array .int
  | 7 => .int
  | _ => .int
set_option maxRecDepth 20000 in
theorem nmX10 : ∀ a, a < 9 → ∀ b, b < 9 → a ≠ b → (TX10 a).2.1 ≠ (TX10 b).2.1 := by decide +kernel
theorem tyX10_ok : ∀ k, k < 9 → parseFieldDescriptor (TX10 k).2.2.1 = some (tyX10 k) := by decide +kernel
def RX11 : String := "OddHay"
def TX11 : u_T := fun k => match k with
  | 0 => ("OddHay", "reader", "LOddHay$Reader;", true)
  | 1 => ("OddHay", "acts", "LOddHay$Acts;", true)
  | 2 => ("OddHay", "ground", "LOddHay$Ground;", true)
  | 3 => ("OddHay", "other", "LOddHay$Ground;", true)
  | 4 => ("OddHay", "landscape", "LOddHay$Pieces;", true)
  | 5 => ("OddHay", "walker", "LOddHay$Walker;", true)
  | 6 => ("OddHay", "pacer", "LOddHay$Pacer;", true)
  | 7 => ("OddHay", "points", "LOddHay$Points;", true)
  | 8 => ("OddHay", "night", "LOddHay$Night;", true)
  | 9 => ("OddHay", "spare", "LOddHay$Line;", true)
  | 10 => ("OddHay", "sides", "[I", true)
  | 11 => ("OddHay", "images", "[LOddHay$Parish;", true)
  | 12 => ("OddHay", "imageKept", "[Z", true)
  | 13 => ("OddHay", "now", "LOddHay$Parish;", false)
  | 14 => ("OddHay", "draft", "LOddHay$Parish;", false)
  | 15 => ("OddHay", "faultKind", "I", false)
  | _ => ("OddHay", "firstWrong", "I", false)
def tyX11 : Nat → FieldType := fun k => match k with
  | 0 => .object "OddHay$Reader"
  | 1 => .object "OddHay$Acts"
  | 2 => .object "OddHay$Ground"
  | 3 => .object "OddHay$Ground"
  | 4 => .object "OddHay$Pieces"
  | 5 => .object "OddHay$Walker"
  | 6 => .object "OddHay$Pacer"
  | 7 => .object "OddHay$Points"
  | 8 => .object "OddHay$Night"
  | 9 => .object "OddHay$Line"
  | 10 => .array .int
  | 11 => .array (.object "OddHay$Parish")
  | 12 => .array .boolean
  | 13 => .object "OddHay$Parish"
  | 14 => .object "OddHay$Parish"
  | 15 => .int
  | _ => .int
set_option maxRecDepth 20000 in
theorem nmX11 : ∀ a, a < 17 → ∀ b, b < 17 → a ≠ b → (TX11 a).2.1 ≠ (TX11 b).2.1 := by decide +kernel
theorem tyX11_ok : ∀ k, k < 17 → parseFieldDescriptor (TX11 k).2.2.1 = some (tyX11 k) := by decide +kernel
def RX12 : String := "OddHayModel"
def TX12 : u_T := fun k => match k with
  | 0 => ("OddHayModel", "thrown", "I", false)
  | 1 => ("OddHayModel", "tape", "[B", true)
  | 2 => ("OddHayModel", "length", "I", false)
  | 3 => ("OddHayModel", "size", "I", false)
  | 4 => ("OddHayModel", "p", "I", false)
  | 5 => ("OddHayModel", "limit", "I", false)
  | 6 => ("OddHayModel", "s", "[I", true)
  | 7 => ("OddHayModel", "h", "[I", true)
  | 8 => ("OddHayModel", "names", "[J", true)
  | 9 => ("OddHayModel", "reserved", "[J", true)
  | 10 => ("OddHayModel", "token", "I", false)
  | 11 => ("OddHayModel", "at", "I", false)
  | 12 => ("OddHayModel", "span", "I", false)
  | 13 => ("OddHayModel", "number", "I", false)
  | 14 => ("OddHayModel", "fault", "I", false)
  | 15 => ("OddHayModel", "faultAt", "I", false)
  | 16 => ("OddHayModel", "word", "J", false)
  | 17 => ("OddHayModel", "got", "I", false)
  | 18 => ("OddHayModel", "rows", "I", false)
  | 19 => ("OddHayModel", "onces", "I", false)
  | 20 => ("OddHayModel", "xs", "[I", true)
  | 21 => ("OddHayModel", "ys", "[I", true)
  | 22 => ("OddHayModel", "many", "I", false)
  | 23 => ("OddHayModel", "crossed", "I", false)
  | 24 => ("OddHayModel", "round", "I", false)
  | 25 => ("OddHayModel", "his", "[Z", true)
  | 26 => ("OddHayModel", "then", "[Z", true)
  | 27 => ("OddHayModel", "wrongRow", "I", false)
  | 28 => ("OddHayModel", "isSo", "Z", false)
  | 29 => ("OddHayModel", "pieceOf", "[I", true)
  | 30 => ("OddHayModel", "queue", "[I", true)
  | 31 => ("OddHayModel", "firstOf", "[I", true)
  | 32 => ("OddHayModel", "sizeOf", "[I", true)
  | 33 => ("OddHayModel", "pieceMany", "I", false)
  | 34 => ("OddHayModel", "seen", "[Z", true)
  | 35 => ("OddHayModel", "walkedTo", "[I", true)
  | 36 => ("OddHayModel", "hasWalked", "Z", false)
  | 37 => ("OddHayModel", "cost", "[I", true)
  | 38 => ("OddHayModel", "trees", "[I", true)
  | 39 => ("OddHayModel", "undone", "[I", true)
  | 40 => ("OddHayModel", "undoMany", "I", false)
  | 41 => ("OddHayModel", "seed", "I", false)
  | 42 => ("OddHayModel", "told", "[I", true)
  | 43 => ("OddHayModel", "toldMany", "I", false)
  | 44 => ("OddHayModel", "firstWay", "[I", true)
  | 45 => ("OddHayModel", "waysMany", "I", false)
  | 46 => ("OddHayModel", "wayCorners", "I", false)
  | 47 => ("OddHayModel", "waysFound", "I", false)
  | 48 => ("OddHayModel", "sides", "[I", true)
  | 49 => ("OddHayModel", "hasSides", "Z", false)
  | 50 => ("OddHayModel", "pacedTo", "[I", true)
  | 51 => ("OddHayModel", "room", "[I", true)
  | 52 => ("OddHayModel", "hasPaced", "Z", false)
  | 53 => ("OddHayModel", "paceDir", "[I", true)
  | 54 => ("OddHayModel", "paceMany", "[I", true)
  | 55 => ("OddHayModel", "kept", "[I", true)
  | 56 => ("OddHayModel", "namesKept", "[J", true)
  | _ => ("OddHayModel", "isKept", "[Z", true)
def tyX12 : Nat → FieldType := fun k => match k with
  | 0 => .int
  | 1 => .array .byte
  | 2 => .int
  | 3 => .int
  | 4 => .int
  | 5 => .int
  | 6 => .array .int
  | 7 => .array .int
  | 8 => .array .long
  | 9 => .array .long
  | 10 => .int
  | 11 => .int
  | 12 => .int
  | 13 => .int
  | 14 => .int
  | 15 => .int
  | 16 => .long
  | 17 => .int
  | 18 => .int
  | 19 => .int
  | 20 => .array .int
  | 21 => .array .int
  | 22 => .int
  | 23 => .int
  | 24 => .int
  | 25 => .array .boolean
  | 26 => .array .boolean
  | 27 => .int
  | 28 => .boolean
  | 29 => .array .int
  | 30 => .array .int
  | 31 => .array .int
  | 32 => .array .int
  | 33 => .int
  | 34 => .array .boolean
  | 35 => .array .int
  | 36 => .boolean
  | 37 => .array .int
  | 38 => .array .int
  | 39 => .array .int
  | 40 => .int
  | 41 => .int
  | 42 => .array .int
  | 43 => .int
  | 44 => .array .int
  | 45 => .int
  | 46 => .int
  | 47 => .int
  | 48 => .array .int
  | 49 => .boolean
  | 50 => .array .int
  | 51 => .array .int
  | 52 => .boolean
  | 53 => .array .int
  | 54 => .array .int
  | 55 => .array .int
  | 56 => .array .long
  | _ => .array .boolean
set_option maxRecDepth 20000 in
theorem nmX12 : ∀ a, a < 58 → ∀ b, b < 58 → a ≠ b → (TX12 a).2.1 ≠ (TX12 b).2.1 := by decide +kernel
theorem tyX12_ok : ∀ k, k < 58 → parseFieldDescriptor (TX12 k).2.2.1 = some (tyX12 k) := by decide +kernel
abbrev vwCl : List vw_C := [(RX0, TX0, 2), (RX1, TX1, 5), (RX2, TX2, 4), (RX3, TX3, 18), (RX4, TX4, 5), (RX5, TX5, 15), (RX6, TX6, 11), (RX7, TX7, 6), (RX8, TX8, 11), (RX9, TX9, 2), (RX10, TX10, 9), (RX11, TX11, 17), (RX12, TX12, 58)]
/-- the words that hold at every start of a method: those of the tables that no step spoils -/
def TW : List Cond := lw_tbl.filter goodWord
theorem twm {w : Cond} (i : Nat) (h : (decide (lw_tbl[i]? = some w) && goodWord w) = true) : w ∈ TW := by
  rw [Bool.and_eq_true, decide_eq_true_eq] at h
  exact List.mem_filter.mpr ⟨List.mem_of_getElem? h.1, h.2⟩
theorem twc {w : Cond} (i : Nat) (h : lw_tbl[i]? = some w) (h2 : goodWord w = true) : w ∈ TW := List.mem_filter.mpr ⟨List.mem_of_getElem? h, h2⟩
theorem twl {ws : List Cond} (ps : List Nat) (h : (decide (ws = ps.filterMap (fun i => lw_tbl[i]?)) && ws.all goodWord) = true) : ∀ w ∈ ws, w ∈ TW := by
  intro w hw
  rw [Bool.and_eq_true, decide_eq_true_eq] at h
  have h2 := List.all_eq_true.mp h.2 w hw
  rw [h.1] at hw
  obtain ⟨i, -, hi⟩ := List.mem_filterMap.mp hw
  exact List.mem_filter.mpr ⟨List.mem_of_getElem? hi, h2⟩
set_option maxRecDepth 20000 in
theorem inwX0 : ∀ w ∈ u_ws RX0 TX0 2, w ∈ TW := twl [210, 212] (by decide +kernel)
set_option maxRecDepth 20000 in
theorem inwX1 : ∀ w ∈ u_ws RX1 TX1 5, w ∈ TW := twl [228, 230, 232, 234, 236] (by decide +kernel)
set_option maxRecDepth 20000 in
theorem inwX2 : ∀ w ∈ u_ws RX2 TX2 4, w ∈ TW := twl [397, 399, 401, 403] (by decide +kernel)
set_option maxRecDepth 20000 in
theorem inwX3 : ∀ w ∈ u_ws RX3 TX3 18, w ∈ TW := twl [443, 445, 447, 449, 451, 453, 455, 457, 459, 461, 463, 465, 467, 469, 471, 473, 475, 477] (by decide +kernel)
set_option maxRecDepth 20000 in
theorem inwX4 : ∀ w ∈ u_ws RX4 TX4 5, w ∈ TW := twl [328, 330, 332, 334, 336] (by decide +kernel)
set_option maxRecDepth 20000 in
theorem inwX5 : ∀ w ∈ u_ws RX5 TX5 15, w ∈ TW := twl [521, 523, 525, 527, 529, 531, 533, 535, 537, 539, 541, 543, 545, 547, 549] (by decide +kernel)
set_option maxRecDepth 20000 in
theorem inwX6 : ∀ w ∈ u_ws RX6 TX6 11, w ∈ TW := twl [258, 260, 262, 264, 266, 268, 270, 272, 274, 276, 278] (by decide +kernel)
set_option maxRecDepth 20000 in
theorem inwX7 : ∀ w ∈ u_ws RX7 TX7 6, w ∈ TW := twl [353, 355, 357, 359, 361, 363] (by decide +kernel)
set_option maxRecDepth 20000 in
theorem inwX8 : ∀ w ∈ u_ws RX8 TX8 11, w ∈ TW := twl [178, 180, 182, 184, 186, 188, 190, 192, 194, 196, 198] (by decide +kernel)
set_option maxRecDepth 20000 in
theorem inwX9 : ∀ w ∈ u_ws RX9 TX9 2, w ∈ TW := twl [416, 418] (by decide +kernel)
set_option maxRecDepth 20000 in
theorem inwX10 : ∀ w ∈ u_ws RX10 TX10 9, w ∈ TW := twl [297, 299, 301, 303, 305, 307, 309, 311, 313] (by decide +kernel)
set_option maxRecDepth 20000 in
theorem inwX11 : ∀ w ∈ u_ws RX11 TX11 17, w ∈ TW := twl [569, 571, 573, 575, 577, 579, 581, 583, 585, 587, 589, 591, 593, 595, 597, 599, 601] (by decide +kernel)
set_option maxRecDepth 20000 in
theorem inwX12 : ∀ w ∈ u_ws RX12 TX12 58, w ∈ TW := twl [1587, 1589, 1591, 1593, 1595, 1597, 1599, 1601, 1603, 1605, 1607, 1609, 1611, 1613, 1615, 1617, 1619, 1621, 1623, 1625, 1627, 1629, 1631, 1633, 1635, 1637, 1639, 1641, 1643, 1645, 1647, 1649, 1651, 1653, 1655, 1657, 1659, 1661, 1663, 1665, 1667, 1669, 1671, 1673, 1675, 1677, 1679, 1681, 1683, 1685, 1687, 1689, 1691, 1693, 1695, 1697, 1699, 1701] (by decide +kernel)
