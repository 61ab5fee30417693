/-! CLASSES AND METHODS BY NUMBER, and the checks of the tables: written by wip/whole/gen/gen_names.py. -/
def RX0 : String := "RoseWall$Contest"
def TX0 : u_T := fun k => match k with
  | 0 => ("RoseWall$Contest", "levels", "[I", true)
  | 1 => ("RoseWall$Contest", "left", "[I", true)
  | 2 => ("RoseWall$Contest", "settled", "[I", true)
  | 3 => ("RoseWall$Contest", "size", "I", false)
  | 4 => ("RoseWall$Contest", "edgeTo", "[I", true)
  | _ => ("RoseWall$Contest", "edgeAhead", "[I", true)
def tyX0 : Nat → FieldType := fun k => match k with
  | 0 => .array .int
  | 1 => .array .int
  | 2 => .array .int
  | 3 => .int
  | 4 => .array .int
  | _ => .array .int
theorem nmX0 : ∀ a, a < 6 → ∀ b, b < 6 → a ≠ b → (TX0 a).2.1 ≠ (TX0 b).2.1 := by decide +kernel
theorem tyX0_ok : ∀ k, k < 6 → parseFieldDescriptor (TX0 k).2.2.1 = some (tyX0 k) := by decide +kernel
def RX1 : String := "RoseWall$Law"
def TX1 : u_T := fun k => match k with
  | 0 => ("RoseWall$Law", "code", "[I", true)
  | 1 => ("RoseWall$Law", "stack", "[I", true)
  | _ => ("RoseWall$Law", "size", "I", false)
def tyX1 : Nat → FieldType := fun k => match k with
  | 0 => .array .int
  | 1 => .array .int
  | _ => .int
theorem nmX1 : ∀ a, a < 3 → ∀ b, b < 3 → a ≠ b → (TX1 a).2.1 ≠ (TX1 b).2.1 := by decide +kernel
theorem tyX1_ok : ∀ k, k < 3 → parseFieldDescriptor (TX1 k).2.2.1 = some (tyX1 k) := by decide +kernel
def RX2 : String := "RoseWall$LawReader"
def TX2 : u_T := fun k => match k with
  | 0 => ("RoseWall$LawReader", "tokens", "LRoseWall$Tokens;", false)
  | 1 => ("RoseWall$LawReader", "law", "LRoseWall$Law;", false)
  | _ => ("RoseWall$LawReader", "ofTurns", "Z", false)
def tyX2 : Nat → FieldType := fun k => match k with
  | 0 => .object "RoseWall$Tokens"
  | 1 => .object "RoseWall$Law"
  | _ => .boolean
theorem nmX2 : ∀ a, a < 3 → ∀ b, b < 3 → a ≠ b → (TX2 a).2.1 ≠ (TX2 b).2.1 := by decide +kernel
theorem tyX2_ok : ∀ k, k < 3 → parseFieldDescriptor (TX2 k).2.2.1 = some (tyX2 k) := by decide +kernel
def RX3 : String := "RoseWall$Moment"
def TX3 : u_T := fun k => match k with
  | 0 => ("RoseWall$Moment", "wall", "I", false)
  | 1 => ("RoseWall$Moment", "who", "I", false)
  | 2 => ("RoseWall$Moment", "temper", "I", false)
  | _ => ("RoseWall$Moment", "nights", "I", false)
def tyX3 : Nat → FieldType := fun k => match k with
  | 0 => .int
  | 1 => .int
  | 2 => .int
  | _ => .int
theorem nmX3 : ∀ a, a < 4 → ∀ b, b < 4 → a ≠ b → (TX3 a).2.1 ≠ (TX3 b).2.1 := by decide +kernel
theorem tyX3_ok : ∀ k, k < 4 → parseFieldDescriptor (TX3 k).2.2.1 = some (tyX3 k) := by decide +kernel
def RX4 : String := "RoseWall$Past"
def TX4 : u_T := fun k => match k with
  | 0 => ("RoseWall$Past", "kept", "[LRoseWall$Moment;", true)
  | 1 => ("RoseWall$Past", "next", "I", false)
  | _ => ("RoseWall$Past", "size", "I", false)
def tyX4 : Nat → FieldType := fun k => match k with
  | 0 => .array (.object "RoseWall$Moment")
  | 1 => .int
  | _ => .int
theorem nmX4 : ∀ a, a < 3 → ∀ b, b < 3 → a ≠ b → (TX4 a).2.1 ≠ (TX4 b).2.1 := by decide +kernel
theorem tyX4_ok : ∀ k, k < 3 → parseFieldDescriptor (TX4 k).2.2.1 = some (tyX4 k) := by decide +kernel
def RX5 : String := "RoseWall$Reach"
def TX5 : u_T := fun k => match k with
  | 0 => ("RoseWall$Reach", "places", "[I", true)
  | 1 => ("RoseWall$Reach", "size", "I", false)
  | 2 => ("RoseWall$Reach", "to", "[I", true)
  | 3 => ("RoseWall$Reach", "cameBy", "[I", true)
  | 4 => ("RoseWall$Reach", "order", "[I", true)
  | 5 => ("RoseWall$Reach", "ways", "[I", true)
  | _ => ("RoseWall$Reach", "waysThen", "[I", true)
def tyX5 : Nat → FieldType := fun k => match k with
  | 0 => .array .int
  | 1 => .int
  | 2 => .array .int
  | 3 => .array .int
  | 4 => .array .int
  | 5 => .array .int
  | _ => .array .int
theorem nmX5 : ∀ a, a < 7 → ∀ b, b < 7 → a ≠ b → (TX5 a).2.1 ≠ (TX5 b).2.1 := by decide +kernel
theorem tyX5_ok : ∀ k, k < 7 → parseFieldDescriptor (TX5 k).2.2.1 = some (tyX5 k) := by decide +kernel
def RX6 : String := "RoseWall$Room"
def TX6 : u_T := fun k => match k with
  | 0 => ("RoseWall$Room", "rows", "I", false)
  | 1 => ("RoseWall$Room", "columns", "I", false)
  | 2 => ("RoseWall$Room", "roses", "I", false)
  | 3 => ("RoseWall$Room", "tenants", "I", false)
  | 4 => ("RoseWall$Room", "who", "I", false)
  | 5 => ("RoseWall$Room", "wall", "I", false)
  | 6 => ("RoseWall$Room", "face", "I", false)
  | 7 => ("RoseWall$Room", "open", "I", false)
  | 8 => ("RoseWall$Room", "temper", "I", false)
  | 9 => ("RoseWall$Room", "lines", "I", false)
  | 10 => ("RoseWall$Room", "kinds", "[I", true)
  | 11 => ("RoseWall$Room", "near", "[I", true)
  | 12 => ("RoseWall$Room", "patience", "[I", true)
  | 13 => ("RoseWall$Room", "turns", "LRoseWall$Law;", true)
  | _ => ("RoseWall$Room", "goes", "LRoseWall$Law;", true)
def tyX6 : Nat → FieldType := fun k => match k with
  | 0 => .int
  | 1 => .int
  | 2 => .int
  | 3 => .int
  | 4 => .int
  | 5 => .int
  | 6 => .int
  | 7 => .int
  | 8 => .int
  | 9 => .int
  | 10 => .array .int
  | 11 => .array .int
  | 12 => .array .int
  | 13 => .object "RoseWall$Law"
  | _ => .object "RoseWall$Law"
theorem nmX6 : ∀ a, a < 15 → ∀ b, b < 15 → a ≠ b → (TX6 a).2.1 ≠ (TX6 b).2.1 := by decide +kernel
theorem tyX6_ok : ∀ k, k < 15 → parseFieldDescriptor (TX6 k).2.2.1 = some (tyX6 k) := by decide +kernel
def RX7 : String := "RoseWall$RoomReader"
def TX7 : u_T := fun k => match k with
  | 0 => ("RoseWall$RoomReader", "laws", "LRoseWall$LawReader;", true)
  | 1 => ("RoseWall$RoomReader", "tokens", "LRoseWall$Tokens;", false)
  | _ => ("RoseWall$RoomReader", "room", "LRoseWall$Room;", false)
def tyX7 : Nat → FieldType := fun k => match k with
  | 0 => .object "RoseWall$LawReader"
  | 1 => .object "RoseWall$Tokens"
  | _ => .object "RoseWall$Room"
theorem nmX7 : ∀ a, a < 3 → ∀ b, b < 3 → a ≠ b → (TX7 a).2.1 ≠ (TX7 b).2.1 := by decide +kernel
theorem tyX7_ok : ∀ k, k < 3 → parseFieldDescriptor (TX7 k).2.2.1 = some (tyX7 k) := by decide +kernel
def RX8 : String := "RoseWall$Steps"
def TX8 : u_T := fun k => match k with
  | 0 => ("RoseWall$Steps", "room", "LRoseWall$Room;", false)
  | 1 => ("RoseWall$Steps", "temper", "I", false)
  | 2 => ("RoseWall$Steps", "turning", "[J", true)
  | 3 => ("RoseWall$Steps", "going", "[J", true)
  | 4 => ("RoseWall$Steps", "scene", "[I", true)
  | 5 => ("RoseWall$Steps", "then", "[I", true)
  | 6 => ("RoseWall$Steps", "stamp", "I", false)
  | _ => ("RoseWall$Steps", "came", "[I", true)
def tyX8 : Nat → FieldType := fun k => match k with
  | 0 => .object "RoseWall$Room"
  | 1 => .int
  | 2 => .array .long
  | 3 => .array .long
  | 4 => .array .int
  | 5 => .array .int
  | 6 => .int
  | _ => .array .int
theorem nmX8 : ∀ a, a < 8 → ∀ b, b < 8 → a ≠ b → (TX8 a).2.1 ≠ (TX8 b).2.1 := by decide +kernel
theorem tyX8_ok : ∀ k, k < 8 → parseFieldDescriptor (TX8 k).2.2.1 = some (tyX8 k) := by decide +kernel
def RX9 : String := "RoseWall$Tokens"
def TX9 : u_T := fun k => match k with
  | 0 => ("RoseWall$Tokens", "text", "[B", false)
  | 1 => ("RoseWall$Tokens", "length", "I", false)
  | 2 => ("RoseWall$Tokens", "start", "I", false)
  | 3 => ("RoseWall$Tokens", "end", "I", false)
  | 4 => ("RoseWall$Tokens", "kinds", "[I", true)
  | 5 => ("RoseWall$Tokens", "values", "[I", true)
  | 6 => ("RoseWall$Tokens", "starts", "[I", true)
  | 7 => ("RoseWall$Tokens", "size", "I", false)
  | 8 => ("RoseWall$Tokens", "at", "I", false)
  | 9 => ("RoseWall$Tokens", "kind", "I", false)
  | 10 => ("RoseWall$Tokens", "value", "I", false)
  | 11 => ("RoseWall$Tokens", "fault", "I", false)
  | _ => ("RoseWall$Tokens", "faultPlace", "I", false)
def tyX9 : Nat → FieldType := fun k => match k with
  | 0 => .array .byte
  | 1 => .int
  | 2 => .int
  | 3 => .int
  | 4 => .array .int
  | 5 => .array .int
  | 6 => .array .int
  | 7 => .int
  | 8 => .int
  | 9 => .int
  | 10 => .int
  | 11 => .int
  | _ => .int
theorem nmX9 : ∀ a, a < 13 → ∀ b, b < 13 → a ≠ b → (TX9 a).2.1 ≠ (TX9 b).2.1 := by decide +kernel
theorem tyX9_ok : ∀ k, k < 13 → parseFieldDescriptor (TX9 k).2.2.1 = some (tyX9 k) := by decide +kernel
def RX10 : String := "RoseWall$Tray"
def TX10 : u_T := fun k => match k with
  | 0 => ("RoseWall$Tray", "values", "[J", true)
  | 1 => ("RoseWall$Tray", "sort", "I", false)
  | 2 => ("RoseWall$Tray", "size", "I", false)
  | _ => ("RoseWall$Tray", "missing", "Z", false)
def tyX10 : Nat → FieldType := fun k => match k with
  | 0 => .array .long
  | 1 => .int
  | 2 => .int
  | _ => .boolean
theorem nmX10 : ∀ a, a < 4 → ∀ b, b < 4 → a ≠ b → (TX10 a).2.1 ≠ (TX10 b).2.1 := by decide +kernel
theorem tyX10_ok : ∀ k, k < 4 → parseFieldDescriptor (TX10 k).2.2.1 = some (tyX10 k) := by decide +kernel
def RX11 : String := "RoseWall"
def TX11 : u_T := fun k => match k with
  | 0 => ("RoseWall", "tape", "[B", true)
  | 1 => ("RoseWall", "taped", "I", false)
  | 2 => ("RoseWall", "tokens", "LRoseWall$Tokens;", true)
  | 3 => ("RoseWall", "reader", "LRoseWall$RoomReader;", true)
  | 4 => ("RoseWall", "pool", "[LRoseWall$Room;", true)
  | 5 => ("RoseWall", "room", "LRoseWall$Room;", false)
  | 6 => ("RoseWall", "imageRooms", "[LRoseWall$Room;", true)
  | 7 => ("RoseWall", "imageMoments", "[LRoseWall$Moment;", true)
  | 8 => ("RoseWall", "now", "LRoseWall$Moment;", true)
  | 9 => ("RoseWall", "before", "LRoseWall$Moment;", true)
  | 10 => ("RoseWall", "trial", "LRoseWall$Moment;", true)
  | 11 => ("RoseWall", "past", "LRoseWall$Past;", true)
  | 12 => ("RoseWall", "trays", "[LRoseWall$Tray;", true)
  | 13 => ("RoseWall", "steps", "LRoseWall$Steps;", true)
  | 14 => ("RoseWall", "reach", "LRoseWall$Reach;", true)
  | 15 => ("RoseWall", "contest", "LRoseWall$Contest;", true)
  | _ => ("RoseWall", "wallsThen", "[I", true)
def tyX11 : Nat → FieldType := fun k => match k with
  | 0 => .array .byte
  | 1 => .int
  | 2 => .object "RoseWall$Tokens"
  | 3 => .object "RoseWall$RoomReader"
  | 4 => .array (.object "RoseWall$Room")
  | 5 => .object "RoseWall$Room"
  | 6 => .array (.object "RoseWall$Room")
  | 7 => .array (.object "RoseWall$Moment")
  | 8 => .object "RoseWall$Moment"
  | 9 => .object "RoseWall$Moment"
  | 10 => .object "RoseWall$Moment"
  | 11 => .object "RoseWall$Past"
  | 12 => .array (.object "RoseWall$Tray")
  | 13 => .object "RoseWall$Steps"
  | 14 => .object "RoseWall$Reach"
  | 15 => .object "RoseWall$Contest"
  | _ => .array .int
theorem nmX11 : ∀ a, a < 17 → ∀ b, b < 17 → a ≠ b → (TX11 a).2.1 ≠ (TX11 b).2.1 := by decide +kernel
theorem tyX11_ok : ∀ k, k < 17 → parseFieldDescriptor (TX11 k).2.2.1 = some (tyX11 k) := by decide +kernel
def RX12 : String := "RoseWallModel"
def TX12 : u_T := fun k => match k with
  | 0 => ("RoseWallModel", "thrown", "I", false)
  | 1 => ("RoseWallModel", "all", "[I", true)
  | 2 => ("RoseWallModel", "hasImage", "[Z", true)
  | 3 => ("RoseWallModel", "tape", "[I", true)
  | 4 => ("RoseWallModel", "fresh", "[I", true)
  | 5 => ("RoseWallModel", "taped", "I", false)
  | 6 => ("RoseWallModel", "at", "I", false)
  | 7 => ("RoseWallModel", "behind", "I", false)
  | 8 => ("RoseWallModel", "size", "I", false)
  | 9 => ("RoseWallModel", "kind", "I", false)
  | 10 => ("RoseWallModel", "number", "I", false)
  | 11 => ("RoseWallModel", "wrong", "I", false)
  | 12 => ("RoseWallModel", "wrongAt", "I", false)
  | 13 => ("RoseWallModel", "faultKind", "I", false)
  | 14 => ("RoseWallModel", "faultPlace", "I", false)
  | 15 => ("RoseWallModel", "reading", "I", false)
  | 16 => ("RoseWallModel", "reckoned", "[I", true)
  | 17 => ("RoseWallModel", "words", "[I", true)
  | 18 => ("RoseWallModel", "was", "[I", true)
  | 19 => ("RoseWallModel", "toldWhy", "I", false)
  | 20 => ("RoseWallModel", "x", "I", false)
  | 21 => ("RoseWallModel", "row", "[I", true)
  | 22 => ("RoseWallModel", "first", "[I", true)
  | 23 => ("RoseWallModel", "tail", "I", false)
  | 24 => ("RoseWallModel", "round1", "I", false)
  | 25 => ("RoseWallModel", "then", "[I", true)
  | 26 => ("RoseWallModel", "far", "[I", true)
  | 27 => ("RoseWallModel", "otherFar", "[I", true)
  | 28 => ("RoseWallModel", "soughtWall", "I", false)
  | 29 => ("RoseWallModel", "many", "[I", true)
  | 30 => ("RoseWallModel", "manyThen", "[I", true)
  | 31 => ("RoseWallModel", "from", "[I", true)
  | 32 => ("RoseWallModel", "rowSort", "[I", true)
  | 33 => ("RoseWallModel", "rowMany", "[I", true)
  | _ => ("RoseWallModel", "numbers", "[J", true)
def tyX12 : Nat → FieldType := fun k => match k with
  | 0 => .int
  | 1 => .array .int
  | 2 => .array .boolean
  | 3 => .array .int
  | 4 => .array .int
  | 5 => .int
  | 6 => .int
  | 7 => .int
  | 8 => .int
  | 9 => .int
  | 10 => .int
  | 11 => .int
  | 12 => .int
  | 13 => .int
  | 14 => .int
  | 15 => .int
  | 16 => .array .int
  | 17 => .array .int
  | 18 => .array .int
  | 19 => .int
  | 20 => .int
  | 21 => .array .int
  | 22 => .array .int
  | 23 => .int
  | 24 => .int
  | 25 => .array .int
  | 26 => .array .int
  | 27 => .array .int
  | 28 => .int
  | 29 => .array .int
  | 30 => .array .int
  | 31 => .array .int
  | 32 => .array .int
  | 33 => .array .int
  | _ => .array .long
theorem nmX12 : ∀ a, a < 35 → ∀ b, b < 35 → a ≠ b → (TX12 a).2.1 ≠ (TX12 b).2.1 := by decide +kernel
theorem tyX12_ok : ∀ k, k < 35 → parseFieldDescriptor (TX12 k).2.2.1 = some (tyX12 k) := by decide +kernel
abbrev vwCl : List vw_C := [(RX0, TX0, 6), (RX1, TX1, 3), (RX2, TX2, 3), (RX3, TX3, 4), (RX4, TX4, 3), (RX5, TX5, 7), (RX6, TX6, 15), (RX7, TX7, 3), (RX8, TX8, 8), (RX9, TX9, 13), (RX10, TX10, 4), (RX11, TX11, 17), (RX12, TX12, 35)]
def ownT : List String := ["RoseWall$Contest", "RoseWall$Law", "RoseWall$LawReader", "RoseWall$Moment", "RoseWall$Past", "RoseWall$Reach", "RoseWall$Room", "RoseWall$RoomReader", "RoseWall$Steps", "RoseWall$Tokens", "RoseWall$Tray", "RoseWall", "RoseWallModel", "RoseWallLaw", "java/lang/Integer", "java/lang/Math", "java/lang/String", "java/lang/StringLatin1", "java/util/Arrays", "jdk/internal/util/Preconditions", "java/lang/Object"]
def nmT : List MethodName := [⟨"RoseWallLaw", "law", "([I)Z"⟩, ⟨"RoseWall", "<init>", "()V"⟩, ⟨"RoseWallModel", "<init>", "()V"⟩, ⟨"RoseWall", "feed", "(IIIII)I"⟩, ⟨"RoseWallModel", "feed", "(IIIII)I"⟩, ⟨"RoseWall", "room", "(I)I"⟩, ⟨"RoseWallModel", "room", "(I)I"⟩, ⟨"RoseWall", "fault", "(I)I"⟩, ⟨"RoseWallModel", "fault", "(I)I"⟩, ⟨"RoseWall", "rose", "(II)I"⟩, ⟨"RoseWallModel", "rose", "(II)I"⟩, ⟨"RoseWall", "tenant", "(II)I"⟩, ⟨"RoseWallModel", "tenant", "(II)I"⟩, ⟨"RoseWall", "night", "(I)I"⟩, ⟨"RoseWallModel", "night", "(I)I"⟩, ⟨"RoseWall", "nights", "(II)I"⟩, ⟨"RoseWallModel", "nights", "(II)I"⟩, ⟨"RoseWall", "let", "(I)I"⟩, ⟨"RoseWallModel", "let", "(I)I"⟩, ⟨"RoseWall", "turn", "(I)I"⟩, ⟨"RoseWallModel", "turn", "(I)I"⟩, ⟨"RoseWall", "temper", "(I)I"⟩, ⟨"RoseWallModel", "temper", "(I)I"⟩, ⟨"RoseWall", "undo", "(I)I"⟩, ⟨"RoseWallModel", "undo", "(I)I"⟩, ⟨"RoseWall", "judge", "(II)I"⟩, ⟨"RoseWallModel", "judge", "(II)I"⟩, ⟨"RoseWall", "perform", "(I)I"⟩, ⟨"RoseWallModel", "perform", "(I)I"⟩, ⟨"RoseWall", "season", "(II)I"⟩, ⟨"RoseWallModel", "season", "(II)I"⟩, ⟨"RoseWall", "lies", "(II)I"⟩, ⟨"RoseWallModel", "lies", "(II)I"⟩, ⟨"RoseWall", "round", "(II)I"⟩, ⟨"RoseWallModel", "round", "(II)I"⟩, ⟨"RoseWall", "stays", "()I"⟩, ⟨"RoseWallModel", "stays", "()I"⟩, ⟨"RoseWall", "stayBy", "(I)I"⟩, ⟨"RoseWallModel", "stayBy", "(I)I"⟩, ⟨"RoseWall", "out", "()I"⟩, ⟨"RoseWallModel", "out", "()I"⟩, ⟨"RoseWall", "outBy", "(I)I"⟩, ⟨"RoseWallModel", "outBy", "(I)I"⟩, ⟨"RoseWall", "forces", "()I"⟩, ⟨"RoseWallModel", "forces", "()I"⟩, ⟨"RoseWall", "minds", "()I"⟩, ⟨"RoseWallModel", "minds", "()I"⟩, ⟨"RoseWall", "soonest", "(I)I"⟩, ⟨"RoseWallModel", "soonest", "(I)I"⟩, ⟨"RoseWall", "way", "(II)I"⟩, ⟨"RoseWallModel", "way", "(II)I"⟩, ⟨"RoseWall", "toFace", "()I"⟩, ⟨"RoseWallModel", "toFace", "()I"⟩, ⟨"RoseWall", "walls", "()I"⟩, ⟨"RoseWallModel", "walls", "()I"⟩, ⟨"RoseWall", "parents", "(III)I"⟩, ⟨"RoseWallModel", "parents", "(III)I"⟩, ⟨"RoseWall", "orphans", "(II)I"⟩, ⟨"RoseWallModel", "orphans", "(II)I"⟩, ⟨"RoseWall", "still", "(II)I"⟩, ⟨"RoseWallModel", "still", "(II)I"⟩, ⟨"RoseWall", "rows", "(II)I"⟩, ⟨"RoseWallModel", "rows", "(II)I"⟩, ⟨"RoseWall", "seen", "(I)I"⟩, ⟨"RoseWallModel", "seen", "(I)I"⟩, ⟨"RoseWall", "seenBy", "(II)I"⟩, ⟨"RoseWallModel", "seenBy", "(II)I"⟩, ⟨"RoseWall", "whose", "(I)I"⟩, ⟨"RoseWallModel", "whose", "(I)I"⟩, ⟨"RoseWall", "tempers", "(II)I"⟩, ⟨"RoseWallModel", "tempers", "(II)I"⟩, ⟨"RoseWall", "attempt", "(II)I"⟩, ⟨"RoseWallModel", "attempt", "(II)I"⟩, ⟨"RoseWall", "chance", "(II)I"⟩, ⟨"RoseWallModel", "chance", "(II)I"⟩, ⟨"RoseWall", "gone", "(I)I"⟩, ⟨"RoseWallModel", "gone", "(I)I"⟩, ⟨"RoseWall", "best", "(I)I"⟩, ⟨"RoseWallModel", "best", "(I)I"⟩, ⟨"RoseWall", "numbers", "(III)I"⟩, ⟨"RoseWallModel", "numbers", "(III)I"⟩, ⟨"RoseWall", "write", "(IIJ)J"⟩, ⟨"RoseWallModel", "write", "(IIJ)J"⟩, ⟨"RoseWall", "lists", "(II)I"⟩, ⟨"RoseWallModel", "lists", "(II)I"⟩, ⟨"RoseWall", "image", "(I)I"⟩, ⟨"RoseWallModel", "image", "(I)I"⟩, ⟨"RoseWall", "restore", "(I)I"⟩, ⟨"RoseWallModel", "restore", "(I)I"⟩, ⟨"RoseWall", "count", "(I)I"⟩, ⟨"RoseWallModel", "count", "(I)I"⟩, ⟨"RoseWall$Tokens", "<init>", "()V"⟩, ⟨"RoseWall$RoomReader", "<init>", "()V"⟩, ⟨"RoseWall$Moment", "<init>", "()V"⟩, ⟨"RoseWall$Past", "<init>", "()V"⟩, ⟨"RoseWall$Steps", "<init>", "()V"⟩, ⟨"RoseWall$Reach", "<init>", "()V"⟩, ⟨"RoseWall$Contest", "<init>", "()V"⟩, ⟨"RoseWall$Room", "<init>", "()V"⟩, ⟨"RoseWall$Tray", "<init>", "()V"⟩, ⟨"RoseWall$Moment", "begin", "(LRoseWall$Room;)V"⟩, ⟨"RoseWall$Steps", "take", "(LRoseWall$Room;)V"⟩, ⟨"RoseWallModel", "plain", "([I)V"⟩, ⟨"RoseWall", "tapeFour", "(I)V"⟩, ⟨"RoseWall", "spareRoom", "()LRoseWall$Room;"⟩, ⟨"RoseWall$Tokens", "begin", "([BI)V"⟩, ⟨"RoseWall$RoomReader", "readRoom", "(LRoseWall$Tokens;LRoseWall$Room;)Z"⟩, ⟨"RoseWall$Past", "clear", "()V"⟩, ⟨"RoseWallModel", "within", "(JJJ)Z"⟩, ⟨"RoseWallModel", "next", "()V"⟩, ⟨"RoseWallModel", "eats", "(I)Z"⟩, ⟨"RoseWallModel", "fails", "(I)V"⟩, ⟨"RoseWallModel", "takes", "(II)I"⟩, ⟨"RoseWallModel", "ends", "()V"⟩, ⟨"RoseWallModel", "readLine", "()V"⟩, ⟨"RoseWall$Room", "hasRose", "(I)Z"⟩, ⟨"java/lang/Integer", "bitCount", "(I)I"⟩, ⟨"RoseWall$Moment", "place", "()I"⟩, ⟨"RoseWall$Steps", "pass", "(III)I"⟩, ⟨"RoseWallModel", "isRose", "(J)Z"⟩, ⟨"RoseWallModel", "nearOf", "(II)I"⟩, ⟨"RoseWallModel", "turnsThen", "(IIII)Z"⟩, ⟨"RoseWall$Room", "hasTenant", "(I)Z"⟩, ⟨"RoseWall$Steps", "isGoing", "(III)Z"⟩, ⟨"RoseWallModel", "isTenant", "(J)Z"⟩, ⟨"RoseWallModel", "goesBy", "(III)Z"⟩, ⟨"RoseWall", "doneAlone", "(II)I"⟩, ⟨"RoseWallModel", "isBlind", "(J)Z"⟩, ⟨"RoseWallModel", "keeps", "()V"⟩, ⟨"RoseWallModel", "goesNight", "(I)V"⟩, ⟨"RoseWallModel", "notes", "()V"⟩, ⟨"RoseWall", "isBlind", "(I)Z"⟩, ⟨"RoseWall$Past", "keep", "(LRoseWall$Moment;)V"⟩, ⟨"RoseWall", "passNight", "(LRoseWall$Moment;I)V"⟩, ⟨"RoseWallModel", "whyLet", "(J)I"⟩, ⟨"RoseWallModel", "bitsOf", "(I)I"⟩, ⟨"RoseWall$Past", "bringBack", "(ILRoseWall$Moment;)V"⟩, ⟨"RoseWall", "isTray", "(I)Z"⟩, ⟨"RoseWall$Moment", "copy", "(LRoseWall$Moment;)V"⟩, ⟨"RoseWall", "doTray", "(LRoseWall$Tray;LRoseWall$Moment;)I"⟩, ⟨"RoseWall$Tray", "at", "(I)J"⟩, ⟨"RoseWall", "doDeed", "(LRoseWall$Moment;J)I"⟩, ⟨"RoseWallModel", "noTray", "(I)I"⟩, ⟨"RoseWallModel", "tells", "(I)I"⟩, ⟨"RoseWallModel", "isAgain", "()V"⟩, ⟨"RoseWallModel", "toldWho", "(I)I"⟩, ⟨"RoseWall", "drawn", "(I)I"⟩, ⟨"RoseWall", "seasonDeed", "(II)I"⟩, ⟨"RoseWallModel", "drawn", "()I"⟩, ⟨"RoseWallModel", "whyNot", "(J)I"⟩, ⟨"RoseWallModel", "does", "(I)V"⟩, ⟨"RoseWall", "here", "()I"⟩, ⟨"RoseWall$Reach", "walk", "(LRoseWall$Steps;II)I"⟩, ⟨"RoseWall$Reach", "placeBehind", "(II)I"⟩, ⟨"RoseWallModel", "laysRound", "(I)V"⟩, ⟨"RoseWall$Reach", "mostTurned", "(I)I"⟩, ⟨"RoseWall$Reach", "firstEmpty", "()I"⟩, ⟨"RoseWall$Reach", "explore", "(LRoseWall$Steps;II)I"⟩, ⟨"RoseWall$Contest", "settle", "(LRoseWall$Reach;Z)V"⟩, ⟨"RoseWall$Contest", "level", "(II)I"⟩, ⟨"RoseWallModel", "laysStays", "()I"⟩, ⟨"RoseWall$Contest", "stayBlind", "(LRoseWall$Reach;I)I"⟩, ⟨"RoseWallModel", "standNow", "()I"⟩, ⟨"RoseWall$Reach", "depth", "(I)I"⟩, ⟨"RoseWallModel", "laysFar", "(I)I"⟩, ⟨"RoseWallModel", "toldFar", "(I)I"⟩, ⟨"RoseWall$Reach", "blindTo", "(II)I"⟩, ⟨"RoseWallModel", "blindAt", "(I)I"⟩, ⟨"RoseWallModel", "laysForced", "()I"⟩, ⟨"RoseWall$Contest", "forcingBlind", "(LRoseWall$Reach;)I"⟩, ⟨"RoseWall$Room", "hasWall", "(I)Z"⟩, ⟨"RoseWallModel", "isWall", "(J)Z"⟩, ⟨"RoseWall$Reach", "differentWalls", "()I"⟩, ⟨"RoseWallModel", "beginsMany", "()V"⟩, ⟨"RoseWallModel", "standOf", "(II)I"⟩, ⟨"RoseWall$Steps", "tune", "(I)V"⟩, ⟨"RoseWall$Steps", "comingTo", "(III)I"⟩, ⟨"RoseWallModel", "laysFrom", "(II)V"⟩, ⟨"RoseWall$Steps", "comingOfNone", "(II)I"⟩, ⟨"RoseWallModel", "noSo", "(II)I"⟩, ⟨"RoseWallModel", "roses", "()I"⟩, ⟨"RoseWall$Steps", "stayingSame", "(II)I"⟩, ⟨"RoseWallModel", "wallThen", "(III)I"⟩, ⟨"RoseWall$Reach", "rowsTo", "(LRoseWall$Steps;III)I"⟩, ⟨"RoseWallModel", "goesMany", "(II)V"⟩, ⟨"RoseWall", "refusedSeen", "(I)I"⟩, ⟨"RoseWall", "rowsSeen", "(LRoseWall$Tray;II)I"⟩, ⟨"RoseWallModel", "noSeen", "(I)I"⟩, ⟨"RoseWallModel", "laysThen", "()V"⟩, ⟨"RoseWallModel", "isRow", "(III)Z"⟩, ⟨"RoseWall", "isFirstBlind", "(LRoseWall$Tray;II)Z"⟩, ⟨"RoseWall$Steps", "next", "(II)I"⟩, ⟨"RoseWallModel", "blindIn", "(III)I"⟩, ⟨"RoseWall", "placeOf", "(II)I"⟩, ⟨"RoseWall", "refusedTempers", "(II)I"⟩, ⟨"RoseWall", "tempersSeen", "(LRoseWall$Tray;I)I"⟩, ⟨"RoseWallModel", "noBlinds", "(II)I"⟩, ⟨"RoseWallModel", "tempersOf", "(II)I"⟩, ⟨"RoseWall", "mostAlike", "(II)I"⟩, ⟨"RoseWallModel", "mostAlike", "(II)I"⟩, ⟨"RoseWall", "share", "(II)I"⟩, ⟨"RoseWall", "powerOfTen", "(I)I"⟩, ⟨"RoseWall", "commonDivisor", "(II)I"⟩, ⟨"RoseWallModel", "chanceOf", "(II)I"⟩, ⟨"RoseWallModel", "wholeOf", "(I)I"⟩, ⟨"RoseWallModel", "common", "(II)I"⟩, ⟨"RoseWall$Tray", "begin", "(II)V"⟩, ⟨"RoseWall$Tray", "put", "(IJ)V"⟩, ⟨"RoseWallModel", "cut", "(JI)J"⟩, ⟨"RoseWallModel", "standThen", "(II)I"⟩, ⟨"RoseWall$LawReader", "<init>", "()V"⟩, ⟨"RoseWall$Law", "<init>", "()V"⟩, ⟨"RoseWall$Room", "clear", "()V"⟩, ⟨"java/util/Arrays", "fill", "([JJ)V"⟩, ⟨"java/lang/Math", "min", "(II)I"⟩, ⟨"java/lang/Math", "max", "(II)I"⟩, ⟨"RoseWall$Tokens", "splitNext", "()I"⟩, ⟨"RoseWall$Tokens", "readNumber", "()I"⟩, ⟨"RoseWall$Tokens", "advance", "()V"⟩, ⟨"RoseWall$RoomReader", "readWall", "()Z"⟩, ⟨"RoseWall$RoomReader", "readLine", "()Z"⟩, ⟨"RoseWall$Tokens", "pass", "(I)Z"⟩, ⟨"RoseWallModel", "see", "(I)I"⟩, ⟨"RoseWallModel", "isSmall", "(I)Z"⟩, ⟨"RoseWallModel", "keyAt", "()I"⟩, ⟨"RoseWallModel", "isDigit", "(I)Z"⟩, ⟨"java/lang/String", "length", "()I"⟩, ⟨"java/lang/String", "charAt", "(I)C"⟩, ⟨"RoseWallModel", "is", "(I)Z"⟩, ⟨"RoseWallModel", "readRow", "()V"⟩, ⟨"RoseWallModel", "readTenant", "()V"⟩, ⟨"RoseWallModel", "readRose", "()I"⟩, ⟨"RoseWallModel", "readFace", "()V"⟩, ⟨"RoseWallModel", "readLaw", "(I)V"⟩, ⟨"RoseWall$Steps", "learnTurning", "(II)J"⟩, ⟨"RoseWallModel", "isIn", "(JI)Z"⟩, ⟨"RoseWallModel", "reckons", "(I)Z"⟩, ⟨"RoseWall$Law", "isTold", "()Z"⟩, ⟨"RoseWall$Law", "holds", "([I)Z"⟩, ⟨"RoseWall$Moment", "goTo", "(I)V"⟩, ⟨"java/lang/Math", "floorMod", "(II)I"⟩, ⟨"RoseWall", "doLet", "(LRoseWall$Moment;I)I"⟩, ⟨"RoseWallModel", "draw", "(I)I"⟩, ⟨"RoseWall$Reach", "nodeOf", "(I)I"⟩, ⟨"RoseWall$Reach", "add", "(II)I"⟩, ⟨"RoseWall$Reach", "isGoal", "(II)Z"⟩, ⟨"RoseWall$Contest", "begin", "(LRoseWall$Reach;Z)V"⟩, ⟨"RoseWall$Contest", "leadOut", "(II)V"⟩, ⟨"RoseWallModel", "isGone", "(I)Z"⟩, ⟨"RoseWallModel", "isSought", "(I)Z"⟩, ⟨"RoseWallModel", "leastBy", "(I)I"⟩, ⟨"RoseWallModel", "herBy", "(I)I"⟩, ⟨"RoseWallModel", "mostBy", "(I)I"⟩, ⟨"RoseWall$Room", "fullWall", "()I"⟩, ⟨"java/util/Arrays", "fill", "([II)V"⟩, ⟨"RoseWall$Reach", "spreadWays", "()V"⟩, ⟨"RoseWall$Tray", "fits", "(II)Z"⟩, ⟨"RoseWallModel", "isSeen", "(III)Z"⟩, ⟨"RoseWall", "isTemperSeen", "(LRoseWall$Tray;II)Z"⟩, ⟨"RoseWall", "alike", "(I)I"⟩, ⟨"RoseWall$Law", "clear", "()V"⟩, ⟨"RoseWall$Room", "shape", "(II)V"⟩, ⟨"RoseWall$Tokens", "isDigit", "(I)Z"⟩, ⟨"RoseWall$Tokens", "isLetter", "(I)Z"⟩, ⟨"RoseWall$Tokens", "kindOfWord", "()I"⟩, ⟨"java/lang/String", "indexOf", "(I)I"⟩, ⟨"RoseWall$Tokens", "passNumber", "(II)I"⟩, ⟨"RoseWall$Tokens", "refuse", "(I)Z"⟩, ⟨"RoseWall$RoomReader", "isLine", "(I)Z"⟩, ⟨"RoseWall$RoomReader", "readKinds", "()Z"⟩, ⟨"RoseWall$RoomReader", "readTenant", "()Z"⟩, ⟨"RoseWall$RoomReader", "readFace", "()Z"⟩, ⟨"RoseWall$LawReader", "readLaw", "(LRoseWall$Tokens;LRoseWall$Law;Z)Z"⟩, ⟨"RoseWall$RoomReader", "readOne", "(I)Z"⟩, ⟨"java/lang/String", "coder", "()B"⟩, ⟨"java/lang/String", "isLatin1", "()Z"⟩, ⟨"java/lang/StringLatin1", "charAt", "([BI)C"⟩, ⟨"RoseWallModel", "readTruth", "(I)V"⟩, ⟨"RoseWallModel", "between", "(III)I"⟩, ⟨"RoseWall$Law", "joined", "(IJJ)I"⟩, ⟨"RoseWall$Contest", "addEdge", "(II)V"⟩, ⟨"RoseWall$Room", "neighbours", "(I)I"⟩, ⟨"RoseWall$Tokens", "isWord", "(Ljava/lang/String;)Z"⟩, ⟨"RoseWall$Tokens", "kindOfFour", "()I"⟩, ⟨"java/lang/String", "indexOf", "(II)I"⟩, ⟨"RoseWall$LawReader", "readTruth", "(I)Z"⟩, ⟨"RoseWall$RoomReader", "highest", "(I)I"⟩, ⟨"java/lang/String", "checkIndex", "(II)V"⟩, ⟨"RoseWallModel", "readBoth", "(I)V"⟩, ⟨"RoseWallModel", "codes", "(I)V"⟩, ⟨"java/lang/Math", "abs", "(I)I"⟩, ⟨"java/lang/StringLatin1", "indexOf", "([BIII)I"⟩, ⟨"RoseWall$LawReader", "readBoth", "(I)Z"⟩, ⟨"RoseWall$Law", "add", "(I)V"⟩, ⟨"jdk/internal/util/Preconditions", "checkIndex", "(IILjava/util/function/BiFunction;)I"⟩, ⟨"RoseWallModel", "readUnit", "(I)V"⟩, ⟨"java/lang/StringLatin1", "canEncode", "(I)Z"⟩, ⟨"java/lang/StringLatin1", "indexOfChar", "([BIII)I"⟩, ⟨"RoseWall$LawReader", "readUnit", "(I)Z"⟩, ⟨"RoseWallModel", "goesIn", "(I)Z"⟩, ⟨"RoseWallModel", "readSum", "(I)V"⟩, ⟨"RoseWall$LawReader", "enter", "(I)Z"⟩, ⟨"RoseWall$LawReader", "readSum", "(I)Z"⟩, ⟨"RoseWallModel", "readTerm", "(I)V"⟩, ⟨"RoseWall$LawReader", "readTerm", "(I)Z"⟩, ⟨"RoseWallModel", "readAtom", "(I)V"⟩, ⟨"RoseWall$LawReader", "readAtom", "(I)Z"⟩, ⟨"RoseWallModel", "wordOf", "(I)I"⟩, ⟨"RoseWall$LawReader", "isValue", "(I)Z"⟩, ⟨"RoseWallModel", "turnsWord", "(I)I"⟩]
def bytT : List ByteArray := [code, prog_1_method_1_code, prog_14_method_3_code, prog_1_method_2_code, prog_14_method_5_code, prog_1_method_4_code, prog_14_method_33_code, prog_1_method_6_code, prog_14_method_34_code, prog_1_method_7_code, prog_14_method_50_code, prog_1_method_8_code, prog_14_method_51_code, prog_1_method_9_code, prog_14_method_57_code, prog_1_method_10_code, prog_14_method_58_code, prog_1_method_11_code, prog_14_method_59_code, prog_1_method_12_code, prog_14_method_60_code, prog_1_method_13_code, prog_14_method_61_code, prog_1_method_14_code, prog_14_method_62_code, prog_1_method_15_code, prog_14_method_68_code, prog_1_method_16_code, prog_14_method_69_code, prog_1_method_17_code, prog_14_method_72_code, prog_1_method_26_code, prog_14_method_74_code, prog_1_method_27_code, prog_14_method_75_code, prog_1_method_29_code, prog_14_method_79_code, prog_1_method_30_code, prog_14_method_80_code, prog_1_method_31_code, prog_14_method_86_code, prog_1_method_32_code, prog_14_method_87_code, prog_1_method_33_code, prog_14_method_91_code, prog_1_method_34_code, prog_14_method_92_code, prog_1_method_35_code, prog_14_method_93_code, prog_1_method_36_code, prog_14_method_94_code, prog_1_method_37_code, prog_14_method_95_code, prog_1_method_38_code, prog_14_method_98_code, prog_1_method_39_code, prog_14_method_101_code, prog_1_method_40_code, prog_14_method_102_code, prog_1_method_41_code, prog_14_method_103_code, prog_1_method_42_code, prog_14_method_104_code, prog_1_method_43_code, prog_14_method_109_code, prog_1_method_44_code, prog_14_method_110_code, prog_1_method_46_code, prog_14_method_111_code, prog_1_method_47_code, prog_14_method_114_code, prog_1_method_48_code, prog_14_method_116_code, prog_1_method_56_code, prog_14_method_120_code, prog_1_method_57_code, prog_14_method_121_code, prog_1_method_58_code, prog_14_method_122_code, prog_1_method_62_code, prog_14_method_124_code, prog_1_method_63_code, prog_14_method_125_code, prog_1_method_64_code, prog_14_method_126_code, prog_1_method_66_code, prog_14_method_127_code, prog_1_method_67_code, prog_14_method_128_code, prog_1_method_68_code, prog_14_method_129_code, prog_11_method_1_code, prog_9_method_1_code, prog_5_method_1_code, prog_6_method_1_code, prog_10_method_1_code, prog_7_method_1_code, prog_2_method_1_code, prog_8_method_1_code, prog_12_method_1_code, prog_5_method_2_code, prog_10_method_2_code, prog_14_method_4_code, prog_1_method_3_code, prog_1_method_5_code, prog_11_method_2_code, prog_9_method_2_code, prog_6_method_2_code, prog_14_method_2_code, prog_14_method_10_code, prog_14_method_13_code, prog_14_method_11_code, prog_14_method_14_code, prog_14_method_32_code, prog_14_method_31_code, prog_8_method_5_code, prog_16_method_49_code, prog_5_method_4_code, prog_10_method_5_code, prog_14_method_36_code, prog_14_method_41_code, prog_14_method_44_code, prog_8_method_6_code, prog_10_method_7_code, prog_14_method_37_code, prog_14_method_45_code, prog_1_method_20_code, prog_14_method_39_code, prog_14_method_52_code, prog_14_method_55_code, prog_14_method_54_code, prog_1_method_25_code, prog_6_method_3_code, prog_1_method_24_code, prog_14_method_56_code, prog_14_method_40_code, prog_6_method_4_code, prog_1_method_65_code, prog_5_method_3_code, prog_1_method_21_code, prog_12_method_4_code, prog_1_method_22_code, prog_14_method_66_code, prog_14_method_65_code, prog_14_method_53_code, prog_14_method_67_code, prog_1_method_18_code, prog_1_method_19_code, prog_14_method_71_code, prog_14_method_63_code, prog_14_method_64_code, prog_1_method_28_code, prog_7_method_8_code, prog_7_method_9_code, prog_14_method_73_code, prog_7_method_10_code, prog_7_method_11_code, prog_7_method_4_code, prog_2_method_3_code, prog_2_method_2_code, prog_14_method_78_code, prog_2_method_7_code, prog_14_method_49_code, prog_7_method_6_code, prog_14_method_83_code, prog_14_method_84_code, prog_7_method_7_code, prog_14_method_85_code, prog_14_method_90_code, prog_2_method_8_code, prog_8_method_8_code, prog_14_method_38_code, prog_7_method_12_code, prog_14_method_96_code, prog_14_method_47_code, prog_10_method_3_code, prog_10_method_8_code, prog_14_method_100_code, prog_10_method_9_code, prog_14_method_99_code, prog_14_method_35_code, prog_10_method_10_code, prog_14_method_46_code, prog_7_method_13_code, prog_14_method_97_code, prog_1_method_49_code, prog_1_method_51_code, prog_14_method_105_code, prog_14_method_76_code, prog_14_method_108_code, prog_1_method_45_code, prog_10_method_4_code, prog_14_method_107_code, prog_1_method_69_code, prog_1_method_50_code, prog_1_method_52_code, prog_14_method_112_code, prog_14_method_113_code, prog_1_method_54_code, prog_14_method_115_code, prog_1_method_59_code, prog_1_method_60_code, prog_1_method_61_code, prog_14_method_118_code, prog_14_method_117_code, prog_14_method_119_code, prog_12_method_2_code, prog_12_method_3_code, prog_14_method_123_code, prog_14_method_48_code, prog_4_method_1_code, prog_3_method_1_code, prog_8_method_2_code, prog_21_method_101_code, prog_17_method_69_code, prog_17_method_65_code, prog_11_method_4_code, prog_11_method_5_code, prog_11_method_3_code, prog_9_method_3_code, prog_9_method_4_code, prog_11_method_11_code, prog_14_method_6_code, prog_14_method_7_code, prog_14_method_9_code, prog_14_method_8_code, prog_18_method_54_code, prog_18_method_56_code, prog_14_method_12_code, prog_14_method_26_code, prog_14_method_27_code, prog_14_method_28_code, prog_14_method_29_code, prog_14_method_30_code, prog_10_method_6_code, prog_14_method_15_code, prog_14_method_43_code, prog_3_method_4_code, prog_3_method_5_code, prog_5_method_5_code, prog_17_method_50_code, prog_1_method_23_code, prog_14_method_70_code, prog_7_method_2_code, prog_7_method_3_code, prog_7_method_5_code, prog_2_method_4_code, prog_2_method_6_code, prog_14_method_77_code, prog_14_method_81_code, prog_14_method_82_code, prog_14_method_89_code, prog_14_method_88_code, prog_8_method_7_code, prog_21_method_103_code, prog_7_method_14_code, prog_12_method_5_code, prog_14_method_106_code, prog_1_method_53_code, prog_1_method_55_code, prog_3_method_2_code, prog_8_method_3_code, prog_11_method_9_code, prog_11_method_10_code, prog_11_method_6_code, prog_18_method_79_code, prog_11_method_12_code, prog_11_method_13_code, prog_9_method_5_code, prog_9_method_6_code, prog_9_method_7_code, prog_9_method_8_code, prog_4_method_2_code, prog_9_method_9_code, prog_18_method_152_code, prog_18_method_154_code, prog_19_method_2_code, prog_14_method_25_code, prog_14_method_42_code, prog_3_method_6_code, prog_2_method_5_code, prog_8_method_4_code, prog_11_method_8_code, prog_11_method_7_code, prog_18_method_80_code, prog_4_method_3_code, prog_9_method_10_code, prog_18_method_155_code, prog_14_method_24_code, prog_14_method_18_code, prog_17_method_59_code, prog_19_method_22_code, prog_4_method_4_code, prog_3_method_3_code, prog_22_method_11_code, prog_14_method_23_code, prog_19_method_4_code, prog_19_method_23_code, prog_4_method_5_code, prog_14_method_19_code, prog_14_method_22_code, prog_4_method_6_code, prog_4_method_7_code, prog_14_method_21_code, prog_4_method_8_code, prog_14_method_20_code, prog_4_method_9_code, prog_14_method_17_code, prog_4_method_10_code, prog_14_method_16_code]
def rtyT : List (Option FieldType) := [some .boolean, none, none, some .int, some .int, some .int, some .int, some .int, some .int, some .int, some .int, some .int, some .int, some .int, some .int, some .int, some .int, some .int, some .int, some .int, some .int, some .int, some .int, some .int, some .int, some .int, some .int, some .int, some .int, some .int, some .int, some .int, some .int, some .int, some .int, some .int, some .int, some .int, some .int, some .int, some .int, some .int, some .int, some .int, some .int, some .int, some .int, some .int, some .int, some .int, some .int, some .int, some .int, some .int, some .int, some .int, some .int, some .int, some .int, some .int, some .int, some .int, some .int, some .int, some .int, some .int, some .int, some .int, some .int, some .int, some .int, some .int, some .int, some .int, some .int, some .int, some .int, some .int, some .int, some .int, some .int, some .long, some .long, some .int, some .int, some .int, some .int, some .int, some .int, some .int, some .int, none, none, none, none, none, none, none, none, none, none, none, none, none, some (.object "RoseWall$Room"), none, some .boolean, none, some .boolean, none, some .boolean, none, some .int, none, none, some .boolean, some .int, some .int, some .int, some .boolean, some .int, some .boolean, some .boolean, some .boolean, some .boolean, some .boolean, some .int, some .boolean, none, none, none, some .boolean, none, none, some .int, some .int, none, some .boolean, none, some .int, some .long, some .int, some .int, some .int, none, some .int, some .int, some .int, some .int, some .int, none, some .int, some .int, some .int, none, some .int, some .int, some .int, none, some .int, some .int, some .int, some .int, some .int, some .int, some .int, some .int, some .int, some .int, some .int, some .boolean, some .boolean, some .int, none, some .int, none, some .int, none, some .int, some .int, some .int, some .int, some .int, some .int, none, some .int, some .int, some .int, none, some .boolean, some .boolean, some .int, some .int, some .int, some .int, some .int, some .int, some .int, some .int, some .int, some .int, some .int, some .int, some .int, some .int, some .int, none, none, some .long, some .int, none, none, none, none, some .int, some .int, some .int, some .int, none, some .boolean, some .boolean, some .boolean, some .int, some .boolean, some .int, some .boolean, some .int, some .char, some .boolean, none, none, some .int, none, none, some .long, some .boolean, some .boolean, some .boolean, some .boolean, none, some .int, some .int, some .int, some .int, some .int, some .boolean, none, none, some .boolean, some .boolean, some .int, some .int, some .int, some .int, none, none, some .boolean, some .boolean, some .boolean, some .int, none, none, some .boolean, some .boolean, some .int, some .int, some .int, some .boolean, some .boolean, some .boolean, some .boolean, some .boolean, some .boolean, some .boolean, some .byte, some .boolean, some .char, none, some .int, some .int, none, some .int, some .boolean, some .int, some .int, some .boolean, some .int, none, none, none, some .int, some .int, some .boolean, none, some .int, none, some .boolean, some .int, some .boolean, some .boolean, none, some .boolean, some .boolean, none, some .boolean, none, some .boolean, some .int, some .boolean, some .int]
def wcT : List Nat := [0, 138, 1321, 570, 1436, 578, 1440, 852, 1553, 856, 1557, 909, 1591, 915, 1606, 951, 1640, 955, 1645, 959, 1653, 963, 1657, 967, 1662, 978, 1667, 994, 1699, 998, 1703, 1009, 1717, 1044, 1726, 1057, 1730, 1089, 1746, 1098, 1750, 1106, 1769, 1115, 1777, 1119, 1793, 1127, 1797, 1139, 1805, 1143, 1809, 1147, 1813, 1155, 1821, 1166, 1829, 1175, 1837, 1183, 1841, 1197, 1849, 1217, 1869, 1225, 1873, 1230, 1877, 1246, 1889, 1259, 1897, 1273, 1912, 1278, 1917, 1282, 1921, 1293, 1925, 1304, 1933, 1308, 1937, 1312, 1941, 1316, 1945, 146, 199, 234, 257, 278, 310, 342, 366, 487, 507, 511, 1325, 574, 582, 586, 749, 848, 1443, 1447, 1469, 1477, 1481, 1485, 1489, 784, 860, 867, 874, 1561, 1569, 1577, 905, 901, 1595, 1599, 919, 1609, 1613, 1617, 1636, 877, 945, 937, 1649, 1602, 971, 981, 923, 985, 989, 927, 1671, 1675, 1692, 1695, 1001, 1005, 1708, 1679, 1688, 1014, 1022, 1040, 1722, 1048, 1053, 1061, 1068, 1085, 1734, 1093, 1621, 1102, 1754, 1765, 1110, 1773, 1781, 1123, 1131, 1801, 1151, 1817, 1624, 1018, 1159, 1825, 1170, 1833, 1565, 1179, 1632, 1187, 1845, 1201, 1207, 1853, 1738, 1857, 1221, 1034, 1861, 870, 1234, 1238, 1881, 1885, 1250, 1893, 1263, 1266, 1269, 1902, 1905, 1908, 1286, 1300, 1929, 1628, 205, 372, 387, 514, 589, 592, 596, 741, 745, 754, 771, 758, 1451, 1454, 1458, 1464, 615, 625, 1473, 1493, 1497, 1501, 1505, 1509, 882, 1572, 1582, 886, 890, 941, 974, 932, 1712, 1026, 1030, 1064, 1072, 1077, 1741, 1758, 1762, 1785, 1789, 1135, 390, 1193, 1212, 1865, 1242, 1254, 394, 398, 599, 602, 606, 686, 766, 762, 775, 780, 788, 792, 796, 840, 619, 629, 632, 1513, 1585, 893, 1081, 402, 611, 668, 690, 801, 844, 635, 1517, 1529, 405, 694, 805, 819, 640, 1521, 697, 702, 809, 1525, 1533, 813, 824, 1537, 828, 1541, 832, 1545, 836, 1549]
def wiT : List Nat := [112, 113, 127, 113, 127, 113, 127, 113, 127, 113, 127, 113, 127, 113, 127, 113, 127, 113, 127, 113, 127, 113, 127, 113, 127, 113, 127, 113, 127, 113, 127, 113, 127, 113, 127, 113, 127, 113, 127, 113, 127, 113, 127, 113, 127, 113, 127, 113, 127, 113, 127, 113, 127, 113, 127, 113, 127, 113, 127, 113, 127, 113, 127, 113, 127, 113, 127, 113, 127, 113, 127, 113, 127, 113, 127, 113, 127, 113, 127, 113, 127, 113, 127, 113, 127, 113, 127, 113, 127, 113, 127, 114, 115, 117, 118, 119, 120, 121, 122, 126, 117, 119, 127, 113, 113, 114, 115, 118, 127, 127, 127, 127, 127, 127, 127, 122, 133, 117, 119, 127, 127, 127, 122, 119, 127, 127, 113, 127, 127, 127, 127, 113, 118, 113, 127, 127, 118, 113, 117, 113, 126, 113, 127, 127, 127, 127, 113, 113, 127, 127, 127, 113, 120, 120, 127, 120, 120, 120, 121, 121, 127, 121, 127, 120, 127, 127, 120, 127, 127, 121, 122, 127, 120, 127, 127, 119, 119, 127, 119, 127, 127, 119, 127, 120, 127, 113, 113, 127, 127, 127, 113, 119, 127, 113, 113, 113, 127, 127, 113, 127, 113, 113, 113, 127, 127, 127, 126, 126, 127, 127, 116, 123, 122, 124, 125, 125, 114, 114, 114, 115, 115, 114, 127, 127, 127, 127, 128, 128, 127, 127, 127, 127, 127, 127, 119, 127, 127, 123, 123, 117, 125, 113, 127, 120, 120, 120, 121, 121, 127, 127, 127, 127, 127, 122, 124, 120, 126, 127, 113, 113, 123, 122, 114, 114, 114, 128, 114, 114, 115, 115, 115, 115, 116, 115, 128, 128, 129, 127, 127, 123, 121, 122, 114, 114, 128, 116, 115, 128, 127, 127, 125, 129, 116, 123, 130, 127, 129, 129, 116, 127, 127, 116, 116, 127, 116, 127, 116, 127, 116, 127]
def winT : List Nat := [0, 137, 1320, 568, 1434, 576, 1438, 850, 1551, 854, 1555, 907, 1589, 913, 1604, 949, 1638, 953, 1643, 957, 1651, 961, 1655, 965, 1660, 976, 1665, 992, 1697, 996, 1701, 1007, 1715, 1042, 1724, 1055, 1728, 1087, 1744, 1096, 1748, 1104, 1767, 1113, 1775, 1117, 1791, 1125, 1795, 1137, 1803, 1141, 1807, 1145, 1811, 1153, 1819, 1164, 1827, 1173, 1835, 1181, 1839, 1195, 1847, 1215, 1867, 1223, 1871, 1228, 1875, 1244, 1887, 1257, 1895, 1271, 1910, 1276, 1915, 1280, 1919, 1291, 1923, 1302, 1931, 1306, 1935, 1310, 1939, 1314, 1943, 145, 198, 233, 256, 277, 309, 341, 365, 486, 505, 509, 0, 573, 581, 584, 747, 846, 0, 1446, 1468, 1476, 1480, 1484, 1488, 782, 0, 865, 872, 1560, 1568, 1576, 903, 899, 1594, 1598, 918, 0, 1612, 1616, 1635, 0, 943, 936, 1648, 0, 969, 0, 921, 984, 987, 926, 1670, 1674, 1691, 0, 0, 0, 1707, 1678, 1687, 1013, 1020, 1038, 1721, 1046, 1051, 1059, 1066, 1083, 1733, 1091, 1620, 1100, 1753, 0, 1108, 1772, 1780, 1121, 1129, 1800, 1149, 1816, 0, 1016, 1157, 1824, 1168, 1832, 1564, 1177, 1631, 1185, 1844, 1200, 1206, 1852, 1737, 1856, 1220, 1032, 1860, 0, 1233, 1237, 1880, 1884, 1249, 1892, 1262, 0, 0, 1901, 0, 0, 1284, 1298, 0, 1627, 204, 371, 385, 0, 0, 0, 595, 740, 743, 753, 770, 756, 1450, 0, 1457, 0, 613, 623, 1472, 1492, 1496, 1500, 1504, 1508, 881, 0, 1581, 884, 888, 939, 0, 931, 1711, 1024, 1029, 0, 1071, 1076, 0, 1757, 1761, 1784, 1788, 1133, 0, 1192, 1210, 1864, 1241, 1253, 392, 396, 0, 0, 605, 684, 764, 760, 0, 779, 787, 791, 794, 839, 617, 627, 0, 1512, 0, 0, 1080, 401, 610, 667, 688, 800, 843, 0, 1516, 1528, 0, 0, 804, 817, 0, 1520, 0, 0, 808, 1524, 1532, 812, 823, 1536, 827, 1540, 831, 1544, 835, 1548]
def wstT : List Nat := [0, 0, 0, 0, 0, 0, 0, 0, 0, 0, 0, 0, 0, 0, 0, 0, 0, 0, 0, 0, 0, 0, 0, 0, 0, 0, 0, 0, 0, 0, 0, 0, 0, 0, 0, 0, 0, 0, 0, 0, 0, 0, 0, 0, 0, 0, 0, 0, 0, 0, 0, 0, 0, 0, 0, 0, 0, 0, 0, 0, 0, 0, 0, 0, 0, 0, 0, 0, 0, 0, 0, 0, 0, 0, 0, 0, 0, 0, 0, 0, 0, 0, 0, 0, 0, 0, 0, 0, 0, 0, 0, 0, 0, 0, 0, 0, 0, 0, 0, 0, 0, 0, 1324, 0, 0, 0, 0, 0, 1442, 0, 0, 0, 0, 0, 0, 0, 859, 0, 0, 0, 0, 0, 0, 0, 0, 0, 0, 1608, 0, 0, 0, 876, 0, 0, 0, 1601, 0, 980, 0, 0, 0, 0, 0, 0, 0, 1694, 1000, 1004, 0, 0, 0, 0, 0, 0, 0, 0, 0, 0, 0, 0, 0, 0, 0, 0, 0, 1764, 0, 0, 0, 0, 0, 0, 0, 0, 1623, 0, 0, 0, 0, 0, 0, 0, 0, 0, 0, 0, 0, 0, 0, 0, 0, 0, 0, 869, 0, 0, 0, 0, 0, 0, 0, 1265, 1268, 0, 1904, 1907, 0, 0, 1928, 0, 0, 0, 0, 513, 588, 591, 0, 0, 0, 0, 0, 0, 0, 1453, 0, 1463, 0, 0, 0, 0, 0, 0, 0, 0, 0, 1571, 0, 0, 0, 0, 973, 0, 0, 0, 0, 1063, 0, 0, 1740, 0, 0, 0, 0, 0, 389, 0, 0, 0, 0, 0, 0, 0, 598, 601, 0, 0, 0, 0, 774, 0, 0, 0, 0, 0, 0, 0, 631, 0, 1584, 892, 0, 0, 0, 0, 0, 0, 0, 634, 0, 0, 404, 693, 0, 0, 639, 0, 696, 701, 0, 0, 0, 0, 0, 0, 0, 0, 0, 0, 0, 0]
def wseT : List Nat := [0, 0, 0, 569, 1435, 577, 1439, 851, 1552, 855, 1556, 908, 1590, 914, 1605, 950, 1639, 954, 1644, 958, 1652, 962, 1656, 966, 1661, 977, 1666, 993, 1698, 997, 1702, 1008, 1716, 1043, 1725, 1056, 1729, 1088, 1745, 1097, 1749, 1105, 1768, 1114, 1776, 1118, 1792, 1126, 1796, 1138, 1804, 1142, 1808, 1146, 1812, 1154, 1820, 1165, 1828, 1174, 1836, 1182, 1840, 1196, 1848, 1216, 1868, 1224, 1872, 1229, 1876, 1245, 1888, 1258, 1896, 1272, 1911, 1277, 1916, 1281, 1920, 1292, 1924, 1303, 1932, 1307, 1936, 1311, 1940, 1315, 1944, 0, 0, 0, 0, 0, 0, 0, 0, 0, 506, 510, 0, 1, 2, 585, 748, 847, 0, 44, 47, 49, 50, 51, 52, 783, 0, 866, 873, 68, 70, 71, 904, 900, 73, 74, 24, 0, 75, 76, 80, 0, 944, 27, 81, 0, 970, 0, 922, 28, 988, 25, 82, 83, 86, 0, 0, 0, 87, 84, 85, 29, 1021, 1039, 89, 1047, 1052, 1060, 1067, 1084, 90, 1092, 77, 1101, 92, 0, 1109, 95, 96, 1122, 1130, 99, 1150, 100, 0, 1017, 1158, 101, 1169, 102, 69, 1178, 79, 1186, 103, 35, 36, 104, 91, 105, 37, 1033, 106, 0, 38, 39, 108, 109, 41, 110, 43, 0, 0, 111, 0, 0, 1285, 1299, 0, 78, 0, 0, 386, 0, 0, 0, 3, 7, 744, 8, 9, 757, 45, 0, 46, 0, 614, 624, 48, 53, 54, 55, 56, 57, 23, 0, 72, 885, 889, 940, 0, 26, 88, 1025, 30, 0, 31, 32, 0, 93, 94, 97, 98, 1134, 0, 34, 1211, 107, 40, 42, 393, 397, 0, 0, 4, 685, 765, 761, 0, 10, 11, 12, 795, 21, 618, 628, 0, 58, 0, 0, 33, 0, 5, 6, 689, 13, 22, 0, 59, 62, 0, 0, 14, 818, 0, 60, 0, 0, 15, 61, 63, 16, 17, 64, 18, 65, 19, 66, 20, 67]
def ftyT : List (List Nat) := [[2, 2, 2, 0, 2, 2], [2, 2, 0], [2, 2, 3], [0, 0, 0, 0], [2, 0, 0], [2, 0, 2, 2, 2, 2, 2], [0, 0, 0, 0, 0, 0, 0, 0, 0, 0, 2, 2, 2, 2, 2], [2, 2, 2], [2, 0, 2, 2, 2, 2, 0, 2], [2, 0, 0, 0, 2, 2, 2, 0, 0, 0, 0, 0, 0], [2, 0, 0, 3], [2, 0, 2, 2, 2, 2, 2, 2, 2, 2, 2, 2, 2, 2, 2, 2, 2], [0, 2, 2, 2, 2, 0, 0, 0, 0, 0, 0, 0, 0, 0, 0, 0, 2, 2, 2, 0, 0, 2, 2, 0, 0, 2, 2, 2, 0, 2, 2, 2, 2, 2, 2]]
