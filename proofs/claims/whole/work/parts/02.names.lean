def RX0 : String := "StoneSecrets$Feuds"
def TX0 : u_T := fun k => match k with
  | 0 => ("StoneSecrets$Feuds", "valley", "LStoneSecrets$Valley;", true)
  | _ => ("StoneSecrets$Feuds", "walls", "[I", true)
def tyX0 : Nat → FieldType := fun k => match k with
  | 0 => .object "StoneSecrets$Valley"
  | _ => .array .int
theorem nmX0 : ∀ a, a < 2 → ∀ b, b < 2 → a ≠ b → (TX0 a).2.1 ≠ (TX0 b).2.1 := by decide +kernel
theorem tyX0_ok : ∀ k, k < 2 → parseFieldDescriptor (TX0 k).2.2.1 = some (tyX0 k) := by decide +kernel
def RX1 : String := "StoneSecrets$Future"
def TX1 : u_T := fun k => match k with
  | 0 => ("StoneSecrets$Future", "valley", "LStoneSecrets$Valley;", true)
  | 1 => ("StoneSecrets$Future", "soonest", "[I", true)
  | 2 => ("StoneSecrets$Future", "turns", "[I", true)
  | 3 => ("StoneSecrets$Future", "spots", "[I", true)
  | 4 => ("StoneSecrets$Future", "fallen", "[I", true)
  | _ => ("StoneSecrets$Future", "span", "I", false)
def tyX1 : Nat → FieldType := fun k => match k with
  | 0 => .object "StoneSecrets$Valley"
  | 1 => .array .int
  | 2 => .array .int
  | 3 => .array .int
  | 4 => .array .int
  | _ => .int
theorem nmX1 : ∀ a, a < 6 → ∀ b, b < 6 → a ≠ b → (TX1 a).2.1 ≠ (TX1 b).2.1 := by decide +kernel
theorem tyX1_ok : ∀ k, k < 6 → parseFieldDescriptor (TX1 k).2.2.1 = some (tyX1 k) := by decide +kernel
def RX2 : String := "StoneSecrets$Law"
def TX2 : u_T := fun k => match k with
  | 0 => ("StoneSecrets$Law", "steps", "[I", true)
  | 1 => ("StoneSecrets$Law", "values", "[I", true)
  | _ => ("StoneSecrets$Law", "length", "I", false)
def tyX2 : Nat → FieldType := fun k => match k with
  | 0 => .array .int
  | 1 => .array .int
  | _ => .int
theorem nmX2 : ∀ a, a < 3 → ∀ b, b < 3 → a ≠ b → (TX2 a).2.1 ≠ (TX2 b).2.1 := by decide +kernel
theorem tyX2_ok : ∀ k, k < 3 → parseFieldDescriptor (TX2 k).2.2.1 = some (tyX2 k) := by decide +kernel
def RX3 : String := "StoneSecrets$Past"
def TX3 : u_T := fun k => match k with
  | 0 => ("StoneSecrets$Past", "ring", "[LStoneSecrets$Wall;", true)
  | 1 => ("StoneSecrets$Past", "marked", "[LStoneSecrets$Wall;", true)
  | 2 => ("StoneSecrets$Past", "markedSeen", "[LStoneSecrets$Seen;", true)
  | 3 => ("StoneSecrets$Past", "laid", "I", false)
  | 4 => ("StoneSecrets$Past", "next", "I", false)
  | _ => ("StoneSecrets$Past", "held", "I", false)
def tyX3 : Nat → FieldType := fun k => match k with
  | 0 => .array (.object "StoneSecrets$Wall")
  | 1 => .array (.object "StoneSecrets$Wall")
  | 2 => .array (.object "StoneSecrets$Seen")
  | 3 => .int
  | 4 => .int
  | _ => .int
theorem nmX3 : ∀ a, a < 6 → ∀ b, b < 6 → a ≠ b → (TX3 a).2.1 ≠ (TX3 b).2.1 := by decide +kernel
theorem tyX3_ok : ∀ k, k < 6 → parseFieldDescriptor (TX3 k).2.2.1 = some (tyX3 k) := by decide +kernel
def RX4 : String := "StoneSecrets$Seen"
def TX4 : u_T := fun k => match k with
  | 0 => ("StoneSecrets$Seen", "places", "[I", true)
  | 1 => ("StoneSecrets$Seen", "weights", "[I", true)
  | 2 => ("StoneSecrets$Seen", "ups", "I", false)
  | _ => ("StoneSecrets$Seen", "size", "I", false)
def tyX4 : Nat → FieldType := fun k => match k with
  | 0 => .array .int
  | 1 => .array .int
  | 2 => .int
  | _ => .int
theorem nmX4 : ∀ a, a < 4 → ∀ b, b < 4 → a ≠ b → (TX4 a).2.1 ≠ (TX4 b).2.1 := by decide +kernel
theorem tyX4_ok : ∀ k, k < 4 → parseFieldDescriptor (TX4 k).2.2.1 = some (tyX4 k) := by decide +kernel
def RX5 : String := "StoneSecrets$Tape"
def TX5 : u_T := fun k => match k with
  | 0 => ("StoneSecrets$Tape", "signs", "[C", true)
  | 1 => ("StoneSecrets$Tape", "length", "I", false)
  | 2 => ("StoneSecrets$Tape", "next", "I", false)
  | 3 => ("StoneSecrets$Tape", "token", "I", false)
  | 4 => ("StoneSecrets$Tape", "place", "I", false)
  | 5 => ("StoneSecrets$Tape", "number", "I", false)
  | 6 => ("StoneSecrets$Tape", "word", "J", false)
  | _ => ("StoneSecrets$Tape", "fault", "I", false)
def tyX5 : Nat → FieldType := fun k => match k with
  | 0 => .array .char
  | 1 => .int
  | 2 => .int
  | 3 => .int
  | 4 => .int
  | 5 => .int
  | 6 => .long
  | _ => .int
theorem nmX5 : ∀ a, a < 8 → ∀ b, b < 8 → a ≠ b → (TX5 a).2.1 ≠ (TX5 b).2.1 := by decide +kernel
theorem tyX5_ok : ∀ k, k < 8 → parseFieldDescriptor (TX5 k).2.2.1 = some (tyX5 k) := by decide +kernel
def RX6 : String := "StoneSecrets$Valley"
def TX6 : u_T := fun k => match k with
  | 0 => ("StoneSecrets$Valley", "names", "[J", true)
  | 1 => ("StoneSecrets$Valley", "kinds", "[I", true)
  | 2 => ("StoneSecrets$Valley", "secrets", "[I", true)
  | 3 => ("StoneSecrets$Valley", "dues", "[I", true)
  | 4 => ("StoneSecrets$Valley", "weights", "[I", true)
  | 5 => ("StoneSecrets$Valley", "foes", "[I", true)
  | 6 => ("StoneSecrets$Valley", "frost", "[I", true)
  | 7 => ("StoneSecrets$Valley", "law", "LStoneSecrets$Law;", true)
  | 8 => ("StoneSecrets$Valley", "places", "I", false)
  | 9 => ("StoneSecrets$Valley", "souls", "I", false)
  | 10 => ("StoneSecrets$Valley", "pairs", "I", false)
  | 11 => ("StoneSecrets$Valley", "frosts", "I", false)
  | _ => ("StoneSecrets$Valley", "lawTold", "Z", false)
def tyX6 : Nat → FieldType := fun k => match k with
  | 0 => .array .long
  | 1 => .array .int
  | 2 => .array .int
  | 3 => .array .int
  | 4 => .array .int
  | 5 => .array .int
  | 6 => .array .int
  | 7 => .object "StoneSecrets$Law"
  | 8 => .int
  | 9 => .int
  | 10 => .int
  | 11 => .int
  | _ => .boolean
theorem nmX6 : ∀ a, a < 13 → ∀ b, b < 13 → a ≠ b → (TX6 a).2.1 ≠ (TX6 b).2.1 := by decide +kernel
theorem tyX6_ok : ∀ k, k < 13 → parseFieldDescriptor (TX6 k).2.2.1 = some (tyX6 k) := by decide +kernel
def RX7 : String := "StoneSecrets$Wall"
def TX7 : u_T := fun k => match k with
  | 0 => ("StoneSecrets$Wall", "valley", "LStoneSecrets$Valley;", true)
  | 1 => ("StoneSecrets$Wall", "states", "[I", true)
  | 2 => ("StoneSecrets$Wall", "spots", "[I", true)
  | _ => ("StoneSecrets$Wall", "date", "I", false)
def tyX7 : Nat → FieldType := fun k => match k with
  | 0 => .object "StoneSecrets$Valley"
  | 1 => .array .int
  | 2 => .array .int
  | _ => .int
theorem nmX7 : ∀ a, a < 4 → ∀ b, b < 4 → a ≠ b → (TX7 a).2.1 ≠ (TX7 b).2.1 := by decide +kernel
theorem tyX7_ok : ∀ k, k < 4 → parseFieldDescriptor (TX7 k).2.2.1 = some (tyX7 k) := by decide +kernel
def RX8 : String := "StoneSecrets$Ways"
def TX8 : u_T := fun k => match k with
  | 0 => ("StoneSecrets$Ways", "valley", "LStoneSecrets$Valley;", true)
  | 1 => ("StoneSecrets$Ways", "movers", "[I", true)
  | 2 => ("StoneSecrets$Ways", "untried", "[I", true)
  | 3 => ("StoneSecrets$Ways", "spots", "[I", true)
  | 4 => ("StoneSecrets$Ways", "weightAt", "[I", true)
  | 5 => ("StoneSecrets$Ways", "moving", "I", false)
  | _ => ("StoneSecrets$Ways", "begun", "Z", false)
def tyX8 : Nat → FieldType := fun k => match k with
  | 0 => .object "StoneSecrets$Valley"
  | 1 => .array .int
  | 2 => .array .int
  | 3 => .array .int
  | 4 => .array .int
  | 5 => .int
  | _ => .boolean
theorem nmX8 : ∀ a, a < 7 → ∀ b, b < 7 → a ≠ b → (TX8 a).2.1 ≠ (TX8 b).2.1 := by decide +kernel
theorem tyX8_ok : ∀ k, k < 7 → parseFieldDescriptor (TX8 k).2.2.1 = some (tyX8 k) := by decide +kernel
def RX9 : String := "StoneSecrets$Year"
def TX9 : u_T := fun k => match k with
  | 0 => ("StoneSecrets$Year", "deeds", "[I", true)
  | 1 => ("StoneSecrets$Year", "souls", "[I", true)
  | 2 => ("StoneSecrets$Year", "places", "[I", true)
  | _ => ("StoneSecrets$Year", "lines", "I", false)
def tyX9 : Nat → FieldType := fun k => match k with
  | 0 => .array .int
  | 1 => .array .int
  | 2 => .array .int
  | _ => .int
theorem nmX9 : ∀ a, a < 4 → ∀ b, b < 4 → a ≠ b → (TX9 a).2.1 ≠ (TX9 b).2.1 := by decide +kernel
theorem tyX9_ok : ∀ k, k < 4 → parseFieldDescriptor (TX9 k).2.2.1 = some (tyX9 k) := by decide +kernel
def RX10 : String := "StoneSecrets"
def TX10 : u_T := fun k => match k with
  | 0 => ("StoneSecrets", "tape", "LStoneSecrets$Tape;", true)
  | 1 => ("StoneSecrets", "valley", "LStoneSecrets$Valley;", true)
  | 2 => ("StoneSecrets", "draftValley", "LStoneSecrets$Valley;", true)
  | 3 => ("StoneSecrets", "year", "LStoneSecrets$Year;", true)
  | 4 => ("StoneSecrets", "draftYear", "LStoneSecrets$Year;", true)
  | 5 => ("StoneSecrets", "now", "LStoneSecrets$Wall;", true)
  | 6 => ("StoneSecrets", "trial", "LStoneSecrets$Wall;", true)
  | 7 => ("StoneSecrets", "past", "LStoneSecrets$Past;", true)
  | 8 => ("StoneSecrets", "seen", "LStoneSecrets$Seen;", true)
  | 9 => ("StoneSecrets", "ways", "LStoneSecrets$Ways;", true)
  | 10 => ("StoneSecrets", "future", "LStoneSecrets$Future;", true)
  | 11 => ("StoneSecrets", "feuds", "LStoneSecrets$Feuds;", true)
  | _ => ("StoneSecrets", "tallies", "[I", true)
def tyX10 : Nat → FieldType := fun k => match k with
  | 0 => .object "StoneSecrets$Tape"
  | 1 => .object "StoneSecrets$Valley"
  | 2 => .object "StoneSecrets$Valley"
  | 3 => .object "StoneSecrets$Year"
  | 4 => .object "StoneSecrets$Year"
  | 5 => .object "StoneSecrets$Wall"
  | 6 => .object "StoneSecrets$Wall"
  | 7 => .object "StoneSecrets$Past"
  | 8 => .object "StoneSecrets$Seen"
  | 9 => .object "StoneSecrets$Ways"
  | 10 => .object "StoneSecrets$Future"
  | 11 => .object "StoneSecrets$Feuds"
  | _ => .array .int
theorem nmX10 : ∀ a, a < 13 → ∀ b, b < 13 → a ≠ b → (TX10 a).2.1 ≠ (TX10 b).2.1 := by decide +kernel
theorem tyX10_ok : ∀ k, k < 13 → parseFieldDescriptor (TX10 k).2.2.1 = some (tyX10 k) := by decide +kernel
def RX11 : String := "StoneSecretsModel"
def TX11 : u_T := fun k => match k with
  | 0 => ("StoneSecretsModel", "thrown", "I", false)
  | 1 => ("StoneSecretsModel", "tape", "[I", true)
  | 2 => ("StoneSecretsModel", "taped", "I", false)
  | 3 => ("StoneSecretsModel", "size", "I", false)
  | 4 => ("StoneSecretsModel", "sort", "[I", true)
  | 5 => ("StoneSecretsModel", "place", "[I", true)
  | 6 => ("StoneSecretsModel", "value", "[J", true)
  | 7 => ("StoneSecretsModel", "at", "I", false)
  | 8 => ("StoneSecretsModel", "fault", "I", false)
  | 9 => ("StoneSecretsModel", "words", "[J", true)
  | 10 => ("StoneSecretsModel", "valleys", "[I", true)
  | 11 => ("StoneSecretsModel", "code", "[I", true)
  | 12 => ("StoneSecretsModel", "codes", "I", false)
  | 13 => ("StoneSecretsModel", "names", "[J", true)
  | 14 => ("StoneSecretsModel", "lines", "[I", true)
  | 15 => ("StoneSecretsModel", "facts", "[I", true)
  | 16 => ("StoneSecretsModel", "pile", "[I", true)
  | 17 => ("StoneSecretsModel", "state", "[I", true)
  | 18 => ("StoneSecretsModel", "undos", "I", false)
  | 19 => ("StoneSecretsModel", "isMarked", "[Z", true)
  | 20 => ("StoneSecretsModel", "ways", "I", false)
  | 21 => ("StoneSecretsModel", "wanted", "I", false)
  | 22 => ("StoneSecretsModel", "fits", "I", false)
  | 23 => ("StoneSecretsModel", "standWeeks", "I", false)
  | 24 => ("StoneSecretsModel", "standMost", "I", false)
  | 25 => ("StoneSecretsModel", "standNumber", "I", false)
  | 26 => ("StoneSecretsModel", "evenLeast", "I", false)
  | 27 => ("StoneSecretsModel", "evenNumber", "I", false)
  | 28 => ("StoneSecretsModel", "timesOf", "[I", true)
  | 29 => ("StoneSecretsModel", "wantedRow", "[I", true)
  | 30 => ("StoneSecretsModel", "tally", "[I", true)
  | 31 => ("StoneSecretsModel", "wallOf", "[I", true)
  | _ => ("StoneSecretsModel", "g", "J", false)
def tyX11 : Nat → FieldType := fun k => match k with
  | 0 => .int
  | 1 => .array .int
  | 2 => .int
  | 3 => .int
  | 4 => .array .int
  | 5 => .array .int
  | 6 => .array .long
  | 7 => .int
  | 8 => .int
  | 9 => .array .long
  | 10 => .array .int
  | 11 => .array .int
  | 12 => .int
  | 13 => .array .long
  | 14 => .array .int
  | 15 => .array .int
  | 16 => .array .int
  | 17 => .array .int
  | 18 => .int
  | 19 => .array .boolean
  | 20 => .int
  | 21 => .int
  | 22 => .int
  | 23 => .int
  | 24 => .int
  | 25 => .int
  | 26 => .int
  | 27 => .int
  | 28 => .array .int
  | 29 => .array .int
  | 30 => .array .int
  | 31 => .array .int
  | _ => .long
theorem nmX11 : ∀ a, a < 33 → ∀ b, b < 33 → a ≠ b → (TX11 a).2.1 ≠ (TX11 b).2.1 := by decide +kernel
theorem tyX11_ok : ∀ k, k < 33 → parseFieldDescriptor (TX11 k).2.2.1 = some (tyX11 k) := by decide +kernel
abbrev am_cl : List vw_C := [(RX0, TX0, 2), (RX1, TX1, 6), (RX2, TX2, 3), (RX3, TX3, 6), (RX4, TX4, 4), (RX5, TX5, 8), (RX6, TX6, 13), (RX7, TX7, 4), (RX8, TX8, 7), (RX9, TX9, 4), (RX10, TX10, 13), (RX11, TX11, 33)]
def am_ty (c : Nat) : Nat → FieldType := match c with
  | 0 => tyX0
  | 1 => tyX1
  | 2 => tyX2
  | 3 => tyX3
  | 4 => tyX4
  | 5 => tyX5
  | 6 => tyX6
  | 7 => tyX7
  | 8 => tyX8
  | 9 => tyX9
  | 10 => tyX10
  | _ => tyX11
def am_k0 (c : Nat) : List (Option Nat ⊕ Bool) := match c with
  | 0 => [.inl none, .inl none]
  | 1 => [.inl none, .inl none, .inl none, .inl none, .inl none, .inr true]
  | 2 => [.inl none, .inl none, .inr true]
  | 3 => [.inl none, .inl none, .inl none, .inr true, .inr true, .inr true]
  | 4 => [.inl none, .inl none, .inr true, .inr true]
  | 5 => [.inl none, .inr true, .inr true, .inr true, .inr true, .inr true, .inr false, .inr true]
  | 6 => [.inl none, .inl none, .inl none, .inl none, .inl none, .inl none, .inl none, .inl none, .inr true, .inr true, .inr true, .inr true, .inr true]
  | 7 => [.inl none, .inl none, .inl none, .inr true]
  | 8 => [.inl none, .inl none, .inl none, .inl none, .inl none, .inr true, .inr true]
  | 9 => [.inl none, .inl none, .inl none, .inr true]
  | 10 => [.inl none, .inl none, .inl none, .inl none, .inl none, .inl none, .inl none, .inl none, .inl none, .inl none, .inl none, .inl none, .inl none]
  | _ => [.inr true, .inl none, .inr true, .inr true, .inl none, .inl none, .inl none, .inr true, .inr true, .inl none, .inl none, .inl none, .inr true, .inl none, .inl none, .inl none, .inl none, .inl none, .inr true, .inl none, .inr true, .inr true, .inr true, .inr true, .inr true, .inr true, .inr true, .inr true, .inl none, .inl none, .inl none, .inl none, .inr false]
def am_own (c : Nat) : String := match c with
  | 0 => RX0
  | 1 => RX1
  | 2 => RX2
  | 3 => RX3
  | 4 => RX4
  | 5 => RX5
  | 6 => RX6
  | 7 => RX7
  | 8 => RX8
  | 9 => RX9
  | 10 => RX10
  | 11 => RX11
  | 12 => "StoneSecretsLaw"
  | 13 => "java/util/Arrays"
  | 14 => "java/lang/Integer"
  | _ => "java/lang/Math"
def am_fin (c k : Nat) : Bool := match am_cl[c]? with
  | some q => (q.2.1 k).2.2.2
  | none => false
abbrev am_Y : Type := MethodName × ByteArray × Nat × Option FieldType × Nat × Bool × Bool × Nat
def am_nm_0 : List am_Y := [
  (⟨"StoneSecrets", "<init>", "()V"⟩, prog_1_method_1_code, 1, (Option.none : Option FieldType), 0, false, true, 10),
  (⟨"StoneSecrets$Tape", "<init>", "()V"⟩, prog_7_method_1_code, 1, (Option.none : Option FieldType), 0, false, true, 5),
  (⟨"StoneSecrets$Valley", "<init>", "()V"⟩, prog_8_method_1_code, 1, (Option.none : Option FieldType), 0, false, true, 6),
  (⟨"StoneSecrets$Law", "<init>", "()V"⟩, prog_4_method_1_code, 1, (Option.none : Option FieldType), 0, false, true, 2),
  (⟨"StoneSecrets$Year", "<init>", "()V"⟩, prog_11_method_1_code, 1, (Option.none : Option FieldType), 0, false, true, 9),
  (⟨"StoneSecrets$Wall", "<init>", "(LStoneSecrets$Valley;)V"⟩, prog_9_method_1_code, 2, (Option.none : Option FieldType), 1, false, true, 7),
  (⟨"StoneSecrets$Past", "<init>", "(LStoneSecrets$Valley;)V"⟩, prog_5_method_1_code, 3, (Option.none : Option FieldType), 1, false, true, 3),
  (⟨"StoneSecrets$Seen", "<init>", "()V"⟩, prog_6_method_1_code, 1, (Option.none : Option FieldType), 0, false, true, 4),
  (⟨"StoneSecrets$Ways", "<init>", "(LStoneSecrets$Valley;)V"⟩, prog_10_method_1_code, 2, (Option.none : Option FieldType), 1, false, true, 8),
  (⟨"StoneSecrets$Future", "<init>", "(LStoneSecrets$Valley;)V"⟩, prog_3_method_1_code, 2, (Option.none : Option FieldType), 1, false, true, 1),
  (⟨"StoneSecrets$Feuds", "<init>", "(LStoneSecrets$Valley;)V"⟩, prog_2_method_1_code, 2, (Option.none : Option FieldType), 1, false, true, 0),
  (⟨"StoneSecrets", "feed", "(JJJ)I"⟩, prog_1_method_2_code, 7, (Option.some FieldType.int), 3, false, false, 10),
  (⟨"StoneSecrets$Tape", "addBytes", "(J)V"⟩, prog_7_method_2_code, 6, (Option.none : Option FieldType), 1, false, false, 5),
  (⟨"StoneSecrets", "valley", "()I"⟩, prog_1_method_3_code, 2, (Option.some FieldType.int), 0, false, false, 10),
  (⟨"StoneSecrets$Tape", "open", "()V"⟩, prog_7_method_4_code, 1, (Option.none : Option FieldType), 0, false, false, 5),
  (⟨"StoneSecrets$Tape", "step", "()V"⟩, prog_7_method_9_code, 1, (Option.none : Option FieldType), 0, false, false, 5),
  (⟨"StoneSecrets$Tape", "isBlank", "(C)Z"⟩, prog_7_method_13_code, 1, (Option.some FieldType.boolean), 1, true, false, 5),
  (⟨"StoneSecrets$Tape", "isLetter", "(C)Z"⟩, prog_7_method_14_code, 1, (Option.some FieldType.boolean), 1, true, false, 5),
  (⟨"StoneSecrets$Tape", "stepWord", "()V"⟩, prog_7_method_10_code, 1, (Option.none : Option FieldType), 0, false, false, 5),
  (⟨"StoneSecrets$Tape", "wordToken", "()I"⟩, prog_7_method_11_code, 2, (Option.some FieldType.int), 0, false, false, 5),
  (⟨"StoneSecrets$Tape", "isNumeral", "(C)Z"⟩, prog_7_method_15_code, 1, (Option.some FieldType.boolean), 1, true, false, 5),
  (⟨"StoneSecrets$Tape", "stepNumber", "()V"⟩, prog_7_method_12_code, 1, (Option.none : Option FieldType), 0, false, false, 5),
  (⟨"StoneSecrets$Tape", "isSign", "(C)Z"⟩, prog_7_method_16_code, 1, (Option.some FieldType.boolean), 1, true, false, 5),
  (⟨"StoneSecrets$Valley", "read", "(LStoneSecrets$Tape;)Z"⟩, prog_8_method_3_code, 4, (Option.some FieldType.boolean), 1, false, false, 6),
  (⟨"StoneSecrets$Valley", "beginReading", "()V"⟩, prog_8_method_4_code, 1, (Option.none : Option FieldType), 0, false, false, 6),
  (⟨"java/util/Arrays", "fill", "([II)V"⟩, prog_21_method_103_code, 4, (Option.none : Option FieldType), 2, true, false, 13),
  (⟨"StoneSecrets$Law", "beUsual", "()V"⟩, prog_4_method_4_code, 1, (Option.none : Option FieldType), 0, false, false, 2),
  (⟨"StoneSecrets$Law", "beNothing", "()V"⟩, prog_4_method_3_code, 1, (Option.none : Option FieldType), 0, false, false, 2),
  (⟨"StoneSecrets$Law", "put", "(I)V"⟩, prog_4_method_10_code, 2, (Option.none : Option FieldType), 1, false, false, 2),
  (⟨"StoneSecrets$Valley", "readLine", "(LStoneSecrets$Tape;)Z"⟩, prog_8_method_5_code, 2, (Option.some FieldType.boolean), 1, false, false, 6),
  (⟨"StoneSecrets$Valley", "readWall", "(LStoneSecrets$Tape;)Z"⟩, prog_8_method_6_code, 2, (Option.some FieldType.boolean), 1, false, false, 6),
  (⟨"StoneSecrets$Tape", "wrong", "(I)Z"⟩, prog_7_method_5_code, 2, (Option.some FieldType.boolean), 1, false, false, 5),
  (⟨"StoneSecrets$Tape", "passNumber", "(II)I"⟩, prog_7_method_7_code, 4, (Option.some FieldType.int), 2, false, false, 5),
  (⟨"StoneSecrets$Tape", "isNumberWithin", "(II)Z"⟩, prog_7_method_8_code, 3, (Option.some FieldType.boolean), 2, false, false, 5),
  (⟨"StoneSecrets$Valley", "readSoul", "(LStoneSecrets$Tape;)Z"⟩, prog_8_method_7_code, 3, (Option.some FieldType.boolean), 1, false, false, 6),
  (⟨"StoneSecrets$Valley", "readNewName", "(LStoneSecrets$Tape;I)Z"⟩, prog_8_method_8_code, 3, (Option.some FieldType.boolean), 2, false, false, 6),
  (⟨"StoneSecrets$Valley", "soulNamed", "(J)I"⟩, prog_8_method_18_code, 4, (Option.some FieldType.int), 1, false, false, 6),
  (⟨"StoneSecrets$Valley", "readKind", "(LStoneSecrets$Tape;I)Z"⟩, prog_8_method_9_code, 3, (Option.some FieldType.boolean), 2, false, false, 6),
  (⟨"StoneSecrets$Tape", "pass", "(I)Z"⟩, prog_7_method_6_code, 2, (Option.some FieldType.boolean), 1, false, false, 5),
  (⟨"StoneSecrets$Valley", "weightOf", "(II)I"⟩, prog_8_method_10_code, 2, (Option.some FieldType.int), 2, true, false, 6),
  (⟨"StoneSecrets$Valley", "readHurts", "(LStoneSecrets$Tape;)Z"⟩, prog_8_method_11_code, 4, (Option.some FieldType.boolean), 1, false, false, 6),
  (⟨"StoneSecrets$Valley", "passSoul", "(LStoneSecrets$Tape;)I"⟩, prog_8_method_17_code, 3, (Option.some FieldType.int), 1, false, false, 6),
  (⟨"StoneSecrets$Valley", "soulAt", "(LStoneSecrets$Tape;)I"⟩, prog_8_method_16_code, 3, (Option.some FieldType.int), 1, false, false, 6),
  (⟨"StoneSecrets", "has", "(II)Z"⟩, prog_1_method_64_code, 2, (Option.some FieldType.boolean), 2, true, false, 10),
  (⟨"StoneSecrets$Valley", "readFrost", "(LStoneSecrets$Tape;)Z"⟩, prog_8_method_12_code, 4, (Option.some FieldType.boolean), 1, false, false, 6),
  (⟨"StoneSecrets$Valley", "readCold", "(LStoneSecrets$Tape;)Z"⟩, prog_8_method_13_code, 2, (Option.some FieldType.boolean), 1, false, false, 6),
  (⟨"StoneSecrets$Valley", "beginLaw", "(LStoneSecrets$Tape;)Z"⟩, prog_8_method_14_code, 2, (Option.some FieldType.boolean), 1, false, false, 6),
  (⟨"StoneSecrets$Law", "readLevel", "(LStoneSecrets$Tape;II)Z"⟩, prog_4_method_5_code, 8, (Option.some FieldType.boolean), 3, false, false, 2),
  (⟨"StoneSecrets$Law", "readPart", "(LStoneSecrets$Tape;I)Z"⟩, prog_4_method_8_code, 6, (Option.some FieldType.boolean), 2, false, false, 2),
  (⟨"StoneSecrets$Law", "leafOf", "(LStoneSecrets$Tape;)I"⟩, prog_4_method_9_code, 1, (Option.some FieldType.int), 1, true, false, 2),
  (⟨"StoneSecrets$Law", "levelOf", "(I)I"⟩, prog_4_method_6_code, 1, (Option.some FieldType.int), 1, true, false, 2),
  (⟨"StoneSecrets$Law", "jointOf", "(I)I"⟩, prog_4_method_7_code, 1, (Option.some FieldType.int), 1, true, false, 2),
  (⟨"StoneSecrets$Valley", "addLordsGrudges", "()V"⟩, prog_8_method_15_code, 3, (Option.none : Option FieldType), 0, false, false, 6),
  (⟨"StoneSecrets$Tape", "empty", "()V"⟩, prog_7_method_3_code, 1, (Option.none : Option FieldType), 0, false, false, 5),
  (⟨"StoneSecrets$Valley", "copyFrom", "(LStoneSecrets$Valley;)V"⟩, prog_8_method_2_code, 2, (Option.none : Option FieldType), 1, false, false, 6),
  (⟨"StoneSecrets$Law", "copyFrom", "(LStoneSecrets$Law;)V"⟩, prog_4_method_2_code, 2, (Option.none : Option FieldType), 1, false, false, 2),
  (⟨"StoneSecrets$Wall", "begin", "()V"⟩, prog_9_method_2_code, 1, (Option.none : Option FieldType), 0, false, false, 7),
  (⟨"StoneSecrets$Past", "forgetAll", "()V"⟩, prog_5_method_2_code, 1, (Option.none : Option FieldType), 0, false, false, 3),
  (⟨"StoneSecrets", "year", "()I"⟩, prog_1_method_4_code, 2, (Option.some FieldType.int), 0, false, false, 10),
  (⟨"StoneSecrets$Year", "read", "(LStoneSecrets$Tape;LStoneSecrets$Valley;)Z"⟩, prog_11_method_3_code, 5, (Option.some FieldType.boolean), 2, false, false, 9)]
def am_nm_1 : List am_Y := [
  (⟨"StoneSecrets$Year", "readLine", "(LStoneSecrets$Tape;LStoneSecrets$Valley;)Z"⟩, prog_11_method_4_code, 5, (Option.some FieldType.boolean), 2, false, false, 9),
  (⟨"StoneSecrets$Year", "deedAt", "(I)I"⟩, prog_11_method_5_code, 1, (Option.some FieldType.int), 1, true, false, 9),
  (⟨"StoneSecrets$Year", "copyFrom", "(LStoneSecrets$Year;)V"⟩, prog_11_method_2_code, 2, (Option.none : Option FieldType), 1, false, false, 9),
  (⟨"StoneSecrets", "soul", "(II)I"⟩, prog_1_method_5_code, 3, (Option.some FieldType.int), 2, false, false, 10),
  (⟨"StoneSecrets$Valley", "hasSoul", "(I)Z"⟩, prog_8_method_19_code, 2, (Option.some FieldType.boolean), 1, false, false, 6),
  (⟨"StoneSecrets", "placeOf", "(I)I"⟩, prog_1_method_66_code, 1, (Option.some FieldType.int), 1, true, false, 10),
  (⟨"java/lang/Integer", "bitCount", "(I)I"⟩, prog_16_method_49_code, 1, (Option.some FieldType.int), 1, true, false, 14),
  (⟨"StoneSecrets", "stands", "(I)I"⟩, prog_1_method_6_code, 2, (Option.some FieldType.int), 1, false, false, 10),
  (⟨"StoneSecrets$Valley", "hasPlace", "(I)Z"⟩, prog_8_method_20_code, 2, (Option.some FieldType.boolean), 1, false, false, 6),
  (⟨"StoneSecrets$Wall", "standing", "(I)I"⟩, prog_9_method_10_code, 3, (Option.some FieldType.int), 1, false, false, 7),
  (⟨"StoneSecrets", "tell", "(I)Z"⟩, prog_1_method_7_code, 2, (Option.some FieldType.boolean), 1, false, false, 10),
  (⟨"StoneSecrets", "act", "(III)Z"⟩, prog_1_method_50_code, 4, (Option.some FieldType.boolean), 3, false, false, 10),
  (⟨"StoneSecrets$Wall", "allows", "(III)Z"⟩, prog_9_method_11_code, 4, (Option.some FieldType.boolean), 3, false, false, 7),
  (⟨"StoneSecrets$Wall", "is", "(II)Z"⟩, prog_9_method_4_code, 3, (Option.some FieldType.boolean), 2, false, false, 7),
  (⟨"StoneSecrets$Wall", "isLoose", "(I)Z"⟩, prog_9_method_5_code, 2, (Option.some FieldType.boolean), 1, false, false, 7),
  (⟨"StoneSecrets$Valley", "openTo", "(I[I)I"⟩, prog_8_method_26_code, 3, (Option.some FieldType.int), 2, false, false, 6),
  (⟨"StoneSecrets$Valley", "allPlaces", "()I"⟩, prog_8_method_21_code, 1, (Option.some FieldType.int), 0, false, false, 6),
  (⟨"StoneSecrets", "taken", "([I)I"⟩, prog_1_method_68_code, 6, (Option.some FieldType.int), 1, true, false, 10),
  (⟨"StoneSecrets$Valley", "nearFoes", "(I[I)I"⟩, prog_8_method_25_code, 5, (Option.some FieldType.int), 2, false, false, 6),
  (⟨"StoneSecrets", "besideSpot", "(I)I"⟩, prog_1_method_67_code, 1, (Option.some FieldType.int), 1, true, false, 10),
  (⟨"StoneSecrets$Past", "keep", "(LStoneSecrets$Wall;)V"⟩, prog_5_method_3_code, 2, (Option.none : Option FieldType), 1, false, false, 3),
  (⟨"StoneSecrets$Wall", "copyFrom", "(LStoneSecrets$Wall;)V"⟩, prog_9_method_3_code, 2, (Option.none : Option FieldType), 1, false, false, 7),
  (⟨"java/lang/Math", "min", "(II)I"⟩, prog_17_method_69_code, 2, (Option.some FieldType.int), 2, true, false, 15),
  (⟨"StoneSecrets$Wall", "perform", "(III)V"⟩, prog_9_method_12_code, 4, (Option.none : Option FieldType), 3, false, false, 7),
  (⟨"StoneSecrets$Valley", "coldOf", "(I)I"⟩, prog_8_method_22_code, 2, (Option.some FieldType.int), 1, false, false, 6),
  (⟨"StoneSecrets$Wall", "passWeek", "(I)I"⟩, prog_9_method_14_code, 4, (Option.some FieldType.int), 1, false, false, 7),
  (⟨"StoneSecrets$Wall", "fallingBy", "(I)I"⟩, prog_9_method_15_code, 6, (Option.some FieldType.int), 1, false, false, 7),
  (⟨"StoneSecrets$Valley", "drops", "(IIII)Z"⟩, prog_8_method_24_code, 5, (Option.some FieldType.boolean), 4, false, false, 6),
  (⟨"StoneSecrets$Law", "holds", "(IIII)Z"⟩, prog_4_method_11_code, 8, (Option.some FieldType.boolean), 4, false, false, 2),
  (⟨"StoneSecrets$Law", "factOf", "(IIIII)I"⟩, prog_4_method_12_code, 5, (Option.some FieldType.int), 5, true, false, 2),
  (⟨"StoneSecrets$Law", "join", "(III)I"⟩, prog_4_method_13_code, 3, (Option.some FieldType.int), 3, true, false, 2),
  (⟨"StoneSecrets$Valley", "canLeak", "(I)Z"⟩, prog_8_method_23_code, 2, (Option.some FieldType.boolean), 1, false, false, 6),
  (⟨"StoneSecrets", "sets", "(II)Z"⟩, prog_1_method_8_code, 3, (Option.some FieldType.boolean), 2, false, false, 10),
  (⟨"StoneSecrets", "take", "(I)I"⟩, prog_1_method_9_code, 3, (Option.some FieldType.int), 1, false, false, 10),
  (⟨"StoneSecrets", "week", "()I"⟩, prog_1_method_10_code, 1, (Option.some FieldType.int), 0, false, false, 10),
  (⟨"StoneSecrets", "undo", "()Z"⟩, prog_1_method_11_code, 1, (Option.some FieldType.boolean), 0, false, false, 10),
  (⟨"StoneSecrets$Past", "bringBack", "(LStoneSecrets$Wall;)Z"⟩, prog_5_method_4_code, 2, (Option.some FieldType.boolean), 1, false, false, 3),
  (⟨"StoneSecrets", "judged", "(I)I"⟩, prog_1_method_12_code, 6, (Option.some FieldType.int), 1, false, false, 10),
  (⟨"StoneSecrets$Wall", "attempt", "(III)Z"⟩, prog_9_method_13_code, 5, (Option.some FieldType.boolean), 3, false, false, 7),
  (⟨"StoneSecrets$Wall", "who", "(I)I"⟩, prog_9_method_7_code, 4, (Option.some FieldType.int), 1, false, false, 7),
  (⟨"StoneSecrets", "may", "(I)I"⟩, prog_1_method_13_code, 2, (Option.some FieldType.int), 1, false, false, 10),
  (⟨"StoneSecrets", "falls", "(I)I"⟩, prog_1_method_14_code, 3, (Option.some FieldType.int), 1, false, false, 10),
  (⟨"StoneSecrets", "foresee", "()V"⟩, prog_1_method_51_code, 1, (Option.none : Option FieldType), 0, false, false, 10),
  (⟨"StoneSecrets$Future", "prepare", "(III)V"⟩, prog_3_method_2_code, 10, (Option.none : Option FieldType), 3, false, false, 1),
  (⟨"java/lang/Math", "max", "(II)I"⟩, prog_17_method_65_code, 2, (Option.some FieldType.int), 2, true, false, 15),
  (⟨"StoneSecrets$Future", "cellOf", "(III)I"⟩, prog_3_method_3_code, 3, (Option.some FieldType.int), 3, true, false, 1),
  (⟨"StoneSecrets$Future", "run", "([I)V"⟩, prog_3_method_4_code, 5, (Option.none : Option FieldType), 1, false, false, 1),
  (⟨"StoneSecrets$Future", "nextTurn", "(I)I"⟩, prog_3_method_5_code, 6, (Option.some FieldType.int), 1, false, false, 1),
  (⟨"StoneSecrets$Future", "dropAt", "(I)V"⟩, prog_3_method_6_code, 3, (Option.none : Option FieldType), 1, false, false, 1),
  (⟨"StoneSecrets", "blurts", "(I)I"⟩, prog_1_method_15_code, 3, (Option.some FieldType.int), 1, false, false, 10),
  (⟨"StoneSecrets", "later", "(I)I"⟩, prog_1_method_16_code, 2, (Option.some FieldType.int), 1, false, false, 10),
  (⟨"StoneSecrets$Future", "standingBehind", "(I)I"⟩, prog_3_method_7_code, 4, (Option.some FieldType.int), 1, false, false, 1),
  (⟨"StoneSecrets", "bare", "()I"⟩, prog_1_method_17_code, 2, (Option.some FieldType.int), 0, false, false, 10),
  (⟨"StoneSecrets", "first", "()I"⟩, prog_1_method_18_code, 4, (Option.some FieldType.int), 0, false, false, 10),
  (⟨"StoneSecrets", "least", "(I)I"⟩, prog_1_method_19_code, 4, (Option.some FieldType.int), 1, false, false, 10),
  (⟨"StoneSecrets", "ways", "()I"⟩, prog_1_method_20_code, 2, (Option.some FieldType.int), 0, false, false, 10),
  (⟨"StoneSecrets", "beginWays", "()V"⟩, prog_1_method_52_code, 1, (Option.none : Option FieldType), 0, false, false, 10),
  (⟨"StoneSecrets$Wall", "loose", "()I"⟩, prog_9_method_8_code, 1, (Option.some FieldType.int), 0, false, false, 7),
  (⟨"StoneSecrets$Ways", "begin", "([III)V"⟩, prog_10_method_2_code, 5, (Option.none : Option FieldType), 3, false, false, 8),
  (⟨"StoneSecrets$Ways", "next", "()Z"⟩, prog_10_method_4_code, 5, (Option.some FieldType.boolean), 0, false, false, 8)]
def am_nm_2 : List am_Y := [
  (⟨"StoneSecrets$Ways", "enter", "(I)V"⟩, prog_10_method_5_code, 2, (Option.none : Option FieldType), 1, false, false, 8),
  (⟨"StoneSecrets", "way", "(II)I"⟩, prog_1_method_21_code, 4, (Option.some FieldType.int), 2, false, false, 10),
  (⟨"StoneSecrets$Wall", "isStone", "(I)Z"⟩, prog_9_method_6_code, 2, (Option.some FieldType.boolean), 1, false, false, 7),
  (⟨"StoneSecrets", "times", "(II)I"⟩, prog_1_method_22_code, 5, (Option.some FieldType.int), 2, false, false, 10),
  (⟨"StoneSecrets", "sure", "(I)I"⟩, prog_1_method_23_code, 4, (Option.some FieldType.int), 1, false, false, 10),
  (⟨"StoneSecrets", "most", "()I"⟩, prog_1_method_24_code, 1, (Option.some FieldType.int), 0, false, false, 10),
  (⟨"StoneSecrets", "fullestSet", "()I"⟩, prog_1_method_53_code, 6, (Option.some FieldType.int), 0, false, false, 10),
  (⟨"StoneSecrets", "isWithin", "(II)Z"⟩, prog_1_method_65_code, 2, (Option.some FieldType.boolean), 2, true, false, 10),
  (⟨"StoneSecrets$Ways", "isAny", "([III)Z"⟩, prog_10_method_3_code, 4, (Option.some FieldType.boolean), 3, false, false, 8),
  (⟨"StoneSecrets", "fullest", "()I"⟩, prog_1_method_25_code, 1, (Option.some FieldType.int), 0, false, false, 10),
  (⟨"StoneSecrets", "clear", "()I"⟩, prog_1_method_26_code, 6, (Option.some FieldType.int), 0, false, false, 10),
  (⟨"StoneSecrets", "best", "(II)I"⟩, prog_1_method_27_code, 9, (Option.some FieldType.int), 2, false, false, 10),
  (⟨"StoneSecrets", "lean", "()I"⟩, prog_1_method_28_code, 1, (Option.some FieldType.int), 0, false, false, 10),
  (⟨"StoneSecrets$Valley", "leanOf", "([I)I"⟩, prog_8_method_27_code, 4, (Option.some FieldType.int), 1, false, false, 6),
  (⟨"java/lang/Math", "abs", "(I)I"⟩, prog_17_method_59_code, 1, (Option.some FieldType.int), 1, true, false, 15),
  (⟨"StoneSecrets", "even", "(I)I"⟩, prog_1_method_29_code, 6, (Option.some FieldType.int), 1, false, false, 10),
  (⟨"StoneSecrets", "colours", "()I"⟩, prog_1_method_30_code, 1, (Option.some FieldType.int), 0, false, false, 10),
  (⟨"StoneSecrets$Wall", "notOut", "()I"⟩, prog_9_method_9_code, 1, (Option.some FieldType.int), 0, false, false, 7),
  (⟨"StoneSecrets$Feuds", "paint", "(I)I"⟩, prog_2_method_2_code, 3, (Option.some FieldType.int), 1, false, false, 0),
  (⟨"StoneSecrets$Feuds", "paintFrom", "(III)Z"⟩, prog_2_method_3_code, 5, (Option.some FieldType.boolean), 3, false, false, 0),
  (⟨"StoneSecrets$Feuds", "isAtPeace", "(I)Z"⟩, prog_2_method_4_code, 3, (Option.some FieldType.boolean), 1, false, false, 0),
  (⟨"StoneSecrets", "colour", "(I)I"⟩, prog_1_method_31_code, 2, (Option.some FieldType.int), 1, false, false, 10),
  (⟨"StoneSecrets", "feud", "()I"⟩, prog_1_method_32_code, 1, (Option.some FieldType.int), 0, false, false, 10),
  (⟨"StoneSecrets$Feuds", "largest", "(IZ)I"⟩, prog_2_method_5_code, 6, (Option.some FieldType.int), 2, false, false, 0),
  (⟨"StoneSecrets$Feuds", "isAlike", "(IZ)Z"⟩, prog_2_method_6_code, 6, (Option.some FieldType.boolean), 2, false, false, 0),
  (⟨"StoneSecrets", "calm", "()I"⟩, prog_1_method_33_code, 1, (Option.some FieldType.int), 0, false, false, 10),
  (⟨"StoneSecrets", "grudges", "(I)I"⟩, prog_1_method_34_code, 2, (Option.some FieldType.int), 1, false, false, 10),
  (⟨"StoneSecrets", "load", "()I"⟩, prog_1_method_35_code, 3, (Option.some FieldType.int), 0, false, false, 10),
  (⟨"StoneSecrets", "gaps", "()I"⟩, prog_1_method_36_code, 3, (Option.some FieldType.int), 0, false, false, 10),
  (⟨"StoneSecrets", "widest", "()I"⟩, prog_1_method_37_code, 5, (Option.some FieldType.int), 0, false, false, 10),
  (⟨"StoneSecrets", "heavy", "()I"⟩, prog_1_method_38_code, 4, (Option.some FieldType.int), 0, false, false, 10),
  (⟨"StoneSecrets", "beside", "(I)I"⟩, prog_1_method_39_code, 5, (Option.some FieldType.int), 1, false, false, 10),
  (⟨"StoneSecrets", "like", "()I"⟩, prog_1_method_40_code, 4, (Option.some FieldType.int), 0, false, false, 10),
  (⟨"StoneSecrets", "swaps", "()I"⟩, prog_1_method_41_code, 4, (Option.some FieldType.int), 0, false, false, 10),
  (⟨"StoneSecrets", "canSwap", "(II)Z"⟩, prog_1_method_54_code, 4, (Option.some FieldType.boolean), 2, false, false, 10),
  (⟨"StoneSecrets", "see", "(IIZ)Z"⟩, prog_1_method_42_code, 4, (Option.some FieldType.boolean), 3, false, false, 10),
  (⟨"StoneSecrets$Seen", "add", "(IIZ)Z"⟩, prog_6_method_2_code, 4, (Option.some FieldType.boolean), 3, false, false, 4),
  (⟨"StoneSecrets", "fit", "()I"⟩, prog_1_method_43_code, 1, (Option.some FieldType.int), 0, false, false, 10),
  (⟨"StoneSecrets", "tallyFits", "()I"⟩, prog_1_method_55_code, 4, (Option.some FieldType.int), 0, false, false, 10),
  (⟨"StoneSecrets$Ways", "weigh", "()V"⟩, prog_10_method_6_code, 2, (Option.none : Option FieldType), 0, false, false, 8),
  (⟨"StoneSecrets$Seen", "agrees", "([I)Z"⟩, prog_6_method_4_code, 4, (Option.some FieldType.boolean), 1, false, false, 4),
  (⟨"StoneSecrets", "look", "()I"⟩, prog_1_method_44_code, 5, (Option.some FieldType.int), 0, false, false, 10),
  (⟨"StoneSecrets", "greatestTally", "(I)I"⟩, prog_1_method_56_code, 4, (Option.some FieldType.int), 1, false, false, 10),
  (⟨"StoneSecrets", "chance", "(III)I"⟩, prog_1_method_45_code, 7, (Option.some FieldType.int), 3, false, false, 10),
  (⟨"StoneSecrets", "shareOf", "(III)I"⟩, prog_1_method_57_code, 5, (Option.some FieldType.int), 3, true, false, 10),
  (⟨"StoneSecrets", "outlasts", "(III)Z"⟩, prog_1_method_58_code, 5, (Option.some FieldType.boolean), 3, false, false, 10),
  (⟨"StoneSecrets", "centuries", "(III)I"⟩, prog_1_method_47_code, 10, (Option.some FieldType.int), 3, false, false, 10),
  (⟨"StoneSecrets", "nextSeed", "(J)J"⟩, prog_1_method_61_code, 2, (Option.some FieldType.long), 1, true, false, 10),
  (⟨"StoneSecrets", "drawOf", "(JI)I"⟩, prog_1_method_62_code, 3, (Option.some FieldType.int), 2, true, false, 10),
  (⟨"StoneSecrets", "deedOf", "(I)I"⟩, prog_1_method_63_code, 1, (Option.some FieldType.int), 1, true, false, 10),
  (⟨"StoneSecrets", "mark", "(IZ)Z"⟩, prog_1_method_48_code, 3, (Option.some FieldType.boolean), 2, false, false, 10),
  (⟨"StoneSecrets$Past", "goBack", "(ILStoneSecrets$Wall;LStoneSecrets$Seen;)Z"⟩, prog_5_method_6_code, 4, (Option.some FieldType.boolean), 3, false, false, 3),
  (⟨"StoneSecrets$Seen", "copyFrom", "(LStoneSecrets$Seen;)V"⟩, prog_6_method_3_code, 2, (Option.none : Option FieldType), 1, false, false, 4),
  (⟨"StoneSecrets$Past", "layMark", "(ILStoneSecrets$Wall;LStoneSecrets$Seen;)V"⟩, prog_5_method_5_code, 4, (Option.none : Option FieldType), 3, false, false, 3),
  (⟨"StoneSecrets", "count", "(I)I"⟩, prog_1_method_49_code, 2, (Option.some FieldType.int), 1, false, false, 10),
  (⟨"StoneSecrets", "isDigit", "(I)Z"⟩, prog_1_method_60_code, 1, (Option.some FieldType.boolean), 1, true, false, 10),
  (⟨"StoneSecrets", "gain", "(IIIII)I"⟩, prog_1_method_59_code, 5, (Option.some FieldType.int), 5, true, false, 10),
  (⟨"StoneSecretsModel", "thrown", "()I"⟩, prog_13_method_1_code, 1, (Option.some FieldType.int), 0, false, false, 11),
  (⟨"StoneSecretsModel", "feed", "(JJJ)I"⟩, prog_13_method_2_code, 7, (Option.some FieldType.int), 3, false, false, 11),
  (⟨"StoneSecretsModel", "lay", "(J)V"⟩, prog_13_method_3_code, 5, (Option.none : Option FieldType), 1, false, false, 11)]
def am_nm_3 : List am_Y := [
  (⟨"StoneSecretsModel", "<init>", "()V"⟩, prog_13_method_4_code, 1, (Option.none : Option FieldType), 0, false, true, 11),
  (⟨"StoneSecretsModel", "standsAsAlways", "(I)V"⟩, prog_13_method_18_code, 3, (Option.none : Option FieldType), 1, false, false, 11),
  (⟨"StoneSecretsModel", "begins", "()V"⟩, prog_13_method_42_code, 2, (Option.none : Option FieldType), 0, false, false, 11),
  (⟨"StoneSecretsModel", "starts", "(I)V"⟩, prog_13_method_41_code, 3, (Option.none : Option FieldType), 1, false, false, 11),
  (⟨"StoneSecretsModel", "valley", "()I"⟩, prog_13_method_26_code, 2, (Option.some FieldType.int), 0, false, false, 11),
  (⟨"StoneSecretsModel", "cutAll", "()V"⟩, prog_13_method_9_code, 7, (Option.none : Option FieldType), 0, false, false, 11),
  (⟨"StoneSecretsModel", "isLetter", "(I)Z"⟩, prog_13_method_5_code, 1, (Option.some FieldType.boolean), 1, true, false, 11),
  (⟨"StoneSecretsModel", "rank", "(I)I"⟩, prog_13_method_7_code, 1, (Option.some FieldType.int), 1, true, false, 11),
  (⟨"StoneSecretsModel", "isDigit", "(I)Z"⟩, prog_13_method_6_code, 1, (Option.some FieldType.boolean), 1, true, false, 11),
  (⟨"StoneSecretsModel", "isSignOf", "(I)Z"⟩, prog_13_method_8_code, 1, (Option.some FieldType.boolean), 1, true, false, 11),
  (⟨"StoneSecretsModel", "readLine", "()V"⟩, prog_13_method_28_code, 4, (Option.none : Option FieldType), 0, false, false, 11),
  (⟨"StoneSecretsModel", "isWord", "(I)Z"⟩, prog_13_method_12_code, 2, (Option.some FieldType.boolean), 1, false, false, 11),
  (⟨"StoneSecretsModel", "readSoul", "()V"⟩, prog_13_method_30_code, 5, (Option.none : Option FieldType), 0, false, false, 11),
  (⟨"StoneSecretsModel", "wrong", "(I)V"⟩, prog_13_method_10_code, 2, (Option.none : Option FieldType), 1, false, false, 11),
  (⟨"StoneSecretsModel", "isName", "()Z"⟩, prog_13_method_23_code, 1, (Option.some FieldType.boolean), 0, false, false, 11),
  (⟨"StoneSecretsModel", "wordHere", "(II)I"⟩, prog_13_method_21_code, 5, (Option.some FieldType.int), 2, false, false, 11),
  (⟨"StoneSecretsModel", "nameAt", "(II)I"⟩, prog_13_method_24_code, 5, (Option.some FieldType.int), 2, false, false, 11),
  (⟨"StoneSecretsModel", "takeOne", "(II)I"⟩, prog_13_method_22_code, 4, (Option.some FieldType.int), 2, false, false, 11),
  (⟨"StoneSecretsModel", "takeAfter", "(III)I"⟩, prog_13_method_20_code, 4, (Option.some FieldType.int), 3, false, false, 11),
  (⟨"StoneSecretsModel", "takeWord", "(I)V"⟩, prog_13_method_16_code, 2, (Option.none : Option FieldType), 1, false, false, 11),
  (⟨"StoneSecretsModel", "hasWord", "(I)Z"⟩, prog_13_method_15_code, 3, (Option.some FieldType.boolean), 1, false, false, 11),
  (⟨"StoneSecretsModel", "takeNumber", "(II)I"⟩, prog_13_method_19_code, 3, (Option.some FieldType.int), 2, false, false, 11),
  (⟨"StoneSecretsModel", "takeTold", "(III)I"⟩, prog_13_method_25_code, 5, (Option.some FieldType.int), 3, false, false, 11),
  (⟨"StoneSecretsModel", "isOnce", "(I)Z"⟩, prog_13_method_27_code, 2, (Option.some FieldType.boolean), 1, false, false, 11),
  (⟨"StoneSecretsModel", "readFrosts", "()V"⟩, prog_13_method_29_code, 3, (Option.none : Option FieldType), 0, false, false, 11),
  (⟨"StoneSecretsModel", "whole", "(I)V"⟩, prog_13_method_33_code, 3, (Option.none : Option FieldType), 1, false, false, 11),
  (⟨"StoneSecretsModel", "test", "(I)V"⟩, prog_13_method_34_code, 3, (Option.none : Option FieldType), 1, false, false, 11),
  (⟨"StoneSecretsModel", "sums", "(I)V"⟩, prog_13_method_35_code, 3, (Option.none : Option FieldType), 1, false, false, 11),
  (⟨"StoneSecretsModel", "products", "(I)V"⟩, prog_13_method_36_code, 2, (Option.none : Option FieldType), 1, false, false, 11),
  (⟨"StoneSecretsModel", "takePart", "(I)V"⟩, prog_13_method_37_code, 4, (Option.none : Option FieldType), 1, false, false, 11),
  (⟨"StoneSecretsModel", "isSign", "(I)Z"⟩, prog_13_method_11_code, 2, (Option.some FieldType.boolean), 1, false, false, 11),
  (⟨"StoneSecretsModel", "emit", "(II)V"⟩, prog_13_method_32_code, 3, (Option.none : Option FieldType), 2, false, false, 11),
  (⟨"StoneSecretsModel", "hasSign", "(I)Z"⟩, prog_13_method_14_code, 3, (Option.some FieldType.boolean), 1, false, false, 11),
  (⟨"StoneSecretsModel", "takeSign", "(I)V"⟩, prog_13_method_13_code, 2, (Option.none : Option FieldType), 1, false, false, 11),
  (⟨"StoneSecretsModel", "year", "()I"⟩, prog_13_method_31_code, 4, (Option.some FieldType.int), 0, false, false, 11),
  (⟨"StoneSecretsModel", "souls", "()I"⟩, prog_13_method_45_code, 1, (Option.some FieldType.int), 0, false, false, 11),
  (⟨"StoneSecretsModel", "places", "()I"⟩, prog_13_method_44_code, 1, (Option.some FieldType.int), 0, false, false, 11),
  (⟨"StoneSecretsModel", "soul", "(II)I"⟩, prog_13_method_64_code, 3, (Option.some FieldType.int), 2, false, false, 11),
  (⟨"StoneSecretsModel", "isSoul", "(I)Z"⟩, prog_13_method_47_code, 2, (Option.some FieldType.boolean), 1, false, false, 11),
  (⟨"StoneSecretsModel", "within", "(III)Z"⟩, prog_13_method_17_code, 3, (Option.some FieldType.boolean), 3, true, false, 11),
  (⟨"StoneSecretsModel", "soulOf", "(II)I"⟩, prog_13_method_46_code, 3, (Option.some FieldType.int), 2, false, false, 11),
  (⟨"StoneSecretsModel", "weightOf", "(I)I"⟩, prog_13_method_50_code, 3, (Option.some FieldType.int), 1, false, false, 11),
  (⟨"StoneSecretsModel", "isNow", "(II)I"⟩, prog_13_method_52_code, 3, (Option.some FieldType.int), 2, false, false, 11),
  (⟨"StoneSecretsModel", "stands", "(I)I"⟩, prog_13_method_65_code, 2, (Option.some FieldType.int), 1, false, false, 11),
  (⟨"StoneSecretsModel", "isPlace", "(I)Z"⟩, prog_13_method_48_code, 2, (Option.some FieldType.boolean), 1, false, false, 11),
  (⟨"StoneSecretsModel", "whoAt", "(II)I"⟩, prog_13_method_54_code, 5, (Option.some FieldType.int), 2, false, false, 11),
  (⟨"StoneSecretsModel", "tell", "(I)Z"⟩, prog_13_method_66_code, 2, (Option.some FieldType.boolean), 1, false, false, 11),
  (⟨"StoneSecretsModel", "keeps", "()V"⟩, prog_13_method_43_code, 2, (Option.none : Option FieldType), 0, false, false, 11),
  (⟨"StoneSecretsModel", "copies", "(III)V"⟩, prog_13_method_40_code, 5, (Option.none : Option FieldType), 3, false, false, 11),
  (⟨"StoneSecretsModel", "leave", "(III)V"⟩, prog_13_method_59_code, 4, (Option.none : Option FieldType), 3, false, false, 11),
  (⟨"StoneSecretsModel", "sets", "(II)Z"⟩, prog_13_method_67_code, 3, (Option.some FieldType.boolean), 2, false, false, 11),
  (⟨"StoneSecretsModel", "isLoose", "(II)Z"⟩, prog_13_method_57_code, 3, (Option.some FieldType.boolean), 2, false, false, 11),
  (⟨"StoneSecretsModel", "mayStand", "(III)Z"⟩, prog_13_method_56_code, 4, (Option.some FieldType.boolean), 3, false, false, 11),
  (⟨"StoneSecretsModel", "besideOf", "(II)I"⟩, prog_13_method_55_code, 5, (Option.some FieldType.int), 2, false, false, 11),
  (⟨"StoneSecretsModel", "hurtBy", "(I)I"⟩, prog_13_method_51_code, 4, (Option.some FieldType.int), 1, false, false, 11),
  (⟨"StoneSecretsModel", "stand", "(III)V"⟩, prog_13_method_58_code, 4, (Option.none : Option FieldType), 3, false, false, 11),
  (⟨"StoneSecretsModel", "take", "(I)I"⟩, prog_13_method_68_code, 3, (Option.some FieldType.int), 1, false, false, 11),
  (⟨"StoneSecretsModel", "week", "()I"⟩, prog_13_method_69_code, 1, (Option.some FieldType.int), 0, false, false, 11),
  (⟨"StoneSecretsModel", "goes", "(I)I"⟩, prog_13_method_63_code, 2, (Option.some FieldType.int), 1, false, false, 11),
  (⟨"StoneSecretsModel", "frostAt", "(I)I"⟩, prog_13_method_60_code, 2, (Option.some FieldType.int), 1, false, false, 11)]
def am_nm_4 : List am_Y := [
  (⟨"StoneSecretsModel", "passes", "(II)I"⟩, prog_13_method_62_code, 6, (Option.some FieldType.int), 2, false, false, 11),
  (⟨"StoneSecretsModel", "doesFall", "(III)Z"⟩, prog_13_method_61_code, 4, (Option.some FieldType.boolean), 3, false, false, 11),
  (⟨"StoneSecretsModel", "bits", "(I)I"⟩, prog_13_method_49_code, 3, (Option.some FieldType.int), 1, true, false, 11),
  (⟨"StoneSecretsModel", "worthAt", "(I)I"⟩, prog_13_method_38_code, 5, (Option.some FieldType.int), 1, false, false, 11),
  (⟨"StoneSecretsModel", "worked", "(III)I"⟩, prog_13_method_39_code, 3, (Option.some FieldType.int), 3, true, false, 11),
  (⟨"StoneSecretsModel", "undo", "()Z"⟩, prog_13_method_70_code, 1, (Option.some FieldType.boolean), 0, false, false, 11),
  (⟨"StoneSecretsModel", "judged", "(I)I"⟩, prog_13_method_71_code, 9, (Option.some FieldType.int), 1, false, false, 11),
  (⟨"StoneSecretsModel", "who", "(II)I"⟩, prog_13_method_53_code, 5, (Option.some FieldType.int), 2, false, false, 11),
  (⟨"StoneSecretsModel", "may", "(I)I"⟩, prog_13_method_72_code, 4, (Option.some FieldType.int), 1, false, false, 11),
  (⟨"StoneSecretsModel", "falls", "(I)I"⟩, prog_13_method_75_code, 2, (Option.some FieldType.int), 1, false, false, 11),
  (⟨"StoneSecretsModel", "becomes", "(II)I"⟩, prog_13_method_74_code, 4, (Option.some FieldType.int), 2, false, false, 11),
  (⟨"StoneSecretsModel", "triesNow", "()V"⟩, prog_13_method_73_code, 1, (Option.none : Option FieldType), 0, false, false, 11),
  (⟨"StoneSecretsModel", "blurts", "(I)I"⟩, prog_13_method_76_code, 2, (Option.some FieldType.int), 1, false, false, 11),
  (⟨"StoneSecretsModel", "later", "(I)I"⟩, prog_13_method_77_code, 3, (Option.some FieldType.int), 1, false, false, 11),
  (⟨"StoneSecretsModel", "bare", "()I"⟩, prog_13_method_78_code, 2, (Option.some FieldType.int), 0, false, false, 11),
  (⟨"StoneSecretsModel", "first", "()I"⟩, prog_13_method_79_code, 4, (Option.some FieldType.int), 0, false, false, 11),
  (⟨"StoneSecretsModel", "least", "(I)I"⟩, prog_13_method_80_code, 3, (Option.some FieldType.int), 1, false, false, 11),
  (⟨"StoneSecretsModel", "ways", "()I"⟩, prog_13_method_87_code, 1, (Option.some FieldType.int), 0, false, false, 11),
  (⟨"StoneSecretsModel", "gathers", "(I)V"⟩, prog_13_method_81_code, 3, (Option.none : Option FieldType), 1, false, false, 11),
  (⟨"StoneSecretsModel", "lays", "(I)V"⟩, prog_13_method_82_code, 4, (Option.none : Option FieldType), 1, false, false, 11),
  (⟨"StoneSecretsModel", "tells", "()V"⟩, prog_13_method_86_code, 2, (Option.none : Option FieldType), 0, false, false, 11),
  (⟨"StoneSecretsModel", "leanNow", "()I"⟩, prog_13_method_85_code, 3, (Option.some FieldType.int), 0, false, false, 11),
  (⟨"StoneSecretsModel", "isAsSeen", "()Z"⟩, prog_13_method_84_code, 4, (Option.some FieldType.boolean), 0, false, false, 11),
  (⟨"StoneSecretsModel", "weightAt", "(I)I"⟩, prog_13_method_83_code, 3, (Option.some FieldType.int), 1, false, false, 11),
  (⟨"StoneSecretsModel", "way", "(II)I"⟩, prog_13_method_88_code, 3, (Option.some FieldType.int), 2, false, false, 11),
  (⟨"StoneSecretsModel", "times", "(II)I"⟩, prog_13_method_89_code, 3, (Option.some FieldType.int), 2, false, false, 11),
  (⟨"StoneSecretsModel", "sure", "(I)I"⟩, prog_13_method_90_code, 4, (Option.some FieldType.int), 1, false, false, 11),
  (⟨"StoneSecretsModel", "best", "(II)I"⟩, prog_13_method_91_code, 3, (Option.some FieldType.int), 2, false, false, 11),
  (⟨"StoneSecretsModel", "lean", "()I"⟩, prog_13_method_92_code, 1, (Option.some FieldType.int), 0, false, false, 11),
  (⟨"StoneSecretsModel", "even", "(I)I"⟩, prog_13_method_93_code, 2, (Option.some FieldType.int), 1, false, false, 11),
  (⟨"StoneSecretsModel", "fit", "()I"⟩, prog_13_method_94_code, 1, (Option.some FieldType.int), 0, false, false, 11),
  (⟨"StoneSecretsModel", "look", "()I"⟩, prog_13_method_95_code, 6, (Option.some FieldType.int), 0, false, false, 11),
  (⟨"StoneSecretsModel", "see", "(IIZ)Z"⟩, prog_13_method_96_code, 5, (Option.some FieldType.boolean), 3, false, false, 11),
  (⟨"StoneSecretsModel", "most", "()I"⟩, prog_13_method_99_code, 1, (Option.some FieldType.int), 0, false, false, 11),
  (⟨"StoneSecretsModel", "fullestNow", "()I"⟩, prog_13_method_98_code, 5, (Option.some FieldType.int), 0, false, false, 11),
  (⟨"StoneSecretsModel", "couldAll", "(II)Z"⟩, prog_13_method_97_code, 7, (Option.some FieldType.boolean), 2, false, false, 11),
  (⟨"StoneSecretsModel", "fullest", "()I"⟩, prog_13_method_100_code, 1, (Option.some FieldType.int), 0, false, false, 11),
  (⟨"StoneSecretsModel", "clear", "()I"⟩, prog_13_method_101_code, 6, (Option.some FieldType.int), 0, false, false, 11),
  (⟨"StoneSecretsModel", "grudges", "(I)I"⟩, prog_13_method_103_code, 2, (Option.some FieldType.int), 1, false, false, 11),
  (⟨"StoneSecretsModel", "colours", "()I"⟩, prog_13_method_106_code, 1, (Option.some FieldType.int), 0, false, false, 11),
  (⟨"StoneSecretsModel", "coloursNow", "()I"⟩, prog_13_method_105_code, 2, (Option.some FieldType.int), 0, false, false, 11),
  (⟨"StoneSecretsModel", "paints", "(II)Z"⟩, prog_13_method_104_code, 6, (Option.some FieldType.boolean), 2, false, false, 11),
  (⟨"StoneSecretsModel", "colour", "(I)I"⟩, prog_13_method_107_code, 2, (Option.some FieldType.int), 1, false, false, 11),
  (⟨"StoneSecretsModel", "feud", "()I"⟩, prog_13_method_109_code, 1, (Option.some FieldType.int), 0, false, false, 11),
  (⟨"StoneSecretsModel", "mostOf", "(Z)I"⟩, prog_13_method_108_code, 7, (Option.some FieldType.int), 1, false, false, 11),
  (⟨"StoneSecretsModel", "notOut", "()I"⟩, prog_13_method_102_code, 1, (Option.some FieldType.int), 0, false, false, 11),
  (⟨"StoneSecretsModel", "calm", "()I"⟩, prog_13_method_110_code, 1, (Option.some FieldType.int), 0, false, false, 11),
  (⟨"StoneSecretsModel", "load", "()I"⟩, prog_13_method_111_code, 3, (Option.some FieldType.int), 0, false, false, 11),
  (⟨"StoneSecretsModel", "gaps", "()I"⟩, prog_13_method_112_code, 3, (Option.some FieldType.int), 0, false, false, 11),
  (⟨"StoneSecretsModel", "widest", "()I"⟩, prog_13_method_113_code, 4, (Option.some FieldType.int), 0, false, false, 11),
  (⟨"StoneSecretsModel", "heavy", "()I"⟩, prog_13_method_114_code, 3, (Option.some FieldType.int), 0, false, false, 11),
  (⟨"StoneSecretsModel", "beside", "(I)I"⟩, prog_13_method_115_code, 2, (Option.some FieldType.int), 1, false, false, 11),
  (⟨"StoneSecretsModel", "swaps", "()I"⟩, prog_13_method_116_code, 6, (Option.some FieldType.int), 0, false, false, 11),
  (⟨"StoneSecretsModel", "like", "()I"⟩, prog_13_method_117_code, 4, (Option.some FieldType.int), 0, false, false, 11),
  (⟨"StoneSecretsModel", "chance", "(III)I"⟩, prog_13_method_118_code, 13, (Option.some FieldType.int), 3, false, false, 11),
  (⟨"StoneSecretsModel", "rests", "(IIII)I"⟩, prog_13_method_120_code, 12, (Option.some FieldType.int), 4, false, false, 11),
  (⟨"StoneSecretsModel", "getsBy", "(IIIII)I"⟩, prog_13_method_119_code, 5, (Option.some FieldType.int), 5, true, false, 11),
  (⟨"StoneSecretsModel", "centuries", "(III)I"⟩, prog_13_method_123_code, 6, (Option.some FieldType.int), 3, false, false, 11),
  (⟨"StoneSecretsModel", "drawsDeed", "()V"⟩, prog_13_method_122_code, 4, (Option.none : Option FieldType), 0, false, false, 11),
  (⟨"StoneSecretsModel", "draw", "(I)I"⟩, prog_13_method_121_code, 2, (Option.some FieldType.int), 1, false, false, 11)]
def am_nm_5 : List am_Y := [
  (⟨"StoneSecretsModel", "mark", "(IZ)Z"⟩, prog_13_method_124_code, 3, (Option.some FieldType.boolean), 2, false, false, 11),
  (⟨"StoneSecretsModel", "count", "(I)I"⟩, prog_13_method_125_code, 2, (Option.some FieldType.int), 1, false, false, 11)]
def am_nm : List am_Y := am_nm_0 ++ (am_nm_1 ++ (am_nm_2 ++ (am_nm_3 ++ (am_nm_4 ++ (am_nm_5)))))
def am_tb (i : Nat) : Option Cond := bif Nat.blt i 101 then (k2_sels lw_privs)[i]? else bif Nat.blt i 341 then tables_1_1[i - 101]? else bif Nat.blt i 581 then tables_1_2[i - 341]? else bif Nat.blt i 821 then tables_1_3[i - 581]? else bif Nat.blt i 1061 then tables_1_4[i - 821]? else bif Nat.blt i 1301 then tables_1_5[i - 1061]? else bif Nat.blt i 1541 then tables_1_6[i - 1301]? else bif Nat.blt i 1781 then tables_1_7[i - 1541]? else bif Nat.blt i 2021 then tables_1_8[i - 1781]? else none
def am_lkf : List (Nat × Nat × Nat × Nat) := [(10, 12, 10, 0), (10, 19, 10, 1), (10, 23, 10, 2), (10, 29, 10, 3), (10, 33, 10, 4), (10, 41, 10, 5), (10, 45, 10, 6), (10, 51, 10, 7), (10, 58, 10, 8), (10, 65, 10, 9), (10, 72, 10, 10), (10, 79, 10, 11), (10, 83, 10, 12), (5, 9, 5, 0), (6, 9, 6, 0), (6, 15, 6, 1), (6, 19, 6, 2), (6, 22, 6, 3), (6, 25, 6, 4), (6, 28, 6, 5), (6, 31, 6, 6), (6, 37, 6, 7), (2, 9, 2, 0), (2, 15, 2, 1), (9, 9, 9, 0), (9, 15, 9, 1), (9, 18, 9, 2), (7, 9, 7, 1), (7, 15, 7, 2), (7, 18, 7, 0), (3, 11, 3, 0), (3, 17, 3, 1), (3, 22, 3, 2), (4, 9, 4, 0), (4, 15, 4, 1), (8, 9, 8, 1), (8, 15, 8, 2), (8, 18, 8, 3), (8, 21, 8, 4), (8, 24, 8, 0), (1, 11, 1, 1), (1, 15, 1, 2), (1, 18, 1, 3), (1, 21, 1, 4), (1, 24, 1, 0), (0, 9, 0, 1), (0, 15, 0, 0), (10, 91, 5, 1), (5, 17, 5, 1), (10, 105, 5, 7), (10, 111, 9, 3), (10, 114, 4, 3), (5, 21, 5, 2), (5, 24, 5, 7), (5, 30, 5, 4), (5, 33, 5, 3), (5, 66, 5, 6), (5, 44, 5, 5), (6, 71, 5, 3), (6, 51, 6, 8), (6, 55, 6, 9), (6, 58, 6, 10), (6, 61, 6, 11), (6, 64, 6, 12), (2, 18, 2, 2), (6, 135, 5, 6), (6, 160, 5, 5), (2, 43, 5, 3), (2, 66, 5, 5), (2, 69, 5, 6), (7, 22, 7, 3), (3, 30, 3, 5), (3, 34, 3, 3), (9, 27, 9, 3), (9, 31, 5, 3), (9, 60, 6, 8), (10, 133, 6, 1), (10, 136, 6, 2), (10, 139, 6, 3), (10, 142, 6, 4), (10, 145, 7, 1), (10, 148, 7, 2), (7, 51, 6, 9), (3, 37, 3, 4), (7, 88, 6, 3), (10, 169, 7, 3), (10, 182, 9, 0), (10, 185, 9, 1), (10, 188, 9, 2), (10, 216, 1, 4), (1, 37, 1, 5), (1, 47, 6, 9), (10, 231, 6, 9), (8, 28, 8, 5), (8, 32, 8, 6), (10, 255, 8, 3), (0, 23, 6, 9), (0, 37, 6, 5), (10, 287, 0, 1), (10, 294, 6, 5), (10, 300, 6, 8), (4, 18, 4, 3), (4, 22, 4, 2), (10, 383, 8, 4), (8, 65, 6, 9), (8, 72, 6, 4), (10, 356, 6, 10), (10, 359, 3, 5), (11, 1, 11, 0), (11, 11, 11, 2), (11, 14, 11, 1), (11, 24, 11, 4), (11, 27, 11, 5), (11, 30, 11, 6), (11, 78, 11, 9), (11, 81, 11, 10), (11, 84, 11, 11), (11, 87, 11, 13), (11, 90, 11, 14), (11, 93, 11, 15), (11, 96, 11, 16), (11, 99, 11, 17), (11, 102, 11, 19), (11, 106, 11, 28), (11, 109, 11, 29), (11, 112, 11, 30), (11, 115, 11, 31), (11, 249, 11, 18), (11, 186, 11, 12), (11, 151, 11, 8), (11, 148, 11, 7), (11, 129, 11, 3), (11, 327, 11, 20), (11, 330, 11, 22), (11, 333, 11, 23), (11, 336, 11, 24), (11, 339, 11, 25), (11, 342, 11, 26), (11, 345, 11, 27), (11, 357, 11, 21), (11, 394, 11, 32)]
def am_lkm : List (Nat × Nat × Nat × Bool) := [(10, 11, 1, true), (10, 18, 2, true), (10, 28, 4, true), (10, 38, 5, false), (10, 50, 6, false), (10, 57, 7, true), (10, 64, 8, false), (10, 71, 9, false), (10, 78, 10, false), (6, 36, 3, true), (3, 26, 5, false), (3, 29, 7, true), (10, 87, 12, false), (10, 95, 14, false), (10, 98, 23, false), (10, 102, 53, false), (10, 108, 54, false), (10, 117, 56, false), (10, 120, 57, false), (5, 27, 15, false), (5, 47, 16, false), (5, 51, 17, false), (5, 54, 18, false), (5, 57, 20, false), (5, 60, 21, false), (5, 63, 22, false), (5, 70, 19, false), (6, 68, 24, false), (6, 76, 29, false), (6, 80, 38, false), (6, 84, 52, false), (6, 87, 25, false), (6, 93, 26, false), (2, 28, 27, false), (2, 31, 28, false), (6, 96, 30, false), (6, 99, 34, false), (6, 102, 40, false), (6, 105, 44, false), (6, 108, 46, false), (6, 111, 47, false), (6, 115, 31, false), (6, 118, 15, false), (6, 121, 32, false), (5, 40, 33, false), (5, 36, 31, false), (6, 125, 35, false), (6, 129, 37, false), (6, 132, 39, false), (6, 139, 36, false), (6, 143, 41, false), (6, 147, 42, false), (6, 150, 43, true), (6, 154, 45, false), (6, 157, 33, false), (6, 163, 27, false), (2, 35, 48, false), (2, 39, 47, false), (2, 48, 50, false), (2, 52, 51, false), (2, 55, 15, false), (2, 58, 49, false), (2, 62, 31, false), (6, 47, 55, false), (7, 26, 25, false), (10, 123, 59, false), (10, 126, 62, false), (9, 36, 60, false), (9, 40, 38, false), (9, 44, 61, false), (9, 48, 31, false), (9, 51, 15, false), (9, 54, 41, false), (9, 62, 32, false), (10, 129, 64, false), (10, 151, 65, false), (10, 197, 66, false), (10, 155, 68, false), (10, 158, 69, false), (10, 161, 71, false), (10, 362, 72, false), (10, 165, 80, false), (10, 365, 83, false), (7, 44, 73, false), (7, 48, 74, false), (7, 58, 68, false), (7, 61, 75, false), (7, 65, 43, true), (7, 38, 64, false), (6, 174, 76, false), (6, 178, 77, true), (6, 182, 78, false), (6, 170, 79, true), (3, 40, 81, false), (3, 44, 82, false), (7, 68, 84, false), (7, 71, 85, false), (7, 82, 86, false), (7, 85, 91, false), (7, 91, 77, true), (7, 95, 79, true), (7, 98, 66, false), (7, 103, 87, false), (6, 166, 88, false), (2, 81, 89, false), (2, 85, 90, false), (10, 172, 84, false), (10, 175, 85, false), (10, 178, 96, false), (10, 191, 98, false), (10, 194, 99, false), (7, 74, 72, false), (7, 78, 83, false), (10, 202, 74, false), (10, 205, 75, false), (10, 209, 73, false), (10, 213, 102, false), (10, 270, 103, false), (10, 274, 106, false), (1, 28, 82, false), (1, 34, 104, false), (1, 41, 84, false), (1, 50, 43, true), (1, 54, 105, false), (1, 58, 87, false), (1, 68, 25, false), (1, 74, 107, false), (1, 77, 108, false), (1, 81, 77, true), (1, 85, 79, true), (1, 88, 66, false), (10, 219, 91, false), (10, 222, 104, false), (10, 228, 111, false), (10, 233, 79, false), (10, 236, 77, false), (10, 240, 87, false), (10, 244, 116, false), (10, 248, 119, false), (10, 260, 117, false), (10, 368, 118, false), (7, 54, 99, false), (8, 36, 43, true), (8, 48, 120, false), (8, 53, 75, false), (10, 252, 122, false), (10, 256, 126, false), (10, 263, 127, false), (10, 266, 128, false), (8, 40, 118, false), (8, 44, 119, false), (10, 278, 133, false), (6, 186, 65, true), (6, 189, 134, false), (10, 281, 137, false), (10, 284, 138, false), (0, 19, 139, false), (0, 29, 43, true), (0, 33, 140, false), (10, 290, 143, false), (0, 40, 66, false), (0, 46, 127, true), (0, 49, 144, false), (10, 297, 76, false), (10, 302, 43, false), (10, 305, 81, false), (10, 307, 154, false), (10, 371, 78, false), (10, 310, 156, false), (10, 314, 158, false), (10, 374, 25, false), (10, 380, 159, false), (10, 386, 160, false), (8, 59, 25, false), (8, 68, 65, true), (4, 31, 43, true), (10, 317, 162, false), (10, 320, 164, false), (10, 324, 165, false), (10, 337, 167, false), (10, 341, 168, false), (10, 345, 169, false), (10, 348, 171, false), (10, 352, 173, false), (3, 53, 43, true), (3, 50, 172, false), (11, 7, 179, false), (11, 118, 181, false), (11, 122, 182, false), (11, 246, 183, false), (11, 183, 185, false), (11, 189, 190, false), (11, 192, 213, false), (11, 125, 186, false), (11, 134, 187, false), (11, 138, 188, false), (11, 145, 189, false), (11, 160, 191, false), (11, 195, 192, false), (11, 198, 202, false), (11, 202, 203, false), (11, 169, 201, false), (11, 205, 204, false), (11, 157, 193, false), (11, 208, 205, false), (11, 211, 211, false), (11, 176, 194, false), (11, 180, 196, false), (11, 215, 197, false), (11, 218, 198, false), (11, 173, 195, false), (11, 166, 199, false), (11, 163, 200, false), (11, 228, 206, false), (11, 231, 207, false), (11, 154, 210, false), (11, 234, 212, false), (11, 237, 208, false), (11, 240, 209, false), (11, 221, 215, false), (11, 225, 216, false), (11, 293, 218, false), (11, 296, 219, false), (11, 256, 220, false), (11, 271, 221, false), (11, 259, 222, false), (11, 299, 224, false), (11, 262, 225, false), (11, 302, 227, false), (11, 284, 229, false), (11, 252, 228, false), (11, 305, 231, false), (11, 309, 232, false), (11, 312, 235, false), (11, 265, 233, false), (11, 268, 234, false), (11, 315, 238, false), (11, 287, 239, false), (11, 290, 240, false), (11, 280, 241, false), (11, 274, 242, false), (11, 277, 243, false), (11, 243, 244, false), (11, 318, 247, false), (11, 324, 250, false), (11, 321, 251, false), (11, 366, 258, false), (11, 348, 259, false), (11, 351, 260, false), (11, 360, 261, false), (11, 363, 262, false), (11, 354, 263, false), (11, 372, 274, false), (11, 369, 275, false), (11, 378, 280, false), (11, 375, 281, false), (11, 384, 284, false), (11, 381, 285, false), (11, 390, 296, false), (11, 409, 298, false), (11, 406, 299, false), (12, 15, 0, false), (12, 18, 180, false), (12, 21, 11, false), (12, 25, 178, false), (12, 26, 13, false), (12, 30, 184, false), (12, 31, 58, false), (12, 34, 214, false), (12, 35, 63, false), (12, 39, 217, false), (12, 40, 67, false), (12, 44, 223, false), (12, 45, 70, false), (12, 49, 226, false), (12, 50, 92, false), (12, 54, 230, false), (12, 55, 93, false), (12, 58, 236, false), (12, 59, 94, false), (12, 62, 237, false), (12, 63, 95, false), (12, 67, 245, false), (12, 68, 97, false), (12, 71, 246, false), (12, 72, 100, false), (12, 75, 248, false), (12, 76, 101, false), (12, 79, 249, false), (12, 80, 109, false), (12, 83, 252, false), (12, 84, 110, false), (12, 87, 253, false), (12, 88, 112, false), (12, 91, 254, false), (12, 92, 113, false), (12, 95, 255, false), (12, 96, 114, false), (12, 99, 256, false), (12, 100, 115, false), (12, 103, 257, false), (12, 104, 121, false), (12, 107, 264, false), (12, 108, 123, false), (12, 111, 265, false), (12, 112, 124, false), (12, 115, 266, false), (12, 116, 125, false), (12, 119, 273, false), (12, 120, 129, false), (12, 123, 276, false), (12, 124, 130, false), (12, 127, 277, false), (12, 128, 131, false), (12, 131, 267, false), (12, 132, 132, false), (12, 135, 268, false), (12, 136, 135, false), (12, 139, 269, false), (12, 140, 136, false), (12, 143, 279, false), (12, 144, 141, false), (12, 147, 282, false), (12, 148, 142, false), (12, 151, 283, false), (12, 152, 145, false), (12, 155, 286, false), (12, 156, 146, false), (12, 159, 278, false), (12, 160, 147, false), (12, 163, 287, false), (12, 164, 148, false), (12, 167, 288, false), (12, 168, 149, false), (12, 171, 289, false), (12, 172, 150, false), (12, 175, 290, false), (12, 176, 151, false), (12, 179, 291, false), (12, 180, 152, false), (12, 183, 293, false), (12, 184, 153, false), (12, 187, 292, false), (12, 188, 155, false), (12, 192, 272, false), (12, 193, 157, false), (12, 196, 270, false), (12, 197, 161, false), (12, 200, 271, false), (12, 201, 163, false), (12, 205, 294, false), (12, 211, 295, false), (12, 212, 177, false), (12, 215, 166, false), (12, 218, 297, false), (12, 219, 170, false), (12, 223, 300, false), (12, 224, 174, false), (12, 227, 301, false)]
def am_lkc : List (Nat × Nat × Int32) := [(14, 265, 1431655765), (14, 266, 858993459), (14, 267, 252645135), (10, 247, 1000000), (8, 52, 1000000)]
def am_lkl : List (Nat × Nat × Int64) := [(5, 15, 255), (2, 73, 131277443786868), (2, 75, 1668246628), (2, 77, 108187867505765), (2, 79, 1684108389), (10, 390, 1103515245), (10, 392, 12345), (10, 394, 2147483648), (10, 396, 65536), (11, 34, 1166844), (11, 36, 983731), (11, 38, 1327082794), (11, 40, 6258), (11, 42, 16082402), (11, 44, 12177978), (11, 46, 11312510), (11, 48, 1172060), (11, 50, 1020361), (11, 52, 26216), (11, 54, 1014841), (11, 56, 30596128), (11, 58, 3318), (11, 60, 1143701655), (11, 62, 629041), (11, 64, 19741), (11, 66, 1891), (11, 68, 573), (11, 70, 1604747592), (11, 72, 172942), (11, 74, 149033600), (11, 76, 204726), (11, 132, 37), (11, 141, 10), (11, 143, 48), (11, 388, 1000000), (11, 398, 1103515245), (11, 400, 12345), (11, 402, 2147483648), (11, 404, 65536), (12, 19, 4294967295)]
def am_lkk : List (Nat × Nat × Nat) := [(10, 9, 5), (10, 16, 6), (10, 26, 9), (10, 36, 7), (10, 48, 3), (10, 55, 4), (10, 62, 8), (10, 69, 1), (10, 76, 0), (6, 34, 2), (3, 9, 7), (3, 20, 4), (12, 8, 10), (12, 16, 11)]
def am_lko : List (Nat × Nat) := [(10, 3), (5, 3), (6, 3), (2, 3), (9, 3), (7, 3), (3, 3), (4, 3), (8, 3), (1, 5), (0, 3), (11, 18)]
def am_lka : List (Nat × Nat) := [(6, 41), (2, 22), (9, 21), (7, 32), (1, 62), (4, 25)]
def am_wf (q : Nat × Nat × Nat × Nat) : Option Cond := (am_cl[q.2.2.1]?).map fun z => .fieldLink (am_own q.1) q.2.1 z.1 (z.2.1 q.2.2.2).2.1 (z.2.1 q.2.2.2).2.2.1
def am_wm (q : Nat × Nat × Nat × Bool) : Option Cond := (am_nm[q.2.2.1]?).map fun z => bif q.2.2.2 then .methodLinkNest (am_own q.1) q.2.1 z.1 "StoneSecrets" else .methodLink (am_own q.1) q.2.1 z.1
def am_wk (q : Nat × Nat × Nat) : Option Cond := (am_cl[q.2.2]?).map fun z => .classLink (am_own q.1) q.2.1 z.1
