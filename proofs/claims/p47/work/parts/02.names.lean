def RX0 : String := "TrainDescriber$Board"
def TX0 : u_T := fun k => match k with
  | 0 => ("TrainDescriber$Board", "names", "[I", true)
  | 1 => ("TrainDescriber$Board", "tracks", "I", false)
  | _ => ("TrainDescriber$Board", "signals", "I", false)
def tyX0 : Nat → FieldType := fun k => match k with
  | 0 => .array .int
  | 1 => .int
  | _ => .int
theorem nmX0 : ∀ a, a < 3 → ∀ b, b < 3 → a ≠ b → (TX0 a).2.1 ≠ (TX0 b).2.1 := by decide +kernel
theorem tyX0_ok : ∀ k, k < 3 → parseFieldDescriptor (TX0 k).2.2.1 = some (tyX0 k) := by decide +kernel
abbrev nfX0 : Nat := 3
def RX1 : String := "TrainDescriber$Links"
def TX1 : u_T := fun k => match k with
  | 0 => ("TrainDescriber$Links", "told", "I", false)
  | 1 => ("TrainDescriber$Links", "minutes", "[I", true)
  | 2 => ("TrainDescriber$Links", "shortest", "[I", true)
  | _ => ("TrainDescriber$Links", "measured", "Z", false)
def tyX1 : Nat → FieldType := fun k => match k with
  | 0 => .int
  | 1 => .array .int
  | 2 => .array .int
  | _ => .boolean
theorem nmX1 : ∀ a, a < 4 → ∀ b, b < 4 → a ≠ b → (TX1 a).2.1 ≠ (TX1 b).2.1 := by decide +kernel
theorem tyX1_ok : ∀ k, k < 4 → parseFieldDescriptor (TX1 k).2.2.1 = some (tyX1 k) := by decide +kernel
abbrev nfX1 : Nat := 4
def RX2 : String := "TrainDescriber$Mender"
def TX2 : u_T := fun k => match k with
  | 0 => ("TrainDescriber$Mender", "solved", "Z", false)
  | 1 => ("TrainDescriber$Mender", "slips", "I", false)
  | 2 => ("TrainDescriber$Mender", "mendings", "I", false)
  | 3 => ("TrainDescriber$Mender", "firstBest", "[I", true)
  | 4 => ("TrainDescriber$Mender", "inBest", "[I", true)
  | 5 => ("TrainDescriber$Mender", "fewest", "[I", true)
  | 6 => ("TrainDescriber$Mender", "ways", "[I", true)
  | 7 => ("TrainDescriber$Mender", "reached", "[Z", true)
  | 8 => ("TrainDescriber$Mender", "open", "[I", true)
  | 9 => ("TrainDescriber$Mender", "trains", "I", false)
  | 10 => ("TrainDescriber$Mender", "seen", "I", false)
  | _ => ("TrainDescriber$Mender", "told", "LTrainDescriber$Sightings;", false)
def tyX2 : Nat → FieldType := fun k => match k with
  | 0 => .boolean
  | 1 => .int
  | 2 => .int
  | 3 => .array .int
  | 4 => .array .int
  | 5 => .array .int
  | 6 => .array .int
  | 7 => .array .boolean
  | 8 => .array .int
  | 9 => .int
  | 10 => .int
  | _ => .object "TrainDescriber$Sightings"
theorem nmX2 : ∀ a, a < 12 → ∀ b, b < 12 → a ≠ b → (TX2 a).2.1 ≠ (TX2 b).2.1 := by decide +kernel
theorem tyX2_ok : ∀ k, k < 12 → parseFieldDescriptor (TX2 k).2.2.1 = some (tyX2 k) := by decide +kernel
abbrev nfX2 : Nat := 12
def RX3 : String := "TrainDescriber$Parser"
def TX3 : u_T := fun k => match k with
  | 0 => ("TrainDescriber$Parser", "draft", "LTrainDescriber$Rules;", true)
  | 1 => ("TrainDescriber$Parser", "starts", "[I", true)
  | 2 => ("TrainDescriber$Parser", "kinds", "[I", true)
  | 3 => ("TrainDescriber$Parser", "values", "[I", true)
  | 4 => ("TrainDescriber$Parser", "tokens", "I", false)
  | 5 => ("TrainDescriber$Parser", "here", "I", false)
  | _ => ("TrainDescriber$Parser", "plains", "I", false)
def tyX3 : Nat → FieldType := fun k => match k with
  | 0 => .object "TrainDescriber$Rules"
  | 1 => .array .int
  | 2 => .array .int
  | 3 => .array .int
  | 4 => .int
  | 5 => .int
  | _ => .int
theorem nmX3 : ∀ a, a < 7 → ∀ b, b < 7 → a ≠ b → (TX3 a).2.1 ≠ (TX3 b).2.1 := by decide +kernel
theorem tyX3_ok : ∀ k, k < 7 → parseFieldDescriptor (TX3 k).2.2.1 = some (tyX3 k) := by decide +kernel
abbrev nfX3 : Nat := 7
def RX4 : String := "TrainDescriber$Ring"
def TX4 : u_T := fun k => match k with
  | 0 => ("TrainDescriber$Ring", "capacity", "I", true)
  | 1 => ("TrainDescriber$Ring", "cells", "[I", true)
  | 2 => ("TrainDescriber$Ring", "next", "I", false)
  | _ => ("TrainDescriber$Ring", "total", "I", false)
def tyX4 : Nat → FieldType := fun k => match k with
  | 0 => .int
  | 1 => .array .int
  | 2 => .int
  | _ => .int
theorem nmX4 : ∀ a, a < 4 → ∀ b, b < 4 → a ≠ b → (TX4 a).2.1 ≠ (TX4 b).2.1 := by decide +kernel
theorem tyX4_ok : ∀ k, k < 4 → parseFieldDescriptor (TX4 k).2.2.1 = some (tyX4 k) := by decide +kernel
abbrev nfX4 : Nat := 4
def RX5 : String := "TrainDescriber$Rules"
def TX5 : u_T := fun k => match k with
  | 0 => ("TrainDescriber$Rules", "clauses", "I", false)
  | 1 => ("TrainDescriber$Rules", "from", "[I", true)
  | 2 => ("TrainDescriber$Rules", "to", "[I", true)
  | 3 => ("TrainDescriber$Rules", "firstItem", "[I", true)
  | 4 => ("TrainDescriber$Rules", "pastItem", "[I", true)
  | 5 => ("TrainDescriber$Rules", "items", "I", false)
  | 6 => ("TrainDescriber$Rules", "code", "[I", true)
  | _ => ("TrainDescriber$Rules", "calledBy", "[I", true)
def tyX5 : Nat → FieldType := fun k => match k with
  | 0 => .int
  | 1 => .array .int
  | 2 => .array .int
  | 3 => .array .int
  | 4 => .array .int
  | 5 => .int
  | 6 => .array .int
  | _ => .array .int
theorem nmX5 : ∀ a, a < 8 → ∀ b, b < 8 → a ≠ b → (TX5 a).2.1 ≠ (TX5 b).2.1 := by decide +kernel
theorem tyX5_ok : ∀ k, k < 8 → parseFieldDescriptor (TX5 k).2.2.1 = some (tyX5 k) := by decide +kernel
abbrev nfX5 : Nat := 8
def RX6 : String := "TrainDescriber$Sightings"
def TX6 : u_T := fun k => match k with
  | 0 => ("TrainDescriber$Sightings", "trains", "I", false)
  | 1 => ("TrainDescriber$Sightings", "trainName", "[I", true)
  | 2 => ("TrainDescriber$Sightings", "startBerth", "[I", true)
  | 3 => ("TrainDescriber$Sightings", "startMinute", "[I", true)
  | 4 => ("TrainDescriber$Sightings", "seen", "I", false)
  | 5 => ("TrainDescriber$Sightings", "minutes", "[I", true)
  | 6 => ("TrainDescriber$Sightings", "berths", "[I", true)
  | _ => ("TrainDescriber$Sightings", "names", "[I", true)
def tyX6 : Nat → FieldType := fun k => match k with
  | 0 => .int
  | 1 => .array .int
  | 2 => .array .int
  | 3 => .array .int
  | 4 => .int
  | 5 => .array .int
  | 6 => .array .int
  | _ => .array .int
theorem nmX6 : ∀ a, a < 8 → ∀ b, b < 8 → a ≠ b → (TX6 a).2.1 ≠ (TX6 b).2.1 := by decide +kernel
theorem tyX6_ok : ∀ k, k < 8 → parseFieldDescriptor (TX6 k).2.2.1 = some (tyX6 k) := by decide +kernel
abbrev nfX6 : Nat := 8
def RX7 : String := "TrainDescriber$State"
def TX7 : u_T := fun k => match k with
  | 0 => ("TrainDescriber$State", "board", "LTrainDescriber$Board;", true)
  | 1 => ("TrainDescriber$State", "setZero", "LTrainDescriber$Rules;", true)
  | 2 => ("TrainDescriber$State", "setOne", "LTrainDescriber$Rules;", true)
  | 3 => ("TrainDescriber$State", "using", "I", false)
  | 4 => ("TrainDescriber$State", "minute", "I", false)
  | 5 => ("TrainDescriber$State", "repeated", "I", false)
  | 6 => ("TrainDescriber$State", "log", "LTrainDescriber$Ring;", true)
  | 7 => ("TrainDescriber$State", "events", "LTrainDescriber$Ring;", true)
  | 8 => ("TrainDescriber$State", "changed", "[I", true)
  | 9 => ("TrainDescriber$State", "lying", "[I", true)
  | 10 => ("TrainDescriber$State", "badBits", "[I", true)
  | 11 => ("TrainDescriber$State", "stationAt", "[I", true)
  | 12 => ("TrainDescriber$State", "splitFrom", "[I", true)
  | 13 => ("TrainDescriber$State", "joinedTo", "[I", true)
  | 14 => ("TrainDescriber$State", "clocks", "[I", true)
  | 15 => ("TrainDescriber$State", "codes", "[I", true)
  | 16 => ("TrainDescriber$State", "works", "LTrainDescriber$Works;", true)
  | 17 => ("TrainDescriber$State", "links", "LTrainDescriber$Links;", true)
  | 18 => ("TrainDescriber$State", "sightings", "LTrainDescriber$Sightings;", true)
  | _ => ("TrainDescriber$State", "timetable", "LTrainDescriber$Timetable;", true)
def tyX7 : Nat → FieldType := fun k => match k with
  | 0 => .object "TrainDescriber$Board"
  | 1 => .object "TrainDescriber$Rules"
  | 2 => .object "TrainDescriber$Rules"
  | 3 => .int
  | 4 => .int
  | 5 => .int
  | 6 => .object "TrainDescriber$Ring"
  | 7 => .object "TrainDescriber$Ring"
  | 8 => .array .int
  | 9 => .array .int
  | 10 => .array .int
  | 11 => .array .int
  | 12 => .array .int
  | 13 => .array .int
  | 14 => .array .int
  | 15 => .array .int
  | 16 => .object "TrainDescriber$Works"
  | 17 => .object "TrainDescriber$Links"
  | 18 => .object "TrainDescriber$Sightings"
  | _ => .object "TrainDescriber$Timetable"
theorem nmX7 : ∀ a, a < 20 → ∀ b, b < 20 → a ≠ b → (TX7 a).2.1 ≠ (TX7 b).2.1 := by decide +kernel
theorem tyX7_ok : ∀ k, k < 20 → parseFieldDescriptor (TX7 k).2.2.1 = some (tyX7 k) := by decide +kernel
abbrev nfX7 : Nat := 20
def RX8 : String := "TrainDescriber$Timetable"
def TX8 : u_T := fun k => match k with
  | 0 => ("TrainDescriber$Timetable", "rows", "I", false)
  | 1 => ("TrainDescriber$Timetable", "names", "[I", true)
  | 2 => ("TrainDescriber$Timetable", "berths", "[I", true)
  | 3 => ("TrainDescriber$Timetable", "minutes", "[I", true)
  | _ => ("TrainDescriber$Timetable", "chosen", "[Z", true)
def tyX8 : Nat → FieldType := fun k => match k with
  | 0 => .int
  | 1 => .array .int
  | 2 => .array .int
  | 3 => .array .int
  | _ => .array .boolean
theorem nmX8 : ∀ a, a < 5 → ∀ b, b < 5 → a ≠ b → (TX8 a).2.1 ≠ (TX8 b).2.1 := by decide +kernel
theorem tyX8_ok : ∀ k, k < 5 → parseFieldDescriptor (TX8 k).2.2.1 = some (tyX8 k) := by decide +kernel
abbrev nfX8 : Nat := 5
def RX9 : String := "TrainDescriber$Trial"
def TX9 : u_T := fun k => match k with
  | 0 => ("TrainDescriber$Trial", "verdict", "[I", true)
  | 1 => ("TrainDescriber$Trial", "tally", "[I", true)
  | 2 => ("TrainDescriber$Trial", "pairTally", "[I", true)
  | 3 => ("TrainDescriber$Trial", "last", "[I", true)
  | 4 => ("TrainDescriber$Trial", "apart", "[I", true)
  | 5 => ("TrainDescriber$Trial", "swapped", "[Z", true)
  | 6 => ("TrainDescriber$Trial", "keys", "[I", true)
  | 7 => ("TrainDescriber$Trial", "events", "I", false)
  | 8 => ("TrainDescriber$Trial", "rules", "LTrainDescriber$Rules;", true)
  | 9 => ("TrainDescriber$Trial", "namesAhead", "[I", true)
  | 10 => ("TrainDescriber$Trial", "tracksAhead", "[I", true)
  | 11 => ("TrainDescriber$Trial", "board", "LTrainDescriber$Board;", true)
  | 12 => ("TrainDescriber$Trial", "second", "LTrainDescriber$Board;", true)
  | 13 => ("TrainDescriber$Trial", "paired", "Z", false)
  | _ => ("TrainDescriber$Trial", "watched", "I", false)
def tyX9 : Nat → FieldType := fun k => match k with
  | 0 => .array .int
  | 1 => .array .int
  | 2 => .array .int
  | 3 => .array .int
  | 4 => .array .int
  | 5 => .array .boolean
  | 6 => .array .int
  | 7 => .int
  | 8 => .object "TrainDescriber$Rules"
  | 9 => .array .int
  | 10 => .array .int
  | 11 => .object "TrainDescriber$Board"
  | 12 => .object "TrainDescriber$Board"
  | 13 => .boolean
  | _ => .int
theorem nmX9 : ∀ a, a < 15 → ∀ b, b < 15 → a ≠ b → (TX9 a).2.1 ≠ (TX9 b).2.1 := by decide +kernel
theorem tyX9_ok : ∀ k, k < 15 → parseFieldDescriptor (TX9 k).2.2.1 = some (tyX9 k) := by decide +kernel
abbrev nfX9 : Nat := 15
def RX10 : String := "TrainDescriber$Works"
def TX10 : u_T := fun k => match k with
  | 0 => ("TrainDescriber$Works", "told", "I", false)
  | 1 => ("TrainDescriber$Works", "trespasses", "I", false)
  | 2 => ("TrainDescriber$Works", "berths", "[I", true)
  | 3 => ("TrainDescriber$Works", "froms", "[I", true)
  | _ => ("TrainDescriber$Works", "tos", "[I", true)
def tyX10 : Nat → FieldType := fun k => match k with
  | 0 => .int
  | 1 => .int
  | 2 => .array .int
  | 3 => .array .int
  | _ => .array .int
theorem nmX10 : ∀ a, a < 5 → ∀ b, b < 5 → a ≠ b → (TX10 a).2.1 ≠ (TX10 b).2.1 := by decide +kernel
theorem tyX10_ok : ∀ k, k < 5 → parseFieldDescriptor (TX10 k).2.2.1 = some (tyX10 k) := by decide +kernel
abbrev nfX10 : Nat := 5
def RX11 : String := "TrainDescriber"
def TX11 : u_T := fun k => match k with
  | 0 => ("TrainDescriber", "now", "LTrainDescriber$State;", true)
  | 1 => ("TrainDescriber", "imageZero", "LTrainDescriber$State;", false)
  | 2 => ("TrainDescriber", "imageOne", "LTrainDescriber$State;", false)
  | 3 => ("TrainDescriber", "tape", "[I", true)
  | 4 => ("TrainDescriber", "taped", "I", false)
  | 5 => ("TrainDescriber", "parser", "LTrainDescriber$Parser;", true)
  | 6 => ("TrainDescriber", "faultPlace", "I", false)
  | 7 => ("TrainDescriber", "refusedBy", "I", false)
  | 8 => ("TrainDescriber", "row", "[I", true)
  | 9 => ("TrainDescriber", "own", "LTrainDescriber$Trial;", false)
  | 10 => ("TrainDescriber", "others", "LTrainDescriber$Trial;", false)
  | _ => ("TrainDescriber", "mender", "LTrainDescriber$Mender;", false)
def tyX11 : Nat → FieldType := fun k => match k with
  | 0 => .object "TrainDescriber$State"
  | 1 => .object "TrainDescriber$State"
  | 2 => .object "TrainDescriber$State"
  | 3 => .array .int
  | 4 => .int
  | 5 => .object "TrainDescriber$Parser"
  | 6 => .int
  | 7 => .int
  | 8 => .array .int
  | 9 => .object "TrainDescriber$Trial"
  | 10 => .object "TrainDescriber$Trial"
  | _ => .object "TrainDescriber$Mender"
theorem nmX11 : ∀ a, a < 12 → ∀ b, b < 12 → a ≠ b → (TX11 a).2.1 ≠ (TX11 b).2.1 := by decide +kernel
theorem tyX11_ok : ∀ k, k < 12 → parseFieldDescriptor (TX11 k).2.2.1 = some (tyX11 k) := by decide +kernel
abbrev nfX11 : Nat := 12
def RX12 : String := "TrainDescriberModel"
def TX12 : u_T := fun k => match k with
  | 0 => ("TrainDescriberModel", "thrown", "I", false)
  | 1 => ("TrainDescriberModel", "status", "I", false)
  | 2 => ("TrainDescriberModel", "row", "[I", true)
  | 3 => ("TrainDescriberModel", "images", "[I", true)
  | 4 => ("TrainDescriberModel", "isKept", "[Z", true)
  | 5 => ("TrainDescriberModel", "tape", "[I", true)
  | 6 => ("TrainDescriberModel", "taped", "I", false)
  | 7 => ("TrainDescriberModel", "from", "I", false)
  | 8 => ("TrainDescriberModel", "to", "I", false)
  | 9 => ("TrainDescriberModel", "sort", "I", false)
  | 10 => ("TrainDescriberModel", "worth", "J", false)
  | 11 => ("TrainDescriberModel", "fault", "I", false)
  | 12 => ("TrainDescriberModel", "bad", "Z", false)
  | 13 => ("TrainDescriberModel", "nClauses", "I", false)
  | 14 => ("TrainDescriberModel", "nClause", "[I", true)
  | 15 => ("TrainDescriberModel", "nCode", "I", false)
  | 16 => ("TrainDescriberModel", "nOp", "[I", true)
  | 17 => ("TrainDescriberModel", "nArg", "[I", true)
  | 18 => ("TrainDescriberModel", "nLeaves", "I", false)
  | 19 => ("TrainDescriberModel", "pile", "[I", true)
  | 20 => ("TrainDescriberModel", "piled", "I", false)
  | 21 => ("TrainDescriberModel", "opened", "I", false)
  | 22 => ("TrainDescriberModel", "name", "[I", true)
  | 23 => ("TrainDescriberModel", "busy", "[I", true)
  | 24 => ("TrainDescriberModel", "so", "[Z", true)
  | 25 => ("TrainDescriberModel", "by", "I", false)
  | 26 => ("TrainDescriberModel", "events", "I", false)
  | 27 => ("TrainDescriberModel", "track", "[I", true)
  | 28 => ("TrainDescriberModel", "drops", "[I", true)
  | 29 => ("TrainDescriberModel", "ranFor", "I", false)
  | 30 => ("TrainDescriberModel", "ended", "[I", true)
  | 31 => ("TrainDescriberModel", "end", "[I", true)
  | 32 => ("TrainDescriberModel", "became", "[I", true)
  | 33 => ("TrainDescriberModel", "unlike", "[I", true)
  | 34 => ("TrainDescriberModel", "swapped", "[Z", true)
  | 35 => ("TrainDescriberModel", "twos", "[I", true)
  | 36 => ("TrainDescriberModel", "tally", "[I", true)
  | 37 => ("TrainDescriberModel", "way", "[I", true)
  | 38 => ("TrainDescriberModel", "slips", "[I", true)
  | 39 => ("TrainDescriberModel", "ways", "[I", true)
  | 40 => ("TrainDescriberModel", "comes", "[Z", true)
  | _ => ("TrainDescriberModel", "goes", "[Z", true)
def tyX12 : Nat → FieldType := fun k => match k with
  | 0 => .int
  | 1 => .int
  | 2 => .array .int
  | 3 => .array .int
  | 4 => .array .boolean
  | 5 => .array .int
  | 6 => .int
  | 7 => .int
  | 8 => .int
  | 9 => .int
  | 10 => .long
  | 11 => .int
  | 12 => .boolean
  | 13 => .int
  | 14 => .array .int
  | 15 => .int
  | 16 => .array .int
  | 17 => .array .int
  | 18 => .int
  | 19 => .array .int
  | 20 => .int
  | 21 => .int
  | 22 => .array .int
  | 23 => .array .int
  | 24 => .array .boolean
  | 25 => .int
  | 26 => .int
  | 27 => .array .int
  | 28 => .array .int
  | 29 => .int
  | 30 => .array .int
  | 31 => .array .int
  | 32 => .array .int
  | 33 => .array .int
  | 34 => .array .boolean
  | 35 => .array .int
  | 36 => .array .int
  | 37 => .array .int
  | 38 => .array .int
  | 39 => .array .int
  | 40 => .array .boolean
  | _ => .array .boolean
theorem nmX12 : ∀ a, a < 42 → ∀ b, b < 42 → a ≠ b → (TX12 a).2.1 ≠ (TX12 b).2.1 := by decide +kernel
theorem tyX12_ok : ∀ k, k < 42 → parseFieldDescriptor (TX12 k).2.2.1 = some (tyX12 k) := by decide +kernel
abbrev nfX12 : Nat := 42
abbrev jcl : List vw_C := [(RX0, TX0, nfX0), (RX1, TX1, nfX1), (RX2, TX2, nfX2), (RX3, TX3, nfX3), (RX4, TX4, nfX4), (RX5, TX5, nfX5), (RX6, TX6, nfX6), (RX7, TX7, nfX7), (RX8, TX8, nfX8), (RX9, TX9, nfX9), (RX10, TX10, nfX10), (RX11, TX11, nfX11), (RX12, TX12, nfX12)]
def jcL : List String := ["TrainDescriber$Board", "TrainDescriber$Links", "TrainDescriber$Mender", "TrainDescriber$Parser", "TrainDescriber$Ring", "TrainDescriber$Rules", "TrainDescriber$Sightings", "TrainDescriber$State", "TrainDescriber$Timetable", "TrainDescriber$Trial", "TrainDescriber$Works", "TrainDescriber", "TrainDescriberModel", "TrainDescriberLaw", "java/lang/Integer", "java/lang/Math", "java/lang/String", "java/lang/StringLatin1", "java/util/Arrays", "java/lang/System", "jdk/internal/util/Preconditions", "java/lang/StringUTF16", "java/lang/Object"]
def jcN (k : Nat) : String := jcL.getD k ""
def jyL_0 : List MethodName := [⟨"TrainDescriber", "<init>", "()V"⟩, ⟨"java/lang/Object", "<init>", "()V"⟩, ⟨"TrainDescriber$State", "<init>", "()V"⟩, ⟨"TrainDescriber$Board", "<init>", "()V"⟩, ⟨"TrainDescriber$Rules", "<init>", "()V"⟩, ⟨"TrainDescriber$Ring", "<init>", "(I)V"⟩, ⟨"java/lang/Math", "max", "(II)I"⟩, ⟨"TrainDescriber$Works", "<init>", "()V"⟩, ⟨"TrainDescriber$Links", "<init>", "()V"⟩, ⟨"java/util/Arrays", "fill", "([II)V"⟩, ⟨"TrainDescriber$Sightings", "<init>", "()V"⟩, ⟨"TrainDescriber$Timetable", "<init>", "()V"⟩, ⟨"TrainDescriber$Parser", "<init>", "()V"⟩, ⟨"TrainDescriber", "lies", "(II)I"⟩, ⟨"TrainDescriber", "isBerth", "(I)Z"⟩, ⟨"TrainDescriber", "isTrack", "(I)Z"⟩, ⟨"TrainDescriber", "refuse", "(I)I"⟩, ⟨"TrainDescriber", "allow", "(I)I"⟩, ⟨"TrainDescriber", "signal", "(II)I"⟩, ⟨"TrainDescriber", "isFlag", "(I)Z"⟩, ⟨"TrainDescriber", "event", "(III)I"⟩, ⟨"TrainDescriber", "isMinute", "(I)Z"⟩, ⟨"TrainDescriber$State", "happen", "(II)I"⟩, ⟨"TrainDescriber$Board", "isAlready", "(II)Z"⟩, ⟨"TrainDescriber$Ring", "add", "(IIIII)V"⟩, ⟨"TrainDescriber$State", "rulesOf", "(I)LTrainDescriber$Rules;"⟩, ⟨"TrainDescriber$Rules", "key", "(II)I"⟩, ⟨"TrainDescriber$Board", "play", "(LTrainDescriber$Rules;ILTrainDescriber$State;)I"⟩, ⟨"TrainDescriber$Rules", "holds", "(ILTrainDescriber$Board;)Z"⟩, ⟨"TrainDescriber$Board", "obey", "(IILTrainDescriber$State;)I"⟩, ⟨"TrainDescriber$State", "note", "(IIII)V"⟩, ⟨"TrainDescriber$State", "comes", "(I)Z"⟩, ⟨"TrainDescriber$Works", "shut", "(II)Z"⟩, ⟨"TrainDescriber", "interpose", "(III)I"⟩, ⟨"TrainDescriber", "isName", "(I)Z"⟩, ⟨"TrainDescriber$State", "put", "(II)I"⟩, ⟨"TrainDescriber", "cancel", "(II)I"⟩, ⟨"TrainDescriber", "split", "(IIII)I"⟩, ⟨"TrainDescriber", "join", "(III)I"⟩, ⟨"TrainDescriber", "kin", "(II)I"⟩, ⟨"TrainDescriber", "work", "(III)I"⟩, ⟨"TrainDescriber$Works", "add", "(III)Z"⟩, ⟨"TrainDescriber", "closed", "(II)I"⟩, ⟨"TrainDescriber", "berth", "(II)I"⟩, ⟨"TrainDescriber", "track", "(I)I"⟩, ⟨"TrainDescriber", "since", "(I)I"⟩, ⟨"TrainDescriber", "came", "(II)I"⟩, ⟨"TrainDescriber$Ring", "get", "(II)I"⟩, ⟨"TrainDescriber$Ring", "size", "()I"⟩, ⟨"java/lang/Math", "min", "(II)I"⟩, ⟨"TrainDescriber", "held", "(III)I"⟩, ⟨"TrainDescriber$State", "heldTracks", "(II)I"⟩, ⟨"java/lang/Integer", "bitCount", "(I)I"⟩, ⟨"TrainDescriber", "log", "(II)I"⟩, ⟨"TrainDescriber", "feed", "(IIIII)I"⟩, ⟨"TrainDescriber", "putBytes", "(I)V"⟩, ⟨"TrainDescriber", "end", "(I)I"⟩, ⟨"TrainDescriber", "use", "(I)I"⟩, ⟨"TrainDescriber", "rules", "()I"⟩, ⟨"TrainDescriber$Parser", "reads", "([II)Z"⟩]
def jyL_1 : List MethodName := [⟨"TrainDescriber$Parser", "tokenize", "([II)V"⟩, ⟨"TrainDescriber$Parser", "sortOf", "(I)I"⟩, ⟨"TrainDescriber$Parser", "wordKind", "([III)I"⟩, ⟨"TrainDescriber$Parser", "spells", "(Ljava/lang/String;[III)Z"⟩, ⟨"java/lang/String", "length", "()I"⟩, ⟨"java/lang/String", "coder", "()B"⟩, ⟨"java/lang/String", "charAt", "(I)C"⟩, ⟨"java/lang/String", "isLatin1", "()Z"⟩, ⟨"java/lang/StringLatin1", "charAt", "([BI)C"⟩, ⟨"java/lang/String", "checkIndex", "(II)V"⟩, ⟨"jdk/internal/util/Preconditions", "checkIndex", "(IILjava/util/function/BiFunction;)I"⟩, ⟨"java/lang/StringUTF16", "charAt", "([BI)C"⟩, ⟨"java/lang/StringUTF16", "checkIndex", "(I[B)V"⟩, ⟨"java/lang/StringUTF16", "length", "([B)I"⟩, ⟨"java/lang/StringUTF16", "getChar", "([BI)C"⟩, ⟨"TrainDescriber$Parser", "testWordKind", "([III)I"⟩, ⟨"TrainDescriber$Parser", "addToken", "(III)V"⟩, ⟨"TrainDescriber$Parser", "valueOf", "([III)I"⟩, ⟨"TrainDescriber$Parser", "signKind", "(I)I"⟩, ⟨"TrainDescriber$Rules", "wipe", "()V"⟩, ⟨"TrainDescriber$Parser", "clause", "()Z"⟩, ⟨"TrainDescriber$Parser", "take", "(I)Z"⟩, ⟨"TrainDescriber$Parser", "number", "(I)I"⟩, ⟨"TrainDescriber$Parser", "either", "(I)Z"⟩, ⟨"TrainDescriber$Parser", "both", "(I)Z"⟩, ⟨"TrainDescriber$Parser", "plain", "(I)Z"⟩, ⟨"TrainDescriber$Parser", "bracket", "(I)Z"⟩, ⟨"TrainDescriber$Parser", "leaf", "()Z"⟩, ⟨"TrainDescriber$Rules", "addItem", "(II)V"⟩, ⟨"TrainDescriber$Rules", "addClause", "(IIII)V"⟩, ⟨"TrainDescriber$Parser", "place", "()I"⟩, ⟨"TrainDescriber$Rules", "copyFrom", "(LTrainDescriber$Rules;)V"⟩, ⟨"TrainDescriber$State", "copyRow", "([I[I)V"⟩, ⟨"TrainDescriber", "fault", "()I"⟩, ⟨"TrainDescriber", "run", "()I"⟩, ⟨"TrainDescriber", "readRow", "()I"⟩, ⟨"TrainDescriber$Trial", "<init>", "()V"⟩, ⟨"TrainDescriber$Trial", "begin", "(LTrainDescriber$Board;LTrainDescriber$Rules;[II)V"⟩, ⟨"TrainDescriber$Board", "copyFrom", "(LTrainDescriber$Board;)V"⟩, ⟨"TrainDescriber$Trial", "judgeAll", "()V"⟩, ⟨"TrainDescriber$Trial", "faults", "()I"⟩, ⟨"TrainDescriber$Trial", "playFault", "(II)V"⟩, ⟨"TrainDescriber$Trial", "standAhead", "(I)V"⟩, ⟨"TrainDescriber$Trial", "playFrom", "(LTrainDescriber$Board;I)V"⟩, ⟨"TrainDescriber$Trial", "contrary", "(I)I"⟩, ⟨"TrainDescriber$Trial", "differing", "([I)I"⟩, ⟨"TrainDescriber$Trial", "judge", "([II)I"⟩, ⟨"TrainDescriber$Trial", "strike", "(II)I"⟩, ⟨"TrainDescriber$Trial", "isSwap", "(I)Z"⟩, ⟨"TrainDescriber", "ends", "(I)I"⟩, ⟨"TrainDescriber", "proof", "(I)I"⟩, ⟨"TrainDescriber$Trial", "firstBroken", "()I"⟩, ⟨"TrainDescriber", "fails", "(II)I"⟩, ⟨"TrainDescriber$Trial", "hasFault", "(II)Z"⟩, ⟨"TrainDescriber", "swaps", "(II)I"⟩, ⟨"TrainDescriber$Trial", "swapAt", "(I)I"⟩, ⟨"TrainDescriber", "two", "(I)I"⟩, ⟨"TrainDescriber$Trial", "provePairs", "()V"⟩, ⟨"TrainDescriber$Trial", "countPair", "(II)V"⟩, ⟨"TrainDescriber", "watch", "()I"⟩]
def jyL_2 : List MethodName := [⟨"TrainDescriber$Trial", "fewestWatched", "()I"⟩, ⟨"TrainDescriber$Trial", "showsAll", "(I)Z"⟩, ⟨"TrainDescriber", "other", "(I)I"⟩, ⟨"TrainDescriber$Trial", "lostAlone", "(LTrainDescriber$Trial;)I"⟩, ⟨"TrainDescriber$Trial", "endsLike", "(LTrainDescriber$Trial;)Z"⟩, ⟨"TrainDescriber", "link", "(III)I"⟩, ⟨"TrainDescriber$Links", "add", "(III)Z"⟩, ⟨"TrainDescriber", "forgetMending", "()V"⟩, ⟨"TrainDescriber", "train", "(I)I"⟩, ⟨"TrainDescriber$Sightings", "addTrain", "(I)I"⟩, ⟨"TrainDescriber", "start", "(III)I"⟩, ⟨"TrainDescriber", "see", "(III)I"⟩, ⟨"TrainDescriber$Sightings", "latestMinute", "()I"⟩, ⟨"TrainDescriber$Sightings", "addSeen", "(III)I"⟩, ⟨"TrainDescriber", "mend", "(I)I"⟩, ⟨"TrainDescriber", "solvedMender", "()LTrainDescriber$Mender;"⟩, ⟨"TrainDescriber$Mender", "<init>", "()V"⟩, ⟨"TrainDescriber$Mender", "solve", "(LTrainDescriber$Sightings;LTrainDescriber$Links;)V"⟩, ⟨"TrainDescriber$Mender", "markOpen", "(LTrainDescriber$Links;)V"⟩, ⟨"TrainDescriber$Mender", "canStart", "(IILTrainDescriber$Links;)Z"⟩, ⟨"TrainDescriber$Links", "fewest", "(II)I"⟩, ⟨"TrainDescriber$Links", "measure", "()V"⟩, ⟨"TrainDescriber$Links", "shortenBy", "(II)V"⟩, ⟨"TrainDescriber$Mender", "goThrough", "(IZ)V"⟩, ⟨"TrainDescriber$Mender", "weigh", "(IIII)V"⟩, ⟨"TrainDescriber$Mender", "index", "(III)I"⟩, ⟨"TrainDescriber$Mender", "onward", "(IIIII)I"⟩, ⟨"TrainDescriber$Sightings", "isSlip", "(II)Z"⟩, ⟨"TrainDescriber$Mender", "mark", "(IIII)V"⟩, ⟨"TrainDescriber$Mender", "isBestOnward", "(IIII)Z"⟩, ⟨"TrainDescriber$Mender", "possible", "()Z"⟩, ⟨"TrainDescriber$Mender", "traceFirst", "()V"⟩, ⟨"TrainDescriber", "mended", "(II)I"⟩, ⟨"TrainDescriber$Mender", "isSure", "(I)Z"⟩, ⟨"TrainDescriber", "clear", "()I"⟩, ⟨"TrainDescriber$Sightings", "wipe", "()V"⟩, ⟨"TrainDescriber", "due", "(III)I"⟩, ⟨"TrainDescriber$Timetable", "add", "(III)Z"⟩, ⟨"TrainDescriber", "delay", "(I)I"⟩, ⟨"TrainDescriber$State", "delayOf", "(I)I"⟩, ⟨"TrainDescriber$Timetable", "nextMinute", "(III)I"⟩, ⟨"java/lang/Math", "abs", "(I)I"⟩, ⟨"TrainDescriber", "station", "(II)I"⟩, ⟨"TrainDescriber", "platform", "(I)I"⟩, ⟨"TrainDescriber$State", "platformOf", "(I)I"⟩, ⟨"TrainDescriber$Timetable", "nextBerth", "(II[II)I"⟩, ⟨"TrainDescriber", "way", "(II)I"⟩, ⟨"TrainDescriber$State", "wayOf", "(II)I"⟩, ⟨"TrainDescriber", "truth", "(II)I"⟩, ⟨"TrainDescriber$State", "latestAt", "(I)I"⟩, ⟨"TrainDescriber", "found", "(II)I"⟩, ⟨"TrainDescriber$State", "whereabouts", "(II)I"⟩, ⟨"TrainDescriber$Board", "berthsOf", "(I)I"⟩, ⟨"TrainDescriber$Links", "within", "(II)I"⟩, ⟨"TrainDescriber", "lost", "(III)I"⟩, ⟨"TrainDescriber$State", "chooseLost", "(I)V"⟩, ⟨"TrainDescriber$Timetable", "chosenName", "(I)I"⟩, ⟨"TrainDescriber$Timetable", "lowestAbove", "(I)I"⟩, ⟨"TrainDescriber", "clock", "(II)I"⟩, ⟨"TrainDescriber", "isBox", "(I)Z"⟩]
def jyL_3 : List MethodName := [⟨"TrainDescriber", "code", "(III)I"⟩, ⟨"TrainDescriber", "isCode", "(I)Z"⟩, ⟨"TrainDescriber", "word", "(IIII)I"⟩, ⟨"TrainDescriber", "bad", "(II)I"⟩, ⟨"TrainDescriber", "forget", "(I)I"⟩, ⟨"TrainDescriber$State", "fadeAll", "()I"⟩, ⟨"TrainDescriber$State", "faded", "(II)I"⟩, ⟨"TrainDescriber", "could", "(III)I"⟩, ⟨"TrainDescriber$State", "chooseLikely", "(I)V"⟩, ⟨"TrainDescriber", "alarms", "(I)I"⟩, ⟨"TrainDescriber$State", "nameless", "()I"⟩, ⟨"TrainDescriber$Board", "twins", "()I"⟩, ⟨"TrainDescriber$Board", "named", "()I"⟩, ⟨"TrainDescriber", "image", "(I)I"⟩, ⟨"TrainDescriber$State", "copyFrom", "(LTrainDescriber$State;)V"⟩, ⟨"TrainDescriber$Ring", "copyFrom", "(LTrainDescriber$Ring;)V"⟩, ⟨"TrainDescriber$Works", "copyFrom", "(LTrainDescriber$Works;)V"⟩, ⟨"TrainDescriber$Links", "copyFrom", "(LTrainDescriber$Links;)V"⟩, ⟨"TrainDescriber$Sightings", "copyFrom", "(LTrainDescriber$Sightings;)V"⟩, ⟨"TrainDescriber$Timetable", "copyFrom", "(LTrainDescriber$Timetable;)V"⟩, ⟨"TrainDescriber", "back", "(I)I"⟩, ⟨"TrainDescriber", "count", "(I)I"⟩, ⟨"TrainDescriber", "status", "()I"⟩, ⟨"TrainDescriberModel", "<init>", "()V"⟩, ⟨"TrainDescriberModel", "image", "(I)I"⟩, ⟨"TrainDescriberModel", "in", "(JJJ)Z"⟩, ⟨"TrainDescriberModel", "tell", "(I)I"⟩, ⟨"TrainDescriberModel", "back", "(I)I"⟩, ⟨"TrainDescriberModel", "log", "(II)I"⟩, ⟨"TrainDescriberModel", "logged", "()I"⟩, ⟨"TrainDescriberModel", "loggedAt", "(I)I"⟩, ⟨"TrainDescriberModel", "feed", "(IIIII)I"⟩, ⟨"TrainDescriberModel", "four", "(I)V"⟩, ⟨"TrainDescriberModel", "end", "(I)I"⟩, ⟨"TrainDescriberModel", "fault", "()I"⟩, ⟨"TrainDescriberModel", "use", "(I)I"⟩, ⟨"TrainDescriberModel", "was", "(I)I"⟩, ⟨"TrainDescriberModel", "rules", "()I"⟩, ⟨"TrainDescriberModel", "begin", "()V"⟩, ⟨"TrainDescriberModel", "next", "()V"⟩, ⟨"TrainDescriberModel", "isSmall", "(I)Z"⟩, ⟨"TrainDescriberModel", "isDigit", "(I)Z"⟩, ⟨"TrainDescriberModel", "readClause", "()V"⟩, ⟨"TrainDescriberModel", "isWord", "(J)Z"⟩, ⟨"TrainDescriberModel", "must", "(Z)V"⟩, ⟨"TrainDescriberModel", "number", "(JJ)I"⟩, ⟨"TrainDescriberModel", "readTest", "()V"⟩, ⟨"TrainDescriberModel", "readPlain", "()Z"⟩, ⟨"TrainDescriberModel", "push", "(I)V"⟩, ⟨"TrainDescriberModel", "isSign", "(I)Z"⟩, ⟨"TrainDescriberModel", "leaf", "()V"⟩, ⟨"TrainDescriberModel", "emit", "(II)V"⟩, ⟨"TrainDescriberModel", "settle", "(I)V"⟩, ⟨"TrainDescriberModel", "binds", "(I)I"⟩, ⟨"TrainDescriberModel", "lies", "(II)I"⟩, ⟨"TrainDescriberModel", "isBerth", "(I)Z"⟩, ⟨"TrainDescriberModel", "signal", "(II)I"⟩, ⟨"TrainDescriberModel", "event", "(III)I"⟩, ⟨"TrainDescriberModel", "isMinute", "(I)Z"⟩, ⟨"TrainDescriberModel", "isTrack", "(I)Z"⟩]
def jyL_4 : List MethodName := [⟨"TrainDescriberModel", "takeUp", "()V"⟩, ⟨"TrainDescriberModel", "happens", "(IIZ)I"⟩, ⟨"TrainDescriberModel", "isSo", "(I)Z"⟩, ⟨"TrainDescriberModel", "isLeaf", "(II)Z"⟩, ⟨"TrainDescriberModel", "moves", "(IZ)Z"⟩, ⟨"TrainDescriberModel", "note", "(IIII)V"⟩, ⟨"TrainDescriberModel", "trespass", "(I)V"⟩, ⟨"TrainDescriberModel", "isClosed", "(II)Z"⟩, ⟨"TrainDescriberModel", "interpose", "(III)I"⟩, ⟨"TrainDescriberModel", "isName", "(I)Z"⟩, ⟨"TrainDescriberModel", "put", "(III)I"⟩, ⟨"TrainDescriberModel", "cancel", "(II)I"⟩, ⟨"TrainDescriberModel", "split", "(IIII)I"⟩, ⟨"TrainDescriberModel", "join", "(III)I"⟩, ⟨"TrainDescriberModel", "kin", "(II)I"⟩, ⟨"TrainDescriberModel", "work", "(III)I"⟩, ⟨"TrainDescriberModel", "closed", "(II)I"⟩, ⟨"TrainDescriberModel", "berth", "(II)I"⟩, ⟨"TrainDescriberModel", "track", "(I)I"⟩, ⟨"TrainDescriberModel", "since", "(I)I"⟩, ⟨"TrainDescriberModel", "came", "(II)I"⟩, ⟨"TrainDescriberModel", "held", "(III)I"⟩, ⟨"TrainDescriberModel", "run", "()I"⟩, ⟨"TrainDescriberModel", "playBy", "(II)V"⟩, ⟨"TrainDescriberModel", "play", "(III)V"⟩, ⟨"TrainDescriberModel", "judge", "()I"⟩, ⟨"TrainDescriberModel", "often", "([II)I"⟩, ⟨"TrainDescriberModel", "compare", "(I)V"⟩, ⟨"TrainDescriberModel", "tallyOthers", "(Z)V"⟩, ⟨"TrainDescriberModel", "playTwos", "()V"⟩, ⟨"TrainDescriberModel", "swaps", "(II)I"⟩, ⟨"TrainDescriberModel", "two", "(I)I"⟩, ⟨"TrainDescriberModel", "watch", "()I"⟩, ⟨"TrainDescriberModel", "bits", "(I)I"⟩, ⟨"TrainDescriberModel", "other", "(I)I"⟩, ⟨"TrainDescriberModel", "ends", "(I)I"⟩, ⟨"TrainDescriberModel", "proof", "(I)I"⟩, ⟨"TrainDescriberModel", "fails", "(II)I"⟩, ⟨"TrainDescriberModel", "link", "(III)I"⟩, ⟨"TrainDescriberModel", "train", "(I)I"⟩, ⟨"TrainDescriberModel", "start", "(III)I"⟩, ⟨"TrainDescriberModel", "see", "(III)I"⟩, ⟨"TrainDescriberModel", "clear", "()I"⟩, ⟨"TrainDescriberModel", "mend", "(I)I"⟩, ⟨"TrainDescriberModel", "mendAll", "()V"⟩, ⟨"TrainDescriberModel", "findWays", "()V"⟩, ⟨"TrainDescriberModel", "with", "(III)I"⟩, ⟨"TrainDescriberModel", "can", "(III)Z"⟩, ⟨"TrainDescriberModel", "scale", "(I)I"⟩, ⟨"TrainDescriberModel", "then", "(III)I"⟩, ⟨"TrainDescriberModel", "slip", "(II)I"⟩, ⟨"TrainDescriberModel", "mended", "(II)I"⟩, ⟨"TrainDescriberModel", "due", "(III)I"⟩, ⟨"TrainDescriberModel", "delay", "(I)I"⟩, ⟨"TrainDescriberModel", "nextDue", "(III)I"⟩, ⟨"TrainDescriberModel", "station", "(II)I"⟩, ⟨"TrainDescriberModel", "platform", "(I)I"⟩, ⟨"TrainDescriberModel", "isComing", "(I)Z"⟩, ⟨"TrainDescriberModel", "dueAt", "(III)I"⟩, ⟨"TrainDescriberModel", "way", "(II)I"⟩]
def jyL_5 : List MethodName := [⟨"TrainDescriberModel", "truth", "(II)I"⟩, ⟨"TrainDescriberModel", "found", "(II)I"⟩, ⟨"TrainDescriberModel", "reached", "(II)I"⟩, ⟨"TrainDescriberModel", "lost", "(III)I"⟩, ⟨"TrainDescriberModel", "stands", "(I)I"⟩, ⟨"TrainDescriberModel", "isDue", "(II)Z"⟩, ⟨"TrainDescriberModel", "clock", "(II)I"⟩, ⟨"TrainDescriberModel", "code", "(III)I"⟩, ⟨"TrainDescriberModel", "word", "(IIII)I"⟩, ⟨"TrainDescriberModel", "bad", "(II)I"⟩, ⟨"TrainDescriberModel", "forget", "(I)I"⟩, ⟨"TrainDescriberModel", "could", "(III)I"⟩, ⟨"TrainDescriberModel", "alarms", "(I)I"⟩, ⟨"TrainDescriberModel", "count", "(I)I"⟩, ⟨"TrainDescriberModel", "status", "()I"⟩, x]
def jbL_0 : List ByteArray := [prog_1_method_1_code, object_method_1_code, prog_9_method_1_code, prog_2_method_1_code, prog_7_method_1_code, prog_6_method_1_code, prog_16_method_65_code, prog_12_method_1_code, prog_3_method_1_code, prog_21_method_103_code, prog_8_method_1_code, prog_10_method_1_code, prog_5_method_1_code, prog_1_method_2_code, prog_1_method_63_code, prog_1_method_64_code, prog_1_method_57_code, prog_1_method_58_code, prog_1_method_3_code, prog_1_method_67_code, prog_1_method_4_code, prog_1_method_66_code, prog_9_method_4_code, prog_2_method_3_code, prog_6_method_4_code, prog_9_method_3_code, prog_7_method_2_code, prog_2_method_4_code, prog_7_method_7_code, prog_2_method_5_code, prog_9_method_6_code, prog_9_method_7_code, prog_12_method_4_code, prog_1_method_5_code, prog_1_method_65_code, prog_9_method_5_code, prog_1_method_6_code, prog_1_method_7_code, prog_1_method_8_code, prog_1_method_9_code, prog_1_method_10_code, prog_12_method_3_code, prog_1_method_11_code, prog_1_method_12_code, prog_1_method_13_code, prog_1_method_14_code, prog_1_method_15_code, prog_6_method_5_code, prog_6_method_3_code, prog_16_method_69_code, prog_1_method_16_code, prog_9_method_10_code, prog_15_method_49_code, prog_1_method_17_code, prog_1_method_18_code, prog_1_method_61_code, prog_1_method_19_code, prog_1_method_20_code, prog_1_method_21_code, prog_5_method_2_code]
def jbL_1 : List ByteArray := [prog_5_method_4_code, prog_5_method_6_code, prog_5_method_9_code, prog_5_method_11_code, prog_17_method_54_code, prog_17_method_152_code, prog_17_method_56_code, prog_17_method_154_code, prog_18_method_2_code, prog_17_method_155_code, prog_22_method_11_code, prog_19_method_83_code, prog_19_method_91_code, prog_19_method_6_code, prog_19_method_5_code, prog_5_method_10_code, prog_5_method_5_code, prog_5_method_8_code, prog_5_method_7_code, prog_7_method_4_code, prog_5_method_14_code, prog_5_method_12_code, prog_5_method_13_code, prog_5_method_15_code, prog_5_method_16_code, prog_5_method_17_code, prog_5_method_18_code, prog_5_method_19_code, prog_7_method_5_code, prog_7_method_6_code, prog_5_method_3_code, prog_7_method_3_code, prog_9_method_19_code, prog_1_method_22_code, prog_1_method_23_code, prog_1_method_62_code, prog_11_method_1_code, prog_11_method_2_code, prog_2_method_2_code, prog_11_method_5_code, prog_11_method_4_code, prog_11_method_8_code, prog_11_method_6_code, prog_11_method_7_code, prog_11_method_9_code, prog_11_method_10_code, prog_11_method_11_code, prog_11_method_12_code, prog_11_method_13_code, prog_1_method_24_code, prog_1_method_25_code, prog_11_method_14_code, prog_1_method_26_code, prog_11_method_3_code, prog_1_method_27_code, prog_11_method_15_code, prog_1_method_28_code, prog_11_method_16_code, prog_11_method_17_code, prog_1_method_29_code]
def jbL_2 : List ByteArray := [prog_11_method_18_code, prog_11_method_19_code, prog_1_method_30_code, prog_11_method_20_code, prog_11_method_21_code, prog_1_method_31_code, prog_3_method_3_code, prog_1_method_59_code, prog_1_method_32_code, prog_8_method_4_code, prog_1_method_33_code, prog_1_method_34_code, prog_8_method_5_code, prog_8_method_6_code, prog_1_method_35_code, prog_1_method_60_code, prog_4_method_1_code, prog_4_method_4_code, prog_4_method_5_code, prog_4_method_6_code, prog_3_method_4_code, prog_3_method_6_code, prog_3_method_7_code, prog_4_method_7_code, prog_4_method_10_code, prog_4_method_8_code, prog_4_method_9_code, prog_8_method_7_code, prog_4_method_12_code, prog_4_method_11_code, prog_4_method_2_code, prog_4_method_13_code, prog_1_method_36_code, prog_4_method_3_code, prog_1_method_37_code, prog_8_method_3_code, prog_1_method_38_code, prog_10_method_3_code, prog_1_method_39_code, prog_9_method_12_code, prog_10_method_4_code, prog_16_method_59_code, prog_1_method_40_code, prog_1_method_41_code, prog_9_method_13_code, prog_10_method_5_code, prog_1_method_42_code, prog_9_method_14_code, prog_1_method_43_code, prog_9_method_15_code, prog_1_method_44_code, prog_9_method_16_code, prog_2_method_6_code, prog_3_method_5_code, prog_1_method_45_code, prog_9_method_17_code, prog_10_method_6_code, prog_10_method_7_code, prog_1_method_46_code, prog_1_method_68_code]
def jbL_3 : List ByteArray := [prog_1_method_47_code, prog_1_method_69_code, prog_1_method_48_code, prog_1_method_49_code, prog_1_method_50_code, prog_9_method_9_code, prog_9_method_8_code, prog_1_method_51_code, prog_9_method_18_code, prog_1_method_52_code, prog_9_method_11_code, prog_2_method_8_code, prog_2_method_7_code, prog_1_method_53_code, prog_9_method_2_code, prog_6_method_2_code, prog_12_method_2_code, prog_3_method_2_code, prog_8_method_2_code, prog_10_method_2_code, prog_1_method_54_code, prog_1_method_55_code, prog_1_method_56_code, prog_14_method_1_code, prog_14_method_6_code, prog_14_method_3_code, prog_14_method_4_code, prog_14_method_7_code, prog_14_method_15_code, prog_14_method_13_code, prog_14_method_14_code, prog_14_method_17_code, prog_14_method_16_code, prog_14_method_18_code, prog_14_method_27_code, prog_14_method_36_code, prog_14_method_5_code, prog_14_method_37_code, prog_14_method_21_code, prog_14_method_22_code, prog_14_method_19_code, prog_14_method_20_code, prog_14_method_35_code, prog_14_method_23_code, prog_14_method_25_code, prog_14_method_26_code, prog_14_method_34_code, prog_14_method_33_code, prog_14_method_29_code, prog_14_method_24_code, prog_14_method_32_code, prog_14_method_28_code, prog_14_method_31_code, prog_14_method_30_code, prog_14_method_45_code, prog_14_method_8_code, prog_14_method_46_code, prog_14_method_47_code, prog_14_method_10_code, prog_14_method_9_code]
def jbL_4 : List ByteArray := [prog_14_method_38_code, prog_14_method_44_code, prog_14_method_40_code, prog_14_method_39_code, prog_14_method_43_code, prog_14_method_12_code, prog_14_method_42_code, prog_14_method_41_code, prog_14_method_49_code, prog_14_method_11_code, prog_14_method_48_code, prog_14_method_50_code, prog_14_method_51_code, prog_14_method_52_code, prog_14_method_53_code, prog_14_method_54_code, prog_14_method_55_code, prog_14_method_56_code, prog_14_method_57_code, prog_14_method_58_code, prog_14_method_59_code, prog_14_method_60_code, prog_14_method_64_code, prog_14_method_65_code, prog_14_method_61_code, prog_14_method_63_code, prog_14_method_62_code, prog_14_method_66_code, prog_14_method_67_code, prog_14_method_68_code, prog_14_method_69_code, prog_14_method_70_code, prog_14_method_72_code, prog_14_method_71_code, prog_14_method_73_code, prog_14_method_74_code, prog_14_method_75_code, prog_14_method_76_code, prog_14_method_77_code, prog_14_method_78_code, prog_14_method_79_code, prog_14_method_80_code, prog_14_method_81_code, prog_14_method_89_code, prog_14_method_88_code, prog_14_method_82_code, prog_14_method_87_code, prog_14_method_84_code, prog_14_method_83_code, prog_14_method_86_code, prog_14_method_85_code, prog_14_method_90_code, prog_14_method_91_code, prog_14_method_93_code, prog_14_method_92_code, prog_14_method_94_code, prog_14_method_97_code, prog_14_method_95_code, prog_14_method_96_code, prog_14_method_98_code]
def jbL_5 : List ByteArray := [prog_14_method_99_code, prog_14_method_101_code, prog_14_method_100_code, prog_14_method_104_code, prog_14_method_102_code, prog_14_method_103_code, prog_14_method_105_code, prog_14_method_106_code, prog_14_method_107_code, prog_14_method_108_code, prog_14_method_109_code, prog_14_method_110_code, prog_14_method_111_code, prog_14_method_112_code, prog_14_method_113_code, code]
def jmL_0 : List Nat := [1, 1, 1, 1, 1, 2, 2, 1, 1, 4, 1, 1, 1, 4, 1, 1, 2, 2, 4, 1, 4, 1, 4, 3, 7, 2, 2, 8, 7, 6, 5, 1, 4, 4, 1, 4, 4, 6, 6, 3, 4, 4, 3, 3, 2, 2, 3, 4, 1, 2, 4, 5, 1, 3, 6, 3, 2, 3, 2, 4]
def jmL_1 : List Nat := [6, 1, 3, 5, 1, 1, 2, 1, 2, 2, 3, 2, 2, 1, 2, 3, 4, 5, 1, 1, 7, 2, 2, 3, 3, 4, 2, 4, 3, 5, 1, 2, 2, 1, 2, 5, 1, 6, 2, 2, 1, 3, 2, 4, 1, 4, 6, 4, 3, 2, 2, 2, 3, 3, 3, 4, 2, 3, 5, 1]
def jmL_2 : List Nat := [3, 3, 2, 4, 2, 4, 5, 1, 3, 2, 4, 5, 1, 4, 3, 1, 1, 4, 7, 6, 3, 3, 6, 10, 11, 3, 7, 3, 8, 5, 1, 7, 4, 2, 2, 1, 4, 4, 2, 6, 9, 1, 4, 2, 6, 9, 3, 5, 4, 3, 3, 7, 4, 5, 4, 3, 5, 4, 4, 1]
def jmL_3 : List Nat := [5, 1, 7, 4, 2, 5, 2, 4, 3, 2, 3, 4, 1, 3, 2, 2, 2, 2, 2, 2, 3, 2, 1, 2, 3, 6, 2, 3, 3, 1, 2, 6, 3, 2, 1, 3, 2, 3, 1, 1, 1, 1, 3, 3, 2, 6, 4, 1, 2, 2, 3, 3, 2, 1, 4, 1, 4, 7, 1, 1]
def jmL_4 : List Nat := [2, 7, 5, 3, 6, 6, 2, 6, 4, 1, 5, 4, 5, 5, 3, 5, 3, 3, 2, 2, 4, 7, 4, 4, 8, 4, 5, 6, 3, 4, 6, 2, 5, 3, 2, 2, 5, 3, 5, 2, 4, 5, 2, 2, 9, 4, 5, 8, 1, 4, 4, 9, 5, 5, 9, 4, 5, 2, 9, 7]
def jmL_5 : List Nat := [5, 6, 6, 7, 4, 5, 4, 5, 9, 4, 6, 7, 6, 2, 1, maxLocals]
def jrL_0 : List (Option FieldType) := [none, none, none, none, none, none, (some .int), none, none, none, none, none, none, (some .int), (some .boolean), (some .boolean), (some .int), (some .int), (some .int), (some .boolean), (some .int), (some .boolean), (some .int), (some .boolean), none, (some (.object "TrainDescriber$Rules")), (some .int), (some .int), (some .boolean), (some .int), none, (some .boolean), (some .boolean), (some .int), (some .boolean), (some .int), (some .int), (some .int), (some .int), (some .int), (some .int), (some .boolean), (some .int), (some .int), (some .int), (some .int), (some .int), (some .int), (some .int), (some .int), (some .int), (some .int), (some .int), (some .int), (some .int), none, (some .int), (some .int), (some .int), (some .boolean)]
def jrL_1 : List (Option FieldType) := [none, (some .int), (some .int), (some .boolean), (some .int), (some .byte), (some .char), (some .boolean), (some .char), none, (some .int), (some .char), none, (some .int), (some .char), (some .int), none, (some .int), (some .int), none, (some .boolean), (some .boolean), (some .int), (some .boolean), (some .boolean), (some .boolean), (some .boolean), (some .boolean), none, none, (some .int), none, none, (some .int), (some .int), (some .int), none, none, none, none, (some .int), none, none, none, (some .int), (some .int), (some .int), (some .int), (some .boolean), (some .int), (some .int), (some .int), (some .int), (some .boolean), (some .int), (some .int), (some .int), none, none, (some .int)]
def jrL_2 : List (Option FieldType) := [(some .int), (some .boolean), (some .int), (some .int), (some .boolean), (some .int), (some .boolean), none, (some .int), (some .int), (some .int), (some .int), (some .int), (some .int), (some .int), (some (.object "TrainDescriber$Mender")), none, none, none, (some .boolean), (some .int), none, none, none, none, (some .int), (some .int), (some .boolean), none, (some .boolean), (some .boolean), none, (some .int), (some .boolean), (some .int), none, (some .int), (some .boolean), (some .int), (some .int), (some .int), (some .int), (some .int), (some .int), (some .int), (some .int), (some .int), (some .int), (some .int), (some .int), (some .int), (some .int), (some .int), (some .int), (some .int), none, (some .int), (some .int), (some .int), (some .boolean)]
def jrL_3 : List (Option FieldType) := [(some .int), (some .boolean), (some .int), (some .int), (some .int), (some .int), (some .int), (some .int), none, (some .int), (some .int), (some .int), (some .int), (some .int), none, none, none, none, none, none, (some .int), (some .int), (some .int), none, (some .int), (some .boolean), (some .int), (some .int), (some .int), (some .int), (some .int), (some .int), none, (some .int), (some .int), (some .int), (some .int), (some .int), none, none, (some .boolean), (some .boolean), none, (some .boolean), none, (some .int), none, (some .boolean), none, (some .boolean), none, none, none, (some .int), (some .int), (some .boolean), (some .int), (some .int), (some .boolean), (some .boolean)]
def jrL_4 : List (Option FieldType) := [none, (some .int), (some .boolean), (some .boolean), (some .boolean), none, none, (some .boolean), (some .int), (some .boolean), (some .int), (some .int), (some .int), (some .int), (some .int), (some .int), (some .int), (some .int), (some .int), (some .int), (some .int), (some .int), (some .int), none, none, (some .int), (some .int), none, none, none, (some .int), (some .int), (some .int), (some .int), (some .int), (some .int), (some .int), (some .int), (some .int), (some .int), (some .int), (some .int), (some .int), (some .int), none, none, (some .int), (some .boolean), (some .int), (some .int), (some .int), (some .int), (some .int), (some .int), (some .int), (some .int), (some .int), (some .boolean), (some .int), (some .int)]
def jrL_5 : List (Option FieldType) := [(some .int), (some .int), (some .int), (some .int), (some .int), (some .boolean), (some .int), (some .int), (some .int), (some .int), (some .int), (some .int), (some .int), (some .int), (some .int), ret]
def jkL_0 : List Nat := [2, 2, 2, 2, 2, 2, 1, 2, 2, 1, 2, 2, 2, 0, 1, 1, 0, 0, 0, 1, 0, 1, 0, 0, 0, 0, 1, 0, 0, 0, 0, 1, 0, 0, 1, 0, 0, 0, 0, 0, 0, 0, 0, 0, 0, 0, 0, 0, 0, 1, 0, 0, 1, 0, 0, 0, 0, 0, 0, 0]
def jkL_1 : List Nat := [0, 1, 1, 1, 0, 0, 0, 0, 1, 1, 1, 1, 1, 1, 1, 1, 0, 1, 1, 0, 0, 0, 0, 0, 0, 0, 0, 0, 0, 0, 0, 0, 1, 0, 0, 0, 2, 0, 0, 0, 0, 0, 0, 0, 1, 0, 0, 0, 0, 0, 0, 0, 0, 0, 0, 0, 0, 0, 0, 0]
def jkL_2 : List Nat := [0, 0, 0, 0, 0, 0, 0, 0, 0, 0, 0, 0, 0, 0, 0, 0, 2, 0, 0, 0, 0, 0, 0, 0, 0, 1, 0, 0, 0, 0, 0, 0, 0, 0, 0, 0, 0, 0, 0, 0, 0, 1, 0, 0, 0, 0, 0, 0, 0, 0, 0, 0, 0, 0, 0, 0, 0, 0, 0, 1]
def jkL_3 : List Nat := [0, 1, 0, 0, 0, 0, 1, 0, 0, 0, 0, 0, 0, 0, 0, 0, 0, 0, 0, 0, 0, 0, 0, 2, 0, 1, 0, 0, 0, 0, 0, 0, 0, 0, 0, 0, 0, 0, 0, 0, 1, 1, 0, 0, 0, 0, 0, 0, 0, 0, 0, 0, 0, 1, 0, 1, 0, 0, 1, 1]
def jkL_4 : List Nat := [0, 0, 0, 0, 0, 0, 0, 0, 0, 1, 0, 0, 0, 0, 0, 0, 0, 0, 0, 0, 0, 0, 0, 0, 0, 0, 0, 0, 0, 0, 0, 0, 0, 1, 0, 0, 0, 0, 0, 0, 0, 0, 0, 0, 0, 0, 0, 0, 1, 1, 0, 0, 0, 0, 0, 0, 0, 0, 0, 0]
def jkL_5 : List Nat := [0, 0, 0, 0, 0, 0, 0, 0, 0, 0, 0, 0, 0, 0, 0]
def jpL_0 : List Nat := [0, 0, 0, 0, 0, 1, 2, 0, 0, 2, 0, 0, 0, 2, 1, 1, 1, 1, 2, 1, 3, 1, 2, 2, 5, 1, 2, 3, 2, 3, 4, 1, 2, 3, 1, 2, 2, 4, 3, 2, 3, 3, 2, 2, 1, 1, 2, 2, 0, 2, 3, 2, 1, 2, 5, 1, 1, 1, 0, 2]
def jpL_1 : List Nat := [2, 1, 3, 4, 0, 0, 1, 0, 2, 2, 3, 2, 2, 1, 2, 3, 3, 3, 1, 0, 0, 1, 1, 1, 1, 1, 1, 0, 2, 4, 0, 1, 2, 0, 0, 0, 0, 4, 1, 0, 0, 2, 1, 2, 1, 1, 2, 2, 1, 1, 1, 0, 2, 2, 2, 1, 1, 0, 2, 0]
def jpL_2 : List Nat := [0, 1, 1, 1, 1, 3, 3, 0, 1, 1, 3, 3, 0, 3, 1, 0, 0, 2, 1, 3, 2, 0, 2, 2, 4, 3, 5, 2, 4, 4, 0, 0, 2, 1, 0, 0, 3, 3, 1, 1, 3, 1, 2, 1, 1, 4, 2, 2, 2, 1, 2, 2, 1, 2, 3, 1, 1, 1, 2, 1]
def jpL_3 : List Nat := [3, 1, 4, 2, 1, 0, 2, 3, 1, 1, 0, 0, 0, 1, 1, 1, 1, 1, 1, 1, 1, 1, 0, 0, 1, 3, 1, 1, 2, 0, 1, 5, 1, 1, 0, 1, 1, 0, 0, 0, 1, 1, 0, 1, 1, 2, 0, 0, 1, 1, 0, 2, 1, 1, 2, 1, 2, 3, 1, 1]
def jpL_4 : List Nat := [0, 3, 1, 2, 2, 4, 1, 2, 3, 1, 3, 2, 4, 3, 2, 3, 2, 2, 1, 1, 2, 3, 0, 2, 3, 0, 2, 1, 1, 0, 2, 1, 0, 1, 1, 1, 1, 2, 3, 1, 3, 3, 0, 1, 0, 0, 3, 3, 1, 3, 2, 2, 3, 1, 3, 2, 1, 1, 3, 2]
def jpL_5 : List Nat := [2, 2, 2, 3, 1, 2, 2, 3, 4, 2, 1, 3, 1, 1, 0]
abbrev jNM : Nat := 315
def jyN (k : Nat) : MethodName := bif Nat.ble k 59 then jyL_0.getD k x else (bif Nat.ble k 119 then jyL_1.getD (Nat.sub k 60) x else (bif Nat.ble k 179 then jyL_2.getD (Nat.sub k 120) x else (bif Nat.ble k 239 then jyL_3.getD (Nat.sub k 180) x else (bif Nat.ble k 299 then jyL_4.getD (Nat.sub k 240) x else (bif Nat.ble k 359 then jyL_5.getD (Nat.sub k 300) x else (x))))))
def jbC (k : Nat) : ByteArray := bif Nat.ble k 59 then jbL_0.getD k code else (bif Nat.ble k 119 then jbL_1.getD (Nat.sub k 60) code else (bif Nat.ble k 179 then jbL_2.getD (Nat.sub k 120) code else (bif Nat.ble k 239 then jbL_3.getD (Nat.sub k 180) code else (bif Nat.ble k 299 then jbL_4.getD (Nat.sub k 240) code else (bif Nat.ble k 359 then jbL_5.getD (Nat.sub k 300) code else (code))))))
def jmx (k : Nat) : Nat := bif Nat.ble k 59 then jmL_0.getD k 4 else (bif Nat.ble k 119 then jmL_1.getD (Nat.sub k 60) 4 else (bif Nat.ble k 179 then jmL_2.getD (Nat.sub k 120) 4 else (bif Nat.ble k 239 then jmL_3.getD (Nat.sub k 180) 4 else (bif Nat.ble k 299 then jmL_4.getD (Nat.sub k 240) 4 else (bif Nat.ble k 359 then jmL_5.getD (Nat.sub k 300) 4 else (4))))))
def jrT (k : Nat) : (Option FieldType) := bif Nat.ble k 59 then jrL_0.getD k (some .boolean) else (bif Nat.ble k 119 then jrL_1.getD (Nat.sub k 60) (some .boolean) else (bif Nat.ble k 179 then jrL_2.getD (Nat.sub k 120) (some .boolean) else (bif Nat.ble k 239 then jrL_3.getD (Nat.sub k 180) (some .boolean) else (bif Nat.ble k 299 then jrL_4.getD (Nat.sub k 240) (some .boolean) else (bif Nat.ble k 359 then jrL_5.getD (Nat.sub k 300) (some .boolean) else ((some .boolean)))))))
def jkd (k : Nat) : Nat := bif Nat.ble k 59 then jkL_0.getD k 9 else (bif Nat.ble k 119 then jkL_1.getD (Nat.sub k 60) 9 else (bif Nat.ble k 179 then jkL_2.getD (Nat.sub k 120) 9 else (bif Nat.ble k 239 then jkL_3.getD (Nat.sub k 180) 9 else (bif Nat.ble k 299 then jkL_4.getD (Nat.sub k 240) 9 else (bif Nat.ble k 359 then jkL_5.getD (Nat.sub k 300) 9 else (9))))))
def jnp (k : Nat) : Nat := bif Nat.ble k 59 then jpL_0.getD k 99 else (bif Nat.ble k 119 then jpL_1.getD (Nat.sub k 60) 99 else (bif Nat.ble k 179 then jpL_2.getD (Nat.sub k 120) 99 else (bif Nat.ble k 239 then jpL_3.getD (Nat.sub k 180) 99 else (bif Nat.ble k 299 then jpL_4.getD (Nat.sub k 240) 99 else (bif Nat.ble k 359 then jpL_5.getD (Nat.sub k 300) 99 else (99))))))
/-- the tables' words that a callee may be handed -/
def jtb : List Cond := lw_tbl.filter goodWord
theorem jin_of {α : Type} {f : α → Cond} {l : List α} {ps : List Nat} (h : l.map f = ps.filterMap (fun i => lw_tbl[i]?)) {q : α} (hq : q ∈ l) : f q ∈ lw_tbl := by
  have h1 : f q ∈ l.map f := List.mem_map.mpr ⟨q, hq, rfl⟩
  rw [h] at h1
  obtain ⟨i, -, hi⟩ := List.mem_filterMap.mp h1
  exact List.mem_of_getElem? hi
def jwCode (k : Nat) : Cond := .code (jyN k) (jbC k) (jmx k) (jrT k)
theorem jpart {w : Cond} (h : w ∈ tables_1_1 ∨ w ∈ tables_1_2 ∨ w ∈ tables_1_3 ∨ w ∈ tables_1_4 ∨ w ∈ tables_1_5 ∨ w ∈ tables_1_6 ∨ w ∈ tables_1_7 ∨ w ∈ tables_1_8) : w ∈ lw_tbl := by
  unfold lw_tbl tables_1
  simp only [List.mem_append]
  exact Or.inr h
def jeC_0_0 : List Nat := [0, 1, 2, 3, 4, 5, 6, 7, 8, 9, 10, 11]
set_option maxRecDepth 100000 in
theorem jeC_0_0_ok : jeC_0_0.map jwCode = [26, 29, 34, 40, 66, 103, 107, 126, 151, 155, 174, 215].filterMap (fun i => tables_1_1[i]?) := by rfl
def jeC_1_0 : List Nat := [12, 13, 14, 15, 16, 17, 18, 19, 20, 21, 22, 23]
set_option maxRecDepth 100000 in
theorem jeC_1_0_ok : jeC_1_0.map jwCode = [83, 150, 153, 156, 160, 164, 168, 171, 175, 178, 182, 186].filterMap (fun i => tables_1_2[i]?) := by rfl
def jeC_1_1 : List Nat := [24, 25, 26, 27, 28, 29, 30, 31, 32, 33, 34, 35]
set_option maxRecDepth 100000 in
theorem jeC_1_1_ok : jeC_1_1.map jwCode = [190, 194, 197, 201, 206, 212, 216, 219, 223, 227, 230, 234].filterMap (fun i => tables_1_2[i]?) := by rfl
def jeC_1_2 : List Nat := [36]
set_option maxRecDepth 100000 in
theorem jeC_1_2_ok : jeC_1_2.map jwCode = [239].filterMap (fun i => tables_1_2[i]?) := by rfl
def jeC_2_0 : List Nat := [37, 38, 39, 40, 41, 42, 43, 44, 45, 46, 47, 48]
set_option maxRecDepth 100000 in
theorem jeC_2_0_ok : jeC_2_0.map jwCode = [4, 8, 12, 16, 20, 24, 29, 33, 37, 41, 45, 49].filterMap (fun i => tables_1_3[i]?) := by rfl
def jeC_2_1 : List Nat := [49, 50, 51, 52, 53, 54, 55, 56, 57, 58, 59, 60]
set_option maxRecDepth 100000 in
theorem jeC_2_1_ok : jeC_2_1.map jwCode = [52, 56, 60, 63, 70, 74, 78, 82, 86, 90, 94, 98].filterMap (fun i => tables_1_3[i]?) := by rfl
def jeC_2_2 : List Nat := [61, 62, 63, 64, 65, 66, 67, 68, 69, 70, 71, 72]
set_option maxRecDepth 100000 in
theorem jeC_2_2_ok : jeC_2_2.map jwCode = [101, 104, 108, 112, 116, 122, 126, 129, 132, 137, 140, 143].filterMap (fun i => tables_1_3[i]?) := by rfl
def jeC_2_3 : List Nat := [73, 74, 75, 76, 77, 78, 79, 80, 81, 82, 83, 84]
set_option maxRecDepth 100000 in
theorem jeC_2_3_ok : jeC_2_3.map jwCode = [146, 150, 165, 175, 178, 182, 186, 191, 195, 199, 203, 207].filterMap (fun i => tables_1_3[i]?) := by rfl
def jeC_2_4 : List Nat := [85, 86, 87, 88, 89, 90, 91]
set_option maxRecDepth 100000 in
theorem jeC_2_4_ok : jeC_2_4.map jwCode = [211, 215, 219, 223, 228, 232, 237].filterMap (fun i => tables_1_3[i]?) := by rfl
def jeC_3_0 : List Nat := [92, 93, 94, 95, 96, 97, 98, 99, 100, 101, 102, 103]
set_option maxRecDepth 100000 in
theorem jeC_3_0_ok : jeC_3_0.map jwCode = [0, 9, 13, 17, 23, 82, 89, 96, 101, 105, 109, 113].filterMap (fun i => tables_1_4[i]?) := by rfl
def jeC_3_1 : List Nat := [104, 105, 106, 107, 108, 109, 110, 111, 112, 113, 114, 115]
set_option maxRecDepth 100000 in
theorem jeC_3_1_ok : jeC_3_1.map jwCode = [116, 121, 125, 129, 133, 138, 142, 146, 150, 154, 158, 162].filterMap (fun i => tables_1_4[i]?) := by rfl
def jeC_3_2 : List Nat := [116, 117, 118, 119, 120, 121, 122, 123, 124, 125, 126, 127]
set_option maxRecDepth 100000 in
theorem jeC_3_2_ok : jeC_3_2.map jwCode = [166, 170, 174, 178, 182, 186, 190, 194, 198, 202, 206, 210].filterMap (fun i => tables_1_4[i]?) := by rfl
def jeC_3_3 : List Nat := [128, 129, 130, 131, 132, 133, 134]
set_option maxRecDepth 100000 in
theorem jeC_3_3_ok : jeC_3_3.map jwCode = [214, 218, 222, 226, 230, 234, 238].filterMap (fun i => tables_1_4[i]?) := by rfl
def jeC_4_0 : List Nat := [135, 136, 137, 138, 139, 140, 141, 142, 143, 144, 145, 146]
set_option maxRecDepth 100000 in
theorem jeC_4_0_ok : jeC_4_0.map jwCode = [2, 7, 53, 57, 61, 65, 69, 74, 79, 83, 86, 90].filterMap (fun i => tables_1_5[i]?) := by rfl
def jeC_4_1 : List Nat := [147, 148, 149, 150, 151, 152, 153, 154, 155, 156, 157, 158]
set_option maxRecDepth 100000 in
theorem jeC_4_1_ok : jeC_4_1.map jwCode = [94, 98, 102, 107, 111, 116, 120, 125, 129, 133, 137, 141].filterMap (fun i => tables_1_5[i]?) := by rfl
def jeC_4_2 : List Nat := [159, 160, 161, 162, 163, 164, 165, 166, 167, 168, 169, 170]
set_option maxRecDepth 100000 in
theorem jeC_4_2_ok : jeC_4_2.map jwCode = [145, 151, 154, 159, 163, 167, 172, 176, 180, 184, 188, 192].filterMap (fun i => tables_1_5[i]?) := by rfl
def jeC_4_3 : List Nat := [171, 172, 173, 174, 175, 176, 177, 178, 179, 180, 181, 182]
set_option maxRecDepth 100000 in
theorem jeC_4_3_ok : jeC_4_3.map jwCode = [196, 200, 204, 209, 213, 217, 221, 225, 228, 232, 235, 239].filterMap (fun i => tables_1_5[i]?) := by rfl
def jeC_5_0 : List Nat := [183, 184, 185, 186, 187, 188, 189, 190, 191, 192, 193, 194]
set_option maxRecDepth 100000 in
theorem jeC_5_0_ok : jeC_5_0.map jwCode = [3, 7, 11, 14, 18, 22, 26, 30, 34, 40, 44, 48].filterMap (fun i => tables_1_6[i]?) := by rfl
def jeC_5_1 : List Nat := [195, 196, 197, 198, 199, 200, 201, 202, 203, 204, 205, 206]
set_option maxRecDepth 100000 in
theorem jeC_5_1_ok : jeC_5_1.map jwCode = [54, 60, 65, 70, 75, 80, 84, 89, 94, 227, 230, 234].filterMap (fun i => tables_1_6[i]?) := by rfl
def jeC_5_2 : List Nat := [207]
set_option maxRecDepth 100000 in
theorem jeC_5_2_ok : jeC_5_2.map jwCode = [238].filterMap (fun i => tables_1_6[i]?) := by rfl
def jeC_6_0 : List Nat := [208, 209, 210, 211, 212, 213, 214, 215, 216, 217, 218, 219]
set_option maxRecDepth 100000 in
theorem jeC_6_0_ok : jeC_6_0.map jwCode = [2, 6, 11, 15, 19, 23, 27, 31, 35, 39, 43, 47].filterMap (fun i => tables_1_7[i]?) := by rfl
def jeC_6_1 : List Nat := [220, 221, 222, 223, 224, 225, 226, 227, 228, 229, 230, 231]
set_option maxRecDepth 100000 in
theorem jeC_6_1_ok : jeC_6_1.map jwCode = [50, 53, 63, 68, 73, 78, 88, 92, 97, 101, 105, 113].filterMap (fun i => tables_1_7[i]?) := by rfl
def jeC_6_2 : List Nat := [232, 233, 234, 235, 236, 237, 238, 239, 240, 241, 242, 243]
set_option maxRecDepth 100000 in
theorem jeC_6_2_ok : jeC_6_2.map jwCode = [119, 122, 126, 129, 133, 137, 140, 144, 148, 152, 156, 160].filterMap (fun i => tables_1_7[i]?) := by rfl
def jeC_6_3 : List Nat := [244, 245, 246, 247, 248, 249, 250, 251, 252, 253, 254, 255]
set_option maxRecDepth 100000 in
theorem jeC_6_3_ok : jeC_6_3.map jwCode = [164, 168, 172, 176, 180, 183, 188, 192, 196, 200, 204, 208].filterMap (fun i => tables_1_7[i]?) := by rfl
def jeC_6_4 : List Nat := [256, 257, 258, 259, 260, 261, 262]
set_option maxRecDepth 100000 in
theorem jeC_6_4_ok : jeC_6_4.map jwCode = [212, 216, 221, 225, 229, 234, 238].filterMap (fun i => tables_1_7[i]?) := by rfl
def jeC_7_0 : List Nat := [263, 264, 265, 266, 267, 268, 269, 270, 271, 272, 273, 274]
set_option maxRecDepth 100000 in
theorem jeC_7_0_ok : jeC_7_0.map jwCode = [2, 6, 10, 14, 18, 22, 26, 30, 34, 38, 41, 45].filterMap (fun i => tables_1_8[i]?) := by rfl
def jeC_7_1 : List Nat := [275, 276, 277, 278, 279, 280, 281, 282, 283, 284, 285, 286]
set_option maxRecDepth 100000 in
theorem jeC_7_1_ok : jeC_7_1.map jwCode = [50, 54, 58, 62, 67, 71, 75, 79, 83, 87, 91, 96].filterMap (fun i => tables_1_8[i]?) := by rfl
def jeC_7_2 : List Nat := [287, 288, 289, 290, 291, 292, 293, 294, 295, 296, 297, 298]
set_option maxRecDepth 100000 in
theorem jeC_7_2_ok : jeC_7_2.map jwCode = [100, 103, 106, 110, 114, 118, 122, 126, 131, 135, 139, 143].filterMap (fun i => tables_1_8[i]?) := by rfl
def jeC_7_3 : List Nat := [299, 300, 301, 302, 303, 304, 305, 306, 307, 308, 309, 310]
set_option maxRecDepth 100000 in
theorem jeC_7_3_ok : jeC_7_3.map jwCode = [147, 151, 155, 159, 163, 167, 171, 175, 181, 186, 190, 195].filterMap (fun i => tables_1_8[i]?) := by rfl
def jeC_7_4 : List Nat := [311, 312, 313, 314]
set_option maxRecDepth 100000 in
theorem jeC_7_4_ok : jeC_7_4.map jwCode = [199, 203, 207, 211].filterMap (fun i => tables_1_8[i]?) := by rfl
def jeC : List Nat := jeC_0_0 ++ (jeC_1_0 ++ (jeC_1_1 ++ (jeC_1_2 ++ (jeC_2_0 ++ (jeC_2_1 ++ (jeC_2_2 ++ (jeC_2_3 ++ (jeC_2_4 ++ (jeC_3_0 ++ (jeC_3_1 ++ (jeC_3_2 ++ (jeC_3_3 ++ (jeC_4_0 ++ (jeC_4_1 ++ (jeC_4_2 ++ (jeC_4_3 ++ (jeC_5_0 ++ (jeC_5_1 ++ (jeC_5_2 ++ (jeC_6_0 ++ (jeC_6_1 ++ (jeC_6_2 ++ (jeC_6_3 ++ (jeC_6_4 ++ (jeC_7_0 ++ (jeC_7_1 ++ (jeC_7_2 ++ (jeC_7_3 ++ (jeC_7_4)))))))))))))))))))))))))))))
theorem jin_ofl {α : Type} {f : α → Cond} {l : List α} {ps : List Nat} {tb : List Cond} (h : l.map f = ps.filterMap (fun i => tb[i]?)) {q : α} (hq : q ∈ l) : f q ∈ tb := by
  have h1 : f q ∈ l.map f := List.mem_map.mpr ⟨q, hq, rfl⟩
  rw [h] at h1
  obtain ⟨i, -, hi⟩ := List.mem_filterMap.mp h1
  exact List.mem_of_getElem? hi
theorem jeC_tb : ∀ q ∈ jeC, jwCode q ∈ lw_tbl := fun q h => by
  simp only [jeC, List.mem_append] at h
  rcases h with h | h | h | h | h | h | h | h | h | h | h | h | h | h | h | h | h | h | h | h | h | h | h | h | h | h | h | h | h | h
  · exact jpart (Or.inl (jin_ofl jeC_0_0_ok h))
  · exact jpart (Or.inr (Or.inl (jin_ofl jeC_1_0_ok h)))
  · exact jpart (Or.inr (Or.inl (jin_ofl jeC_1_1_ok h)))
  · exact jpart (Or.inr (Or.inl (jin_ofl jeC_1_2_ok h)))
  · exact jpart (Or.inr (Or.inr (Or.inl (jin_ofl jeC_2_0_ok h))))
  · exact jpart (Or.inr (Or.inr (Or.inl (jin_ofl jeC_2_1_ok h))))
  · exact jpart (Or.inr (Or.inr (Or.inl (jin_ofl jeC_2_2_ok h))))
  · exact jpart (Or.inr (Or.inr (Or.inl (jin_ofl jeC_2_3_ok h))))
  · exact jpart (Or.inr (Or.inr (Or.inl (jin_ofl jeC_2_4_ok h))))
  · exact jpart (Or.inr (Or.inr (Or.inr (Or.inl (jin_ofl jeC_3_0_ok h)))))
  · exact jpart (Or.inr (Or.inr (Or.inr (Or.inl (jin_ofl jeC_3_1_ok h)))))
  · exact jpart (Or.inr (Or.inr (Or.inr (Or.inl (jin_ofl jeC_3_2_ok h)))))
  · exact jpart (Or.inr (Or.inr (Or.inr (Or.inl (jin_ofl jeC_3_3_ok h)))))
  · exact jpart (Or.inr (Or.inr (Or.inr (Or.inr (Or.inl (jin_ofl jeC_4_0_ok h))))))
  · exact jpart (Or.inr (Or.inr (Or.inr (Or.inr (Or.inl (jin_ofl jeC_4_1_ok h))))))
  · exact jpart (Or.inr (Or.inr (Or.inr (Or.inr (Or.inl (jin_ofl jeC_4_2_ok h))))))
  · exact jpart (Or.inr (Or.inr (Or.inr (Or.inr (Or.inl (jin_ofl jeC_4_3_ok h))))))
  · exact jpart (Or.inr (Or.inr (Or.inr (Or.inr (Or.inr (Or.inl (jin_ofl jeC_5_0_ok h)))))))
  · exact jpart (Or.inr (Or.inr (Or.inr (Or.inr (Or.inr (Or.inl (jin_ofl jeC_5_1_ok h)))))))
  · exact jpart (Or.inr (Or.inr (Or.inr (Or.inr (Or.inr (Or.inl (jin_ofl jeC_5_2_ok h)))))))
  · exact jpart (Or.inr (Or.inr (Or.inr (Or.inr (Or.inr (Or.inr (Or.inl (jin_ofl jeC_6_0_ok h))))))))
  · exact jpart (Or.inr (Or.inr (Or.inr (Or.inr (Or.inr (Or.inr (Or.inl (jin_ofl jeC_6_1_ok h))))))))
  · exact jpart (Or.inr (Or.inr (Or.inr (Or.inr (Or.inr (Or.inr (Or.inl (jin_ofl jeC_6_2_ok h))))))))
  · exact jpart (Or.inr (Or.inr (Or.inr (Or.inr (Or.inr (Or.inr (Or.inl (jin_ofl jeC_6_3_ok h))))))))
  · exact jpart (Or.inr (Or.inr (Or.inr (Or.inr (Or.inr (Or.inr (Or.inl (jin_ofl jeC_6_4_ok h))))))))
  · exact jpart (Or.inr (Or.inr (Or.inr (Or.inr (Or.inr (Or.inr (Or.inr (jin_ofl jeC_7_0_ok h))))))))
  · exact jpart (Or.inr (Or.inr (Or.inr (Or.inr (Or.inr (Or.inr (Or.inr (jin_ofl jeC_7_1_ok h))))))))
  · exact jpart (Or.inr (Or.inr (Or.inr (Or.inr (Or.inr (Or.inr (Or.inr (jin_ofl jeC_7_2_ok h))))))))
  · exact jpart (Or.inr (Or.inr (Or.inr (Or.inr (Or.inr (Or.inr (Or.inr (jin_ofl jeC_7_3_ok h))))))))
  · exact jpart (Or.inr (Or.inr (Or.inr (Or.inr (Or.inr (Or.inr (Or.inr (jin_ofl jeC_7_4_ok h))))))))
theorem jeC_in : ∀ q ∈ jeC, jwCode q ∈ jtb := fun q h => List.mem_filter.mpr ⟨jeC_tb q h, rfl⟩
def wT (i : Nat) : Option Cond := bif Nat.blt i 83 then (k2_sels lw_privs)[i]? else (bif Nat.blt i 323 then tables_1_1[Nat.sub i 83]? else (bif Nat.blt i 563 then tables_1_2[Nat.sub i 323]? else (bif Nat.blt i 803 then tables_1_3[Nat.sub i 563]? else (bif Nat.blt i 1043 then tables_1_4[Nat.sub i 803]? else (bif Nat.blt i 1283 then tables_1_5[Nat.sub i 1043]? else (bif Nat.blt i 1523 then tables_1_6[Nat.sub i 1283]? else (bif Nat.blt i 1763 then tables_1_7[Nat.sub i 1523]? else (bif Nat.blt i 1977 then tables_1_8[Nat.sub i 1763]? else (none)))))))))
theorem wt_node {α : Type} {b : Bool} {x y : Option α} {q : α} {P : Prop} (hx : x = some q → P) (hy : y = some q → P) : (bif b then x else y) = some q → P := by
  cases b
  · exact hy
  · exact hx
theorem wT_sel {i : Nat} {w : Cond} (h : (k2_sels lw_privs)[i]? = some w) : w ∈ lw_tbl := by
  unfold lw_tbl
  exact List.mem_append.mpr (Or.inl (List.mem_of_getElem? h))
theorem wT_in {i : Nat} {w : Cond} : wT i = some w → w ∈ lw_tbl := wt_node wT_sel (wt_node (fun h => jpart (Or.inl (List.mem_of_getElem? h))) (wt_node (fun h => jpart (Or.inr (Or.inl (List.mem_of_getElem? h)))) (wt_node (fun h => jpart (Or.inr (Or.inr (Or.inl (List.mem_of_getElem? h))))) (wt_node (fun h => jpart (Or.inr (Or.inr (Or.inr (Or.inl (List.mem_of_getElem? h)))))) (wt_node (fun h => jpart (Or.inr (Or.inr (Or.inr (Or.inr (Or.inl (List.mem_of_getElem? h))))))) (wt_node (fun h => jpart (Or.inr (Or.inr (Or.inr (Or.inr (Or.inr (Or.inl (List.mem_of_getElem? h)))))))) (wt_node (fun h => jpart (Or.inr (Or.inr (Or.inr (Or.inr (Or.inr (Or.inr (Or.inl (List.mem_of_getElem? h))))))))) (wt_node (fun h => jpart (Or.inr (Or.inr (Or.inr (Or.inr (Or.inr (Or.inr (Or.inr (List.mem_of_getElem? h))))))))) (fun h => by cases h)))))))))
theorem jin_w {α : Type} {f : α → Cond} {l : List α} {ps : List Nat} (h : l.map f = ps.filterMap wT) {q : α} (hq : q ∈ l) : f q ∈ lw_tbl := by
  have h1 : f q ∈ l.map f := List.mem_map.mpr ⟨q, hq, rfl⟩
  rw [h] at h1
  obtain ⟨i, -, hi⟩ := List.mem_filterMap.mp h1
  exact wT_in hi
def jwKind (k : Nat) : Cond := if jkd k = 1 then .static (jyN k) else .instanceMethod (jyN k)
def jeK_0 : List Nat := [0, 1, 2, 3, 4, 5, 6, 7, 8, 9, 10, 11, 12, 13, 14, 15, 16, 17, 18, 19, 20, 21, 22, 23, 24, 25, 26, 27, 28, 29, 30, 31, 32, 33, 34, 35, 36, 37, 38, 39, 40, 41, 42, 43, 44, 45, 46, 47, 48, 49, 50, 51, 52, 53, 54, 55, 56, 57, 58, 59]
set_option maxRecDepth 100000 in
theorem jeK_ok_0 : jeK_0.map jwKind = [108, 111, 116, 122, 148, 185, 189, 208, 233, 237, 256, 297, 405, 471, 475, 478, 482, 486, 489, 493, 496, 500, 503, 507, 511, 515, 519, 522, 527, 534, 537, 541, 544, 548, 552, 555, 560, 565, 569, 573, 577, 581, 585, 590, 594, 598, 602, 606, 610, 614, 617, 621, 625, 631, 635, 640, 643, 647, 651, 655].filterMap wT := by decide +kernel
def jeK_1 : List Nat := [60, 61, 62, 63, 64, 65, 66, 67, 68, 69, 70, 71, 72, 73, 74, 75, 76, 77, 78, 79, 80, 81, 82, 83, 84, 85, 86, 87, 88, 89, 90, 91, 92, 93, 94, 95, 96, 97, 98, 99, 100, 101, 102, 103, 104, 105, 106, 107, 108, 109, 110, 111, 112, 113, 114, 115, 116, 117, 118, 119]
set_option maxRecDepth 100000 in
theorem jeK_ok_1 : jeK_1.map jwKind = [660, 663, 666, 670, 673, 677, 683, 687, 691, 694, 699, 702, 705, 708, 712, 727, 737, 740, 744, 747, 753, 757, 761, 765, 769, 773, 777, 781, 784, 789, 793, 798, 802, 810, 814, 819, 825, 883, 890, 897, 903, 907, 911, 915, 918, 923, 927, 931, 935, 939, 943, 947, 951, 955, 959, 963, 967, 971, 976, 979].filterMap wT := by decide +kernel
def jeK_2 : List Nat := [120, 121, 122, 123, 124, 125, 126, 127, 128, 129, 130, 131, 132, 133, 134, 135, 136, 137, 138, 139, 140, 141, 142, 143, 144, 145, 146, 147, 148, 149, 150, 151, 152, 153, 154, 155, 156, 157, 158, 159, 160, 161, 162, 163, 164, 165, 166, 167, 168, 169, 170, 171, 172, 173, 174, 175, 176, 177, 178, 179]
set_option maxRecDepth 100000 in
theorem jeK_ok_2 : jeK_2.map jwKind = [983, 988, 991, 995, 999, 1003, 1007, 1012, 1015, 1019, 1023, 1027, 1031, 1035, 1039, 1044, 1049, 1094, 1099, 1103, 1106, 1111, 1116, 1121, 1125, 1128, 1132, 1135, 1140, 1144, 1148, 1153, 1157, 1161, 1166, 1170, 1174, 1178, 1182, 1186, 1192, 1196, 1200, 1204, 1208, 1213, 1217, 1221, 1225, 1229, 1233, 1237, 1241, 1245, 1250, 1254, 1258, 1263, 1266, 1270].filterMap wT := by decide +kernel
def jeK_3 : List Nat := [180, 181, 182, 183, 184, 185, 186, 187, 188, 189, 190, 191, 192, 193, 194, 195, 196, 197, 198, 199, 200, 201, 202, 203, 204, 205, 206, 207, 208, 209, 210, 211, 212, 213, 214, 215, 216, 217, 218, 219, 220, 221, 222, 223, 224, 225, 226, 227, 228, 229, 230, 231, 232, 233, 234, 235, 236, 237, 238, 239]
set_option maxRecDepth 100000 in
theorem jeK_ok_3 : jeK_3.map jwKind = [1273, 1277, 1280, 1284, 1288, 1292, 1296, 1299, 1303, 1307, 1311, 1315, 1321, 1325, 1329, 1335, 1341, 1346, 1351, 1356, 1361, 1365, 1370, 1376, 1508, 1512, 1516, 1519, 1523, 1528, 1533, 1536, 1541, 1544, 1548, 1552, 1557, 1560, 1565, 1569, 1572, 1575, 1585, 1590, 1595, 1600, 1610, 1614, 1619, 1623, 1627, 1635, 1641, 1644, 1647, 1651, 1654, 1658, 1662, 1666].filterMap wT := by decide +kernel
def jeK_4 : List Nat := [240, 241, 242, 243, 244, 245, 246, 247, 248, 249, 250, 251, 252, 253, 254, 255, 256, 257, 258, 259, 260, 261, 262, 263, 264, 265, 266, 267, 268, 269, 270, 271, 272, 273, 274, 275, 276, 277, 278, 279, 280, 281, 282, 283, 284, 285, 286, 287, 288, 289, 290, 291, 292, 293, 294, 295, 296, 297, 298, 299]
set_option maxRecDepth 100000 in
theorem jeK_ok_4 : jeK_4.map jwKind = [1670, 1674, 1678, 1682, 1686, 1690, 1694, 1698, 1701, 1705, 1710, 1713, 1717, 1721, 1725, 1729, 1733, 1737, 1742, 1746, 1750, 1755, 1759, 1764, 1768, 1772, 1776, 1780, 1784, 1788, 1791, 1795, 1799, 1803, 1806, 1811, 1815, 1819, 1823, 1828, 1832, 1836, 1840, 1844, 1849, 1853, 1858, 1862, 1865, 1868, 1872, 1875, 1879, 1883, 1888, 1892, 1896, 1901, 1905, 1908].filterMap wT := by decide +kernel
def jeK_5 : List Nat := [300, 301, 302, 303, 304, 305, 306, 307, 308, 309, 310, 311, 312, 313, 314]
set_option maxRecDepth 100000 in
theorem jeK_ok_5 : jeK_5.map jwKind = [1912, 1916, 1921, 1924, 1929, 1933, 1936, 1942, 1947, 1951, 1956, 1960, 1964, 1968, 1972].filterMap wT := by decide +kernel
def jeK : List Nat := jeK_0 ++ (jeK_1 ++ (jeK_2 ++ (jeK_3 ++ (jeK_4 ++ (jeK_5)))))
theorem jeK_tb : ∀ q ∈ jeK, jwKind q ∈ lw_tbl := fun q h => by
  simp only [jeK, List.mem_append] at h
  rcases h with h | h | h | h | h | h
  · exact jin_w jeK_ok_0 h
  · exact jin_w jeK_ok_1 h
  · exact jin_w jeK_ok_2 h
  · exact jin_w jeK_ok_3 h
  · exact jin_w jeK_ok_4 h
  · exact jin_w jeK_ok_5 h
set_option maxRecDepth 100000 in
theorem jeK_gd : jeK.all (fun q => goodWord (jwKind q)) = true := by decide +kernel
theorem jeK_in : ∀ q ∈ jeK, jwKind q ∈ jtb := fun q h => List.mem_filter.mpr ⟨jeK_tb q h, List.all_eq_true.mp jeK_gd q h⟩
def jwSel (k : Nat) : Cond := .selects (jyN k).cls (jyN k) (jyN k)
def jeS_0 : List Nat := [13, 16, 17, 18, 20, 22, 23, 24, 25, 27, 28, 29, 30, 32, 33, 35, 36, 37, 38, 39, 40, 41, 42, 43, 44, 45, 46, 47, 48, 50, 51, 53, 54, 55, 56, 57, 58, 59, 60, 64, 65, 66, 67, 76, 79, 80, 81, 82, 83, 84, 85, 86, 87, 88, 89, 90, 91, 93, 94, 95]
set_option maxRecDepth 100000 in
theorem jeS_ok_0 : jeS_0.map jwSel = [472, 0, 1, 490, 497, 504, 508, 512, 516, 523, 528, 2, 538, 545, 549, 556, 561, 566, 570, 574, 578, 582, 586, 591, 595, 599, 603, 607, 611, 618, 622, 632, 636, 3, 644, 648, 652, 656, 4, 674, 678, 684, 688, 5, 748, 6, 7, 8, 9, 10, 11, 12, 13, 785, 790, 794, 799, 811, 815, 14].filterMap wT := by decide +kernel
def jeS_1 : List Nat := [97, 98, 99, 100, 101, 102, 103, 105, 106, 107, 108, 109, 110, 111, 112, 113, 114, 115, 116, 117, 118, 119, 120, 121, 122, 123, 124, 125, 126, 127, 128, 129, 130, 131, 132, 133, 134, 135, 137, 138, 139, 140, 141, 142, 143, 144, 146, 147, 148, 149, 150, 151, 152, 153, 154, 155, 156, 157, 158, 159]
set_option maxRecDepth 100000 in
theorem jeS_ok_1 : jeS_1.map jwSel = [884, 891, 898, 15, 16, 17, 18, 19, 20, 21, 22, 940, 944, 948, 952, 956, 960, 964, 968, 972, 23, 980, 984, 24, 992, 996, 1000, 1004, 1008, 25, 1016, 1020, 1024, 1028, 1032, 1036, 1040, 26, 1095, 27, 28, 1107, 29, 30, 31, 32, 33, 1136, 34, 35, 1149, 36, 1158, 1162, 1167, 1171, 1175, 1179, 1183, 1187].filterMap wT := by decide +kernel
def jeS_2 : List Nat := [160, 162, 163, 164, 165, 166, 167, 168, 169, 170, 171, 172, 173, 174, 175, 176, 177, 178, 180, 182, 183, 184, 185, 187, 188, 189, 190, 191, 192, 193, 194, 195, 196, 197, 198, 199, 200, 201, 202, 204, 206, 207, 208, 209, 210, 211, 212, 213, 214, 215, 216, 217, 218, 219, 222, 223, 224, 225, 226, 227]
set_option maxRecDepth 100000 in
theorem jeS_ok_2 : jeS_2.map jwSel = [1193, 1201, 1205, 1209, 1214, 1218, 1222, 1226, 1230, 1234, 1238, 1242, 1246, 1251, 1255, 1259, 37, 1267, 1274, 1281, 1285, 1289, 1293, 1300, 1304, 1308, 1312, 1316, 1322, 1326, 1330, 1336, 1342, 1347, 1352, 1357, 1362, 1366, 1371, 1509, 38, 1520, 1524, 39, 40, 1537, 41, 1545, 1549, 1553, 42, 1561, 43, 44, 45, 46, 47, 48, 49, 50].filterMap wT := by decide +kernel
def jeS_3 : List Nat := [228, 229, 230, 231, 232, 234, 236, 237, 240, 241, 242, 243, 244, 245, 246, 247, 248, 250, 251, 252, 253, 254, 255, 256, 257, 258, 259, 260, 261, 262, 263, 264, 265, 266, 267, 268, 269, 270, 271, 272, 274, 275, 276, 277, 278, 279, 280, 281, 282, 283, 284, 285, 286, 287, 290, 291, 292, 293, 294, 295]
set_option maxRecDepth 100000 in
theorem jeS_ok_3 : jeS_3.map jwSel = [51, 52, 53, 54, 55, 1648, 1655, 1659, 56, 57, 58, 59, 60, 61, 62, 63, 1702, 64, 1714, 1718, 1722, 1726, 1730, 1734, 1738, 1743, 1747, 1751, 1756, 1760, 65, 66, 67, 68, 69, 70, 71, 1792, 1796, 1800, 1807, 1812, 1816, 1820, 1824, 1829, 1833, 1837, 1841, 1845, 72, 73, 74, 75, 76, 1876, 1880, 1884, 77, 1893].filterMap wT := by decide +kernel
def jeS_4 : List Nat := [296, 297, 298, 299, 300, 301, 302, 303, 304, 305, 306, 307, 308, 309, 310, 311, 312, 313, 314]
set_option maxRecDepth 100000 in
theorem jeS_ok_4 : jeS_4.map jwSel = [1897, 78, 79, 1909, 1913, 1917, 80, 1925, 81, 82, 1937, 1943, 1948, 1952, 1957, 1961, 1965, 1969, 1973].filterMap wT := by decide +kernel
def jeS : List Nat := jeS_0 ++ (jeS_1 ++ (jeS_2 ++ (jeS_3 ++ (jeS_4))))
theorem jeS_tb : ∀ q ∈ jeS, jwSel q ∈ lw_tbl := fun q h => by
  simp only [jeS, List.mem_append] at h
  rcases h with h | h | h | h | h
  · exact jin_w jeS_ok_0 h
  · exact jin_w jeS_ok_1 h
  · exact jin_w jeS_ok_2 h
  · exact jin_w jeS_ok_3 h
  · exact jin_w jeS_ok_4 h
set_option maxRecDepth 100000 in
theorem jeS_gd : jeS.all (fun q => goodWord (jwSel q)) = true := by decide +kernel
theorem jeS_in : ∀ q ∈ jeS, jwSel q ∈ jtb := fun q h => List.mem_filter.mpr ⟨jeS_tb q h, List.all_eq_true.mp jeS_gd q h⟩
def jwIni (k : Nat) : Cond := .initialized (jyN k).cls
def jeI_0 : List Nat := [0, 2, 3, 4, 5, 6, 7, 8, 9, 10, 11, 12, 13, 14, 15, 16, 17, 18, 19, 20, 21, 22, 23, 24, 25, 26, 27, 28, 29, 30, 31, 32, 33, 34, 35, 36, 37, 38, 39, 40, 41, 42, 43, 44, 45, 46, 47, 48, 49, 50, 51, 52, 53, 54, 55, 56, 57, 58, 59, 60]
set_option maxRecDepth 100000 in
theorem jeI_ok_0 : jeI_0.map jwIni = [84, 85, 86, 87, 88, 89, 90, 91, 92, 93, 94, 95, 84, 84, 84, 84, 84, 84, 84, 84, 84, 85, 86, 88, 85, 87, 86, 87, 86, 85, 85, 90, 84, 84, 85, 84, 84, 84, 84, 84, 90, 84, 84, 84, 84, 84, 88, 88, 89, 84, 85, 97, 84, 84, 84, 84, 84, 84, 95, 95].filterMap wT := by decide +kernel
def jeI_1 : List Nat := [61, 62, 63, 64, 65, 66, 67, 68, 69, 70, 71, 72, 73, 74, 75, 76, 77, 78, 79, 80, 81, 82, 83, 84, 85, 86, 87, 88, 89, 90, 91, 92, 93, 94, 95, 96, 97, 98, 99, 100, 101, 102, 103, 104, 105, 106, 107, 108, 109, 110, 111, 112, 113, 114, 115, 116, 117, 118, 119, 120]
set_option maxRecDepth 100000 in
theorem jeI_ok_1 : jeI_1.map jwIni = [95, 95, 95, 98, 98, 98, 98, 99, 98, 100, 101, 101, 101, 101, 95, 95, 95, 95, 87, 95, 95, 95, 95, 95, 95, 95, 95, 87, 87, 95, 87, 85, 84, 84, 84, 103, 103, 86, 103, 103, 103, 103, 103, 103, 103, 103, 103, 103, 84, 84, 103, 84, 103, 84, 103, 84, 103, 103, 84, 103].filterMap wT := by decide +kernel
def jeI_2 : List Nat := [121, 122, 123, 124, 125, 126, 127, 128, 129, 130, 131, 132, 133, 134, 135, 136, 137, 138, 139, 140, 141, 142, 143, 144, 145, 146, 147, 148, 149, 150, 151, 152, 153, 154, 155, 156, 157, 158, 159, 160, 161, 162, 163, 164, 165, 166, 167, 168, 169, 170, 171, 172, 173, 174, 175, 176, 177, 178, 179, 180]
set_option maxRecDepth 100000 in
theorem jeI_ok_2 : jeI_2.map jwIni = [103, 84, 103, 103, 84, 91, 84, 84, 93, 84, 84, 93, 93, 84, 84, 104, 104, 104, 104, 91, 91, 91, 104, 104, 104, 104, 93, 104, 104, 104, 104, 84, 104, 84, 93, 84, 94, 84, 85, 94, 89, 84, 84, 85, 94, 84, 85, 84, 85, 84, 85, 86, 91, 84, 85, 94, 94, 84, 84, 84].filterMap wT := by decide +kernel
def jeI_3 : List Nat := [181, 182, 183, 184, 185, 186, 187, 188, 189, 190, 191, 192, 193, 194, 195, 196, 197, 198, 199, 200, 201, 202, 203, 204, 205, 206, 207, 208, 209, 210, 211, 212, 213, 214, 215, 216, 217, 218, 219, 220, 221, 222, 223, 224, 225, 226, 227, 228, 229, 230, 231, 232, 233, 234, 235, 236, 237, 238, 239, 240]
set_option maxRecDepth 100000 in
theorem jeI_ok_3 : jeI_3.map jwIni = [84, 84, 84, 84, 85, 85, 84, 85, 84, 85, 86, 86, 84, 85, 88, 90, 91, 93, 94, 84, 84, 84, 96, 96, 96, 96, 96, 96, 96, 96, 96, 96, 96, 96, 96, 96, 96, 96, 96, 96, 96, 96, 96, 96, 96, 96, 96, 96, 96, 96, 96, 96, 96, 96, 96, 96, 96, 96, 96, 96].filterMap wT := by decide +kernel
def jeI_4 : List Nat := [241, 242, 243, 244, 245, 246, 247, 248, 249, 250, 251, 252, 253, 254, 255, 256, 257, 258, 259, 260, 261, 262, 263, 264, 265, 266, 267, 268, 269, 270, 271, 272, 273, 274, 275, 276, 277, 278, 279, 280, 281, 282, 283, 284, 285, 286, 287, 288, 289, 290, 291, 292, 293, 294, 295, 296, 297, 298, 299, 300]
set_option maxRecDepth 100000 in
theorem jeI_ok_4 : jeI_4.map jwIni = [96, 96, 96, 96, 96, 96, 96, 96, 96, 96, 96, 96, 96, 96, 96, 96, 96, 96, 96, 96, 96, 96, 96, 96, 96, 96, 96, 96, 96, 96, 96, 96, 96, 96, 96, 96, 96, 96, 96, 96, 96, 96, 96, 96, 96, 96, 96, 96, 96, 96, 96, 96, 96, 96, 96, 96, 96, 96, 96, 96].filterMap wT := by decide +kernel
def jeI_5 : List Nat := [301, 302, 303, 304, 305, 306, 307, 308, 309, 310, 311, 312, 313, 314]
set_option maxRecDepth 100000 in
theorem jeI_ok_5 : jeI_5.map jwIni = [96, 96, 96, 96, 96, 96, 96, 96, 96, 96, 96, 96, 96, 96].filterMap wT := by decide +kernel
def jeI : List Nat := jeI_0 ++ (jeI_1 ++ (jeI_2 ++ (jeI_3 ++ (jeI_4 ++ (jeI_5)))))
theorem jeI_tb : ∀ q ∈ jeI, jwIni q ∈ lw_tbl := fun q h => by
  simp only [jeI, List.mem_append] at h
  rcases h with h | h | h | h | h | h
  · exact jin_w jeI_ok_0 h
  · exact jin_w jeI_ok_1 h
  · exact jin_w jeI_ok_2 h
  · exact jin_w jeI_ok_3 h
  · exact jin_w jeI_ok_4 h
  · exact jin_w jeI_ok_5 h
set_option maxRecDepth 100000 in
theorem jeI_gd : jeI.all (fun q => goodWord (jwIni q)) = true := by decide +kernel
theorem jeI_in : ∀ q ∈ jeI, jwIni q ∈ jtb := fun q h => List.mem_filter.mpr ⟨jeI_tb q h, List.all_eq_true.mp jeI_gd q h⟩
def jwF (q : Nat × Nat × Nat × Nat) : Cond := .fieldLink (jcN q.1) q.2.1 (jcl.getD q.2.2.1 (RX0, TX0, 0)).1 ((jcl.getD q.2.2.1 (RX0, TX0, 0)).2.1 q.2.2.2).2.1 ((jcl.getD q.2.2.1 (RX0, TX0, 0)).2.1 q.2.2.2).2.2.1
def jeF_0 : List (Nat × Nat × Nat × Nat) := [(0, 9, 0, 0), (0, 21, 0, 1), (0, 25, 0, 2), (0, 32, 5, 7), (0, 37, 5, 0), (0, 44, 5, 1), (0, 47, 5, 2), (1, 9, 1, 1), (1, 15, 1, 2), (1, 24, 1, 0), (1, 34, 1, 3), (2, 11, 2, 3), (2, 17, 2, 4), (2, 20, 2, 5), (2, 23, 2, 6), (2, 26, 2, 7), (2, 30, 2, 8), (2, 33, 2, 1), (2, 43, 2, 11), (2, 47, 6, 0), (2, 50, 2, 9), (2, 51, 6, 4), (2, 54, 2, 10), (2, 63, 2, 2), (2, 79, 2, 0), (2, 87, 6, 5), (2, 90, 6, 6), (2, 98, 6, 2), (2, 101, 6, 3), (3, 12, 3, 0), (3, 18, 3, 1), (3, 22, 3, 2), (3, 25, 3, 3), (3, 35, 3, 5), (3, 39, 3, 6), (3, 50, 3, 4), (3, 123, 5, 5), (4, 15, 4, 0), (4, 21, 4, 1), (4, 31, 4, 2), (4, 34, 4, 3), (5, 11, 5, 1), (5, 15, 5, 2), (5, 18, 5, 3), (5, 21, 5, 4), (5, 24, 5, 6), (5, 27, 5, 7), (5, 30, 5, 0), (5, 40, 5, 5), (5, 49, 0, 1), (5, 54, 0, 2), (5, 61, 0, 0), (6, 11, 6, 1), (6, 15, 6, 2), (6, 18, 6, 3), (6, 21, 6, 5), (6, 24, 6, 6), (6, 27, 6, 7), (6, 30, 6, 0), (6, 40, 6, 4)]
set_option maxRecDepth 100000 in
theorem jeF_ok_0 : jeF_0.map jwF = [125, 130, 134, 164, 152, 155, 157, 241, 242, 239, 243, 1058, 1060, 1061, 1062, 1063, 1064, 1054, 1067, 260, 1065, 270, 1066, 1056, 1052, 273, 275, 264, 267, 410, 412, 413, 414, 416, 417, 415, 161, 191, 192, 193, 194, 154, 156, 158, 159, 162, 163, 151, 160, 132, 136, 129, 262, 263, 266, 272, 274, 276, 259, 269].filterMap wT := by decide +kernel
def jeF_1 : List (Nat × Nat × Nat × Nat) := [(7, 12, 7, 0), (7, 21, 7, 1), (7, 25, 7, 2), (7, 33, 7, 6), (7, 37, 7, 7), (7, 40, 7, 8), (7, 44, 7, 9), (7, 47, 7, 10), (7, 50, 7, 11), (7, 53, 7, 12), (7, 56, 7, 13), (7, 59, 7, 14), (7, 62, 7, 15), (7, 68, 7, 16), (7, 75, 7, 17), (7, 82, 7, 18), (7, 89, 7, 19), (7, 106, 7, 3), (7, 110, 7, 4), (7, 113, 7, 5), (7, 155, 0, 0), (7, 169, 10, 1), (7, 206, 8, 0), (7, 209, 8, 4), (7, 213, 8, 3), (7, 216, 8, 1), (8, 11, 8, 1), (8, 15, 8, 2), (8, 18, 8, 3), (8, 21, 8, 4), (8, 25, 8, 0), (9, 11, 9, 0), (9, 15, 9, 1), (9, 18, 9, 2), (9, 21, 9, 3), (9, 24, 9, 4), (9, 27, 9, 5), (9, 31, 9, 6), (9, 37, 9, 8), (9, 41, 9, 9), (9, 44, 9, 10), (9, 50, 9, 11), (9, 54, 9, 12), (9, 57, 9, 14), (9, 73, 9, 7), (9, 83, 0, 0), (9, 92, 0, 1), (9, 99, 9, 13), (10, 9, 10, 2), (10, 13, 10, 3), (10, 16, 10, 4), (10, 19, 10, 0), (10, 23, 10, 1), (11, 10, 11, 0), (11, 16, 11, 3), (11, 23, 11, 5), (11, 27, 11, 6), (11, 31, 11, 8), (11, 45, 7, 9), (11, 54, 7, 0)]
set_option maxRecDepth 100000 in
theorem jeF_ok_1 : jeF_1.map jwF = [323, 325, 326, 333, 335, 337, 339, 341, 343, 345, 347, 349, 351, 353, 355, 357, 359, 327, 329, 331, 127, 214, 301, 309, 307, 304, 303, 305, 306, 308, 300, 832, 834, 836, 838, 840, 841, 842, 844, 845, 846, 847, 848, 850, 843, 126, 131, 849, 216, 217, 218, 211, 213, 433, 436, 438, 439, 441, 340, 324].filterMap wT := by decide +kernel
def jeF_2 : List (Nat × Nat × Nat × Nat) := [(11, 58, 0, 2), (11, 66, 7, 4), (11, 79, 0, 0), (11, 86, 7, 12), (11, 89, 7, 13), (11, 92, 7, 16), (11, 102, 10, 0), (11, 109, 7, 10), (11, 112, 0, 1), (11, 115, 7, 8), (11, 118, 7, 7), (11, 135, 7, 6), (11, 138, 11, 4), (11, 145, 7, 3), (11, 160, 3, 0), (11, 170, 5, 0), (11, 176, 11, 9), (11, 183, 11, 10), (11, 193, 9, 3), (11, 196, 9, 1), (11, 205, 9, 0), (11, 214, 9, 2), (11, 228, 7, 17), (11, 238, 1, 0), (11, 239, 7, 18), (11, 248, 6, 0), (11, 251, 6, 2), (11, 254, 6, 3), (11, 274, 2, 1), (11, 277, 2, 2), (11, 280, 6, 4), (11, 283, 2, 3), (11, 292, 7, 19), (11, 299, 8, 0), (11, 305, 7, 11), (11, 329, 7, 14), (11, 335, 7, 15), (11, 353, 11, 1), (11, 356, 11, 2), (11, 365, 4, 3), (11, 368, 7, 5), (11, 371, 10, 1), (11, 374, 11, 7), (11, 377, 11, 11), (11, 381, 2, 0), (12, 7, 12, 2), (12, 13, 12, 3), (12, 16, 12, 4), (12, 20, 12, 5), (12, 23, 12, 11), (12, 27, 12, 14), (12, 30, 12, 16), (12, 33, 12, 17), (12, 36, 12, 19), (12, 39, 12, 22), (12, 42, 12, 23), (12, 45, 12, 24), (12, 48, 12, 27), (12, 51, 12, 28), (12, 54, 12, 29)]
set_option maxRecDepth 100000 in
theorem jeF_ok_2 : jeF_2.map jwF = [135, 330, 128, 346, 348, 354, 212, 342, 133, 338, 336, 334, 437, 328, 411, 153, 442, 443, 839, 835, 833, 837, 356, 240, 358, 261, 265, 268, 1055, 1057, 271, 1059, 360, 302, 344, 350, 352, 434, 435, 195, 332, 215, 440, 444, 1053, 1382, 1383, 1384, 1385, 1391, 1394, 1396, 1397, 1399, 1402, 1403, 1404, 1407, 1408, 1409].filterMap wT := by decide +kernel
def jeF_3 : List (Nat × Nat × Nat × Nat) := [(12, 57, 12, 30), (12, 60, 12, 31), (12, 63, 12, 32), (12, 66, 12, 33), (12, 69, 12, 34), (12, 72, 12, 35), (12, 75, 12, 36), (12, 78, 12, 37), (12, 82, 12, 38), (12, 85, 12, 39), (12, 88, 12, 40), (12, 91, 12, 41), (12, 94, 12, 0), (12, 97, 12, 1), (12, 125, 12, 6), (12, 132, 12, 8), (12, 135, 12, 12), (12, 142, 12, 7), (12, 145, 12, 10), (12, 156, 12, 9), (12, 175, 12, 15), (12, 178, 12, 20), (12, 198, 12, 18), (12, 215, 12, 21), (12, 236, 12, 13), (12, 261, 12, 25), (12, 312, 12, 26)]
set_option maxRecDepth 100000 in
theorem jeF_ok_3 : jeF_3.map jwF = [1410, 1411, 1412, 1413, 1414, 1415, 1416, 1417, 1418, 1419, 1420, 1421, 1380, 1381, 1386, 1388, 1392, 1387, 1390, 1389, 1395, 1400, 1398, 1401, 1393, 1405, 1406].filterMap wT := by decide +kernel
def jeF : List (Nat × Nat × Nat × Nat) := jeF_0 ++ (jeF_1 ++ (jeF_2 ++ (jeF_3)))
theorem jeF_tb : ∀ q ∈ jeF, jwF q ∈ lw_tbl := fun q h => by
  simp only [jeF, List.mem_append] at h
  rcases h with h | h | h | h
  · exact jin_w jeF_ok_0 h
  · exact jin_w jeF_ok_1 h
  · exact jin_w jeF_ok_2 h
  · exact jin_w jeF_ok_3 h
set_option maxRecDepth 100000 in
theorem jeF_gd : jeF.all (fun q => goodWord (jwF q)) = true := by decide +kernel
theorem jeF_in : ∀ q ∈ jeF, jwF q ∈ jtb := fun q h => List.mem_filter.mpr ⟨jeF_tb q h, List.all_eq_true.mp jeF_gd q h⟩
def jwM (q : Nat × Nat × Nat) : Cond := .methodLink (jcN q.1) q.2.1 (jyN q.2.2)
def jeM_0 : List (Nat × Nat × Nat) := [(0, 3, 1), (0, 15, 92), (0, 28, 23), (0, 40, 28), (0, 50, 29), (0, 54, 30), (0, 58, 172), (0, 62, 52), (1, 3, 1), (1, 18, 9), (1, 28, 92), (1, 38, 141), (1, 46, 140), (1, 50, 142), (2, 5, 1), (2, 37, 52), (2, 55, 138), (2, 59, 143), (2, 66, 9), (2, 72, 150), (2, 76, 151), (2, 83, 139), (2, 93, 140), (2, 104, 144), (2, 108, 148), (2, 111, 145), (2, 115, 146), (2, 119, 147), (2, 123, 149), (3, 3, 1), (3, 28, 60), (3, 32, 79), (3, 42, 80), (3, 46, 81), (3, 53, 61), (3, 57, 62), (3, 61, 76), (3, 65, 77), (3, 68, 78), (3, 71, 49), (3, 79, 63), (3, 95, 75), (3, 110, 64), (3, 116, 66), (3, 120, 82), (3, 126, 83), (3, 129, 26), (3, 132, 89), (3, 136, 84), (3, 139, 88), (3, 143, 85), (3, 146, 86), (3, 149, 87), (4, 3, 1), (4, 9, 6), (4, 25, 92), (4, 37, 49), (4, 40, 48), (5, 3, 1), (5, 34, 92)]
set_option maxRecDepth 100000 in
theorem jeM_ok_0 : jeM_0.map jwM = [124, 893, 525, 526, 532, 536, 1318, 1319, 235, 236, 1349, 1109, 1248, 1114, 1051, 1164, 1097, 1119, 1146, 1147, 1151, 1101, 1105, 1123, 1138, 1127, 1130, 1134, 1142, 407, 658, 746, 751, 755, 662, 665, 735, 739, 743, 742, 669, 726, 672, 682, 759, 763, 787, 788, 767, 783, 771, 775, 779, 187, 188, 1338, 613, 609, 150, 801].filterMap wT := by decide +kernel
def jeM_1 : List (Nat × Nat × Nat) := [(5, 43, 9), (6, 3, 1), (6, 34, 92), (7, 3, 1), (7, 30, 5), (7, 74, 8), (7, 93, 9), (7, 99, 98), (7, 103, 91), (7, 116, 195), (7, 119, 92), (7, 123, 196), (7, 126, 197), (7, 129, 198), (7, 132, 199), (7, 135, 23), (7, 139, 24), (7, 143, 25), (7, 147, 26), (7, 151, 27), (7, 158, 30), (7, 162, 31), (7, 166, 32), (7, 172, 49), (7, 177, 186), (7, 180, 48), (7, 184, 47), (7, 187, 160), (7, 195, 165), (7, 199, 172), (7, 203, 173), (8, 3, 1), (8, 29, 92), (8, 35, 161), (8, 41, 177), (9, 3, 1), (9, 61, 92), (9, 67, 49), (9, 76, 91), (9, 80, 98), (9, 95, 27), (9, 103, 9), (9, 109, 100), (9, 113, 101), (9, 117, 105), (9, 121, 106), (9, 125, 108), (9, 129, 102), (9, 133, 103), (9, 137, 104), (9, 141, 26), (9, 144, 107), (9, 147, 52), (9, 152, 118), (9, 155, 121), (10, 1, 1), (10, 26, 92), (11, 1, 1), (11, 9, 2), (11, 34, 14)]
set_option maxRecDepth 100000 in
theorem jeM_ok_1 : jeM_1.map jwM = [750, 258, 1354, 118, 184, 232, 322, 1332, 1333, 1334, 1339, 1340, 1345, 1350, 1355, 506, 510, 514, 518, 521, 558, 540, 543, 804, 1295, 1189, 1190, 1191, 1212, 1240, 1244, 299, 1359, 1195, 1261, 827, 886, 887, 888, 889, 895, 900, 901, 905, 921, 925, 933, 909, 913, 917, 920, 929, 937, 974, 986, 210, 1344, 110, 115, 474].filterMap wT := by decide +kernel
def jeM_2 : List (Nat × Nat × Nat) := [(11, 38, 15), (11, 41, 16), (11, 48, 17), (11, 51, 19), (11, 63, 21), (11, 69, 22), (11, 73, 34), (11, 76, 35), (11, 82, 30), (11, 96, 41), (11, 105, 32), (11, 122, 47), (11, 127, 51), (11, 130, 52), (11, 141, 55), (11, 148, 59), (11, 152, 90), (11, 156, 25), (11, 164, 91), (11, 173, 95), (11, 186, 97), (11, 190, 99), (11, 199, 111), (11, 202, 113), (11, 208, 115), (11, 211, 117), (11, 217, 120), (11, 220, 123), (11, 224, 124), (11, 232, 126), (11, 235, 127), (11, 243, 129), (11, 257, 132), (11, 260, 133), (11, 264, 135), (11, 268, 150), (11, 286, 153), (11, 289, 155), (11, 296, 157), (11, 302, 159), (11, 308, 164), (11, 311, 167), (11, 314, 169), (11, 317, 171), (11, 320, 175), (11, 323, 176), (11, 326, 179), (11, 332, 181), (11, 338, 185), (11, 341, 188), (11, 344, 190), (11, 347, 191), (11, 350, 192), (11, 359, 194), (11, 362, 48), (11, 386, 137), (11, 390, 26), (12, 1, 1), (12, 100, 205), (12, 104, 206)]
set_option maxRecDepth 100000 in
theorem jeM_ok_2 : jeM_2.map jwM = [477, 480, 484, 492, 499, 502, 551, 554, 563, 580, 588, 605, 620, 624, 638, 654, 792, 796, 797, 817, 882, 896, 946, 954, 962, 970, 982, 994, 998, 1006, 1010, 1018, 1030, 1034, 1042, 1155, 1160, 1169, 1177, 1185, 1207, 1220, 1228, 1236, 1253, 1257, 1269, 1276, 1291, 1302, 1310, 1314, 1320, 1328, 1368, 1093, 821, 1378, 1511, 1514].filterMap wT := by decide +kernel
def jeM_3 : List (Nat × Nat × Nat) := [(12, 116, 209), (12, 122, 210), (12, 128, 212), (12, 139, 219), (12, 149, 220), (12, 153, 221), (12, 171, 224), (12, 181, 233), (12, 184, 231), (12, 190, 223), (12, 203, 225), (12, 209, 228), (12, 212, 229), (12, 218, 230), (12, 221, 227), (12, 229, 232), (12, 249, 226), (12, 252, 216), (12, 255, 218), (12, 258, 222), (12, 264, 243), (12, 268, 247), (12, 271, 245), (12, 275, 246), (12, 278, 242), (12, 281, 244), (12, 285, 235), (12, 288, 238), (12, 291, 239), (12, 294, 240), (12, 297, 241), (12, 301, 249), (12, 304, 250), (12, 315, 266), (12, 319, 263), (12, 322, 268), (12, 325, 269), (12, 328, 264), (12, 332, 265), (12, 335, 267), (12, 338, 273), (12, 346, 288), (12, 349, 287), (12, 353, 289), (12, 356, 290), (12, 360, 285), (12, 363, 286), (12, 366, 284), (12, 369, 294), (12, 373, 297), (12, 376, 298), (12, 379, 302), (12, 382, 304), (12, 385, 305), (13, 9, 0), (13, 12, 203), (13, 13, 13), (13, 17, 234), (13, 18, 18), (13, 21, 236)]
set_option maxRecDepth 100000 in
theorem jeM_ok_3 : jeM_3.map jwM = [1526, 1531, 1539, 1567, 1571, 1574, 1593, 1643, 1633, 1588, 1598, 1617, 1621, 1625, 1612, 1639, 1608, 1555, 1563, 1583, 1680, 1696, 1688, 1692, 1676, 1684, 1650, 1661, 1665, 1668, 1672, 1704, 1708, 1774, 1762, 1782, 1786, 1766, 1770, 1778, 1802, 1864, 1860, 1867, 1870, 1851, 1856, 1847, 1886, 1899, 1903, 1919, 1927, 1931, 107, 1375, 470, 1646, 488, 1653].filterMap wT := by decide +kernel
def jeM_4 : List (Nat × Nat × Nat) := [(13, 22, 20), (13, 26, 237), (13, 27, 33), (13, 30, 248), (13, 31, 36), (13, 34, 251), (13, 35, 37), (13, 39, 252), (13, 40, 38), (13, 43, 253), (13, 44, 39), (13, 47, 254), (13, 48, 40), (13, 51, 255), (13, 52, 42), (13, 55, 256), (13, 56, 43), (13, 59, 257), (13, 60, 44), (13, 64, 258), (13, 65, 45), (13, 68, 259), (13, 69, 46), (13, 72, 260), (13, 73, 50), (13, 76, 261), (13, 77, 53), (13, 80, 208), (13, 81, 54), (13, 85, 211), (13, 86, 56), (13, 89, 213), (13, 90, 57), (13, 93, 215), (13, 94, 58), (13, 98, 217), (13, 99, 93), (13, 102, 214), (13, 103, 94), (13, 106, 262), (13, 107, 109), (13, 110, 275), (13, 111, 110), (13, 114, 276), (13, 115, 112), (13, 118, 277), (13, 119, 114), (13, 122, 270), (13, 123, 116), (13, 126, 271), (13, 127, 119), (13, 130, 272), (13, 131, 122), (13, 134, 274), (13, 135, 125), (13, 138, 278), (13, 139, 128), (13, 142, 279), (13, 143, 130), (13, 146, 280)]
set_option maxRecDepth 100000 in
theorem jeM_ok_4 : jeM_4.map jwM = [495, 1657, 547, 1700, 559, 1712, 564, 1716, 568, 1720, 572, 1724, 576, 1728, 584, 1732, 589, 1736, 593, 1741, 597, 1745, 601, 1749, 616, 1754, 630, 1522, 634, 1535, 642, 1543, 646, 1551, 650, 1559, 809, 1547, 813, 1758, 938, 1810, 942, 1814, 950, 1818, 958, 1790, 966, 1794, 978, 1798, 990, 1805, 1002, 1822, 1014, 1827, 1022, 1831].filterMap wT := by decide +kernel
def jeM_5 : List (Nat × Nat × Nat) := [(13, 147, 131), (13, 150, 281), (13, 151, 134), (13, 154, 283), (13, 155, 152), (13, 158, 291), (13, 159, 154), (13, 162, 282), (13, 163, 156), (13, 166, 292), (13, 167, 158), (13, 170, 293), (13, 171, 162), (13, 174, 295), (13, 175, 163), (13, 178, 296), (13, 179, 166), (13, 182, 299), (13, 183, 168), (13, 186, 300), (13, 187, 170), (13, 190, 301), (13, 191, 174), (13, 194, 303), (13, 195, 178), (13, 198, 306), (13, 199, 180), (13, 202, 307), (13, 203, 182), (13, 206, 308), (13, 207, 183), (13, 210, 309), (13, 211, 184), (13, 214, 310), (13, 215, 187), (13, 218, 311), (13, 219, 189), (13, 222, 312), (13, 223, 193), (13, 226, 204), (13, 227, 200), (13, 230, 207), (13, 231, 201), (13, 234, 313), (13, 235, 202), (13, 238, 314), (16, 335, 65), (16, 492, 67), (16, 495, 68), (16, 498, 71), (16, 1059, 70), (17, 9, 69), (21, 48, 73), (21, 67, 72), (21, 71, 74), (21, 414, 69)]
set_option maxRecDepth 100000 in
theorem jeM_ok_5 : jeM_5.map jwM = [1026, 1835, 1038, 1843, 1156, 1874, 1165, 1839, 1173, 1878, 1181, 1882, 1199, 1891, 1203, 1895, 1216, 1907, 1224, 1911, 1232, 1915, 1249, 1923, 1265, 1935, 1272, 1941, 1279, 1946, 1283, 1950, 1287, 1955, 1298, 1959, 1306, 1963, 1324, 1507, 1360, 1518, 1364, 1967, 1369, 1971, 676, 686, 690, 701, 698, 693, 707, 704, 711, 710].filterMap wT := by decide +kernel
def jeM : List (Nat × Nat × Nat) := jeM_0 ++ (jeM_1 ++ (jeM_2 ++ (jeM_3 ++ (jeM_4 ++ (jeM_5)))))
theorem jeM_tb : ∀ q ∈ jeM, jwM q ∈ lw_tbl := fun q h => by
  simp only [jeM, List.mem_append] at h
  rcases h with h | h | h | h | h | h
  · exact jin_w jeM_ok_0 h
  · exact jin_w jeM_ok_1 h
  · exact jin_w jeM_ok_2 h
  · exact jin_w jeM_ok_3 h
  · exact jin_w jeM_ok_4 h
  · exact jin_w jeM_ok_5 h
set_option maxRecDepth 100000 in
theorem jeM_gd : jeM.all (fun q => goodWord (jwM q)) = true := by decide +kernel
theorem jeM_in : ∀ q ∈ jeM, jwM q ∈ jtb := fun q h => List.mem_filter.mpr ⟨jeM_tb q h, List.all_eq_true.mp jeM_gd q h⟩
def jwN (q : Nat × Nat × Nat) : Cond := .methodLinkNest (jcN q.1) q.2.1 (jyN q.2.2) "TrainDescriber"
def jeN_0 : List (Nat × Nat × Nat) := [(1, 41, 14), (3, 11, 4), (5, 57, 14), (7, 11, 3), (7, 20, 4), (7, 67, 7), (7, 81, 10), (7, 88, 11), (7, 192, 14), (9, 36, 4), (9, 49, 3), (11, 22, 12), (11, 182, 96), (11, 385, 136)]
set_option maxRecDepth 100000 in
theorem jeN_ok_0 : jeN_0.map jwN = [1118, 409, 530, 121, 147, 207, 255, 296, 1211, 829, 831, 404, 824, 1048].filterMap wT := by decide +kernel
def jeN : List (Nat × Nat × Nat) := jeN_0
theorem jeN_tb : ∀ q ∈ jeN, jwN q ∈ lw_tbl := fun q h => by
  simp only [jeN, List.mem_append] at h
  exact jin_w jeN_ok_0 h
def jwL (q : Nat × Nat × Nat) : Cond := .classLink (jcN q.1) q.2.1 (jcN q.2.2)
def jeL_0 : List (Nat × Nat × Nat) := [(3, 9, 5), (7, 9, 0), (7, 18, 5), (7, 28, 4), (7, 65, 10), (7, 72, 1), (7, 79, 6), (7, 86, 8), (9, 34, 5), (9, 47, 0), (11, 7, 7), (11, 20, 3), (11, 180, 9), (11, 269, 2), (13, 7, 11), (13, 10, 12)]
set_option maxRecDepth 100000 in
theorem jeL_ok_0 : jeL_0.map jwL = [408, 119, 145, 182, 205, 230, 253, 294, 828, 830, 113, 402, 822, 1046, 105, 1373].filterMap wT := by decide +kernel
def jeL : List (Nat × Nat × Nat) := jeL_0
theorem jeL_tb : ∀ q ∈ jeL, jwL q ∈ lw_tbl := fun q h => by
  simp only [jeL, List.mem_append] at h
  exact jin_w jeL_ok_0 h
set_option maxRecDepth 100000 in
theorem jeL_gd : jeL.all (fun q => goodWord (jwL q)) = true := by decide +kernel
theorem jeL_in : ∀ q ∈ jeL, jwL q ∈ jtb := fun q h => List.mem_filter.mpr ⟨jeL_tb q h, List.all_eq_true.mp jeL_gd q h⟩
def jwO (q : Nat) : Cond := .instantiable (jcN q) (jcl.getD q (RX0, TX0, 0)).2.2
def jeO_0 : List Nat := [0, 1, 2, 3, 4, 5, 6, 7, 8, 9, 10, 11, 12]
set_option maxRecDepth 100000 in
theorem jeO_ok_0 : jeO_0.map jwO = [120, 231, 1047, 403, 183, 146, 254, 114, 295, 823, 206, 106, 1374].filterMap wT := by decide +kernel
def jeO : List Nat := jeO_0
theorem jeO_tb : ∀ q ∈ jeO, jwO q ∈ lw_tbl := fun q h => by
  simp only [jeO, List.mem_append] at h
  exact jin_w jeO_ok_0 h
set_option maxRecDepth 100000 in
theorem jeO_gd : jeO.all (fun q => goodWord (jwO q)) = true := by decide +kernel
theorem jeO_in : ∀ q ∈ jeO, jwO q ∈ jtb := fun q h => List.mem_filter.mpr ⟨jeO_tb q h, List.all_eq_true.mp jeO_gd q h⟩
def jwQ (q : Nat) : Cond := .initialized (jcN q)
def jeQ_0 : List Nat := [0, 1, 2, 3, 4, 5, 6, 7, 8, 9, 10, 11, 12, 13, 14, 15, 16, 17, 18, 19, 20, 21]
set_option maxRecDepth 100000 in
theorem jeQ_ok_0 : jeQ_0.map jwQ = [86, 91, 104, 95, 88, 87, 93, 85, 94, 103, 90, 84, 96, 83, 97, 89, 98, 99, 92, 102, 100, 101].filterMap wT := by decide +kernel
def jeQ : List Nat := jeQ_0
theorem jeQ_tb : ∀ q ∈ jeQ, jwQ q ∈ lw_tbl := fun q h => by
  simp only [jeQ, List.mem_append] at h
  exact jin_w jeQ_ok_0 h
set_option maxRecDepth 100000 in
theorem jeQ_gd : jeQ.all (fun q => goodWord (jwQ q)) = true := by decide +kernel
theorem jeQ_in : ∀ q ∈ jeQ, jwQ q ∈ jtb := fun q h => List.mem_filter.mpr ⟨jeQ_tb q h, List.all_eq_true.mp jeQ_gd q h⟩
def jwV (q : Nat × Nat × Int32) : Cond := .constant (jcN q.1) q.2.1 q.2.2
def jeV_0 : List (Nat × Nat × Int32) := [(1, 45, 1000000), (7, 191, -100000), (12, 81, 83521), (12, 345, 1000000), (12, 372, -100000), (14, 265, 1431655765), (14, 266, 858993459), (14, 267, 252645135)]
set_option maxRecDepth 100000 in
theorem jeV_ok_0 : jeV_0.map jwV = [1113, 1198, 1379, 1855, 1890, 627, 628, 629].filterMap wT := by decide +kernel
def jeV : List (Nat × Nat × Int32) := jeV_0
theorem jeV_tb : ∀ q ∈ jeV, jwV q ∈ lw_tbl := fun q h => by
  simp only [jeV, List.mem_append] at h
  exact jin_w jeV_ok_0 h
set_option maxRecDepth 100000 in
theorem jeV_gd : jeV.all (fun q => goodWord (jwV q)) = true := by decide +kernel
theorem jeV_in : ∀ q ∈ jeV, jwV q ∈ jtb := fun q h => List.mem_filter.mpr ⟨jeV_tb q h, List.all_eq_true.mp jeV_gd q h⟩
def jwW (q : Nat × Nat × Int64) : Cond := .constantLong (jcN q.1) q.2.1 q.2.2
def jeW_0 : List (Nat × Nat × Int64) := [(5, 64, -2), (12, 108, 11), (12, 110, 15), (12, 112, 9999), (12, 114, 999), (12, 120, 4), (12, 159, 32), (12, 161, 96), (12, 163, -1), (12, 165, 1000000), (12, 167, 10), (12, 169, 48), (12, 188, 21562475), (12, 194, 647215148), (12, 196, 218508), (12, 201, 7), (12, 207, 14836), (12, 225, 1476), (12, 227, 498), (12, 232, 643248), (12, 234, 3544114), (12, 239, 655), (12, 241, 52), (12, 243, 150000), (12, 245, 533611), (12, 247, 294), (12, 308, 2), (12, 310, 3), (12, 341, 5), (12, 343, 60), (12, 388, -30), (12, 390, 30), (12, 392, 99), (12, 394, 1023)]
set_option maxRecDepth 100000 in
theorem jeW_ok_0 : jeW_0.map jwW = [531, 1597, 1606, 1664, 1707, 1530, 1577, 1578, 1579, 1580, 1581, 1582, 1629, 1630, 1631, 1632, 1616, 1637, 1638, 1587, 1592, 1602, 1603, 1604, 1605, 1607, 1740, 1753, 1809, 1826, 1939, 1940, 1945, 1954].filterMap wT := by decide +kernel
def jeW : List (Nat × Nat × Int64) := jeW_0
theorem jeW_tb : ∀ q ∈ jeW, jwW q ∈ lw_tbl := fun q h => by
  simp only [jeW, List.mem_append] at h
  exact jin_w jeW_ok_0 h
set_option maxRecDepth 100000 in
theorem jeW_gd : jeW.all (fun q => goodWord (jwW q)) = true := by decide +kernel
theorem jeW_in : ∀ q ∈ jeW, jwW q ∈ jtb := fun q h => List.mem_filter.mpr ⟨jeW_tb q h, List.all_eq_true.mp jeW_gd q h⟩
set_option maxRecDepth 100000 in
theorem jlay_0 : u_ws RX0 TX0 nfX0 = [137, 139, 141].filterMap wT := by decide +kernel
set_option maxRecDepth 100000 in
theorem jlay_1 : u_ws RX1 TX1 nfX1 = [244, 246, 248, 250].filterMap wT := by decide +kernel
set_option maxRecDepth 100000 in
theorem jlay_2 : u_ws RX2 TX2 nfX2 = [1068, 1070, 1072, 1074, 1076, 1078, 1080, 1082, 1084, 1086, 1088, 1090].filterMap wT := by decide +kernel
set_option maxRecDepth 100000 in
theorem jlay_3 : u_ws RX3 TX3 nfX3 = [418, 420, 422, 424, 426, 428, 430].filterMap wT := by decide +kernel
set_option maxRecDepth 100000 in
theorem jlay_4 : u_ws RX4 TX4 nfX4 = [196, 198, 200, 202].filterMap wT := by decide +kernel
set_option maxRecDepth 100000 in
theorem jlay_5 : u_ws RX5 TX5 nfX5 = [165, 167, 169, 171, 173, 175, 177, 179].filterMap wT := by decide +kernel
set_option maxRecDepth 100000 in
theorem jlay_6 : u_ws RX6 TX6 nfX6 = [277, 279, 281, 283, 285, 287, 289, 291].filterMap wT := by decide +kernel
set_option maxRecDepth 100000 in
theorem jlay_7 : u_ws RX7 TX7 nfX7 = [361, 363, 365, 367, 369, 371, 373, 375, 377, 379, 381, 383, 385, 387, 389, 391, 393, 395, 397, 399].filterMap wT := by decide +kernel
set_option maxRecDepth 100000 in
theorem jlay_8 : u_ws RX8 TX8 nfX8 = [310, 312, 314, 316, 318].filterMap wT := by decide +kernel
set_option maxRecDepth 100000 in
theorem jlay_9 : u_ws RX9 TX9 nfX9 = [851, 853, 855, 857, 859, 861, 863, 865, 867, 869, 871, 873, 875, 877, 879].filterMap wT := by decide +kernel
set_option maxRecDepth 100000 in
theorem jlay_10 : u_ws RX10 TX10 nfX10 = [219, 221, 223, 225, 227].filterMap wT := by decide +kernel
set_option maxRecDepth 100000 in
theorem jlay_11 : u_ws RX11 TX11 nfX11 = [445, 447, 449, 451, 453, 455, 457, 459, 461, 463, 465, 467].filterMap wT := by decide +kernel
set_option maxRecDepth 100000 in
theorem jlay_12 : u_ws RX12 TX12 nfX12 = [1422, 1424, 1426, 1428, 1430, 1432, 1434, 1436, 1438, 1440, 1442, 1444, 1446, 1448, 1450, 1452, 1454, 1456, 1458, 1460, 1462, 1464, 1466, 1468, 1470, 1472, 1474, 1476, 1478, 1480, 1482, 1484, 1486, 1488, 1490, 1492, 1494, 1496, 1498, 1500, 1502, 1504].filterMap wT := by decide +kernel
theorem jarr_int : Cond.arrayClass .int ∈ jtb := List.mem_filter.mpr ⟨List.mem_of_getElem? (i := 144) (by decide +kernel), by decide +kernel⟩
theorem jarr_boolean : Cond.arrayClass .boolean ∈ jtb := List.mem_filter.mpr ⟨List.mem_of_getElem? (i := 321) (by decide +kernel), by decide +kernel⟩
set_option maxRecDepth 100000 in
theorem jlayg_0 : (u_ws RX0 TX0 nfX0).all goodWord = true := by decide +kernel
set_option maxRecDepth 100000 in
theorem jlayg_1 : (u_ws RX1 TX1 nfX1).all goodWord = true := by decide +kernel
set_option maxRecDepth 100000 in
theorem jlayg_2 : (u_ws RX2 TX2 nfX2).all goodWord = true := by decide +kernel
set_option maxRecDepth 100000 in
theorem jlayg_3 : (u_ws RX3 TX3 nfX3).all goodWord = true := by decide +kernel
set_option maxRecDepth 100000 in
theorem jlayg_4 : (u_ws RX4 TX4 nfX4).all goodWord = true := by decide +kernel
set_option maxRecDepth 100000 in
theorem jlayg_5 : (u_ws RX5 TX5 nfX5).all goodWord = true := by decide +kernel
set_option maxRecDepth 100000 in
theorem jlayg_6 : (u_ws RX6 TX6 nfX6).all goodWord = true := by decide +kernel
set_option maxRecDepth 100000 in
theorem jlayg_7 : (u_ws RX7 TX7 nfX7).all goodWord = true := by decide +kernel
set_option maxRecDepth 100000 in
theorem jlayg_8 : (u_ws RX8 TX8 nfX8).all goodWord = true := by decide +kernel
set_option maxRecDepth 100000 in
theorem jlayg_9 : (u_ws RX9 TX9 nfX9).all goodWord = true := by decide +kernel
set_option maxRecDepth 100000 in
theorem jlayg_10 : (u_ws RX10 TX10 nfX10).all goodWord = true := by decide +kernel
set_option maxRecDepth 100000 in
theorem jlayg_11 : (u_ws RX11 TX11 nfX11).all goodWord = true := by decide +kernel
set_option maxRecDepth 100000 in
theorem jlayg_12 : (u_ws RX12 TX12 nfX12).all goodWord = true := by decide +kernel
