def RX0 : String := "BreathTown$Code"
def TX0 : u_T := fun k => match k with
  | 0 => ("BreathTown$Code", "steps", "[I", true)
  | 1 => ("BreathTown$Code", "stack", "[I", true)
  | 2 => ("BreathTown$Code", "tables", "[I", true)
  | 3 => ("BreathTown$Code", "length", "I", false)
  | _ => ("BreathTown$Code", "used", "I", false)
def tyX0 : Nat → FieldType := fun k => match k with
  | 0 => .array .int
  | 1 => .array .int
  | 2 => .array .int
  | 3 => .int
  | _ => .int
theorem nmX0 : ∀ a, a < 5 → ∀ b, b < 5 → a ≠ b → (TX0 a).2.1 ≠ (TX0 b).2.1 := by decide +kernel
theorem tyX0_ok : ∀ k, k < 5 → parseFieldDescriptor (TX0 k).2.2.1 = some (tyX0 k) := by decide +kernel
def RX1 : String := "BreathTown$Many"
def TX1 : u_T := fun k => match k with
  | 0 => ("BreathTown$Many", "told", "LBreathTown$Told;", true)
  | 1 => ("BreathTown$Many", "now", "LBreathTown$Now;", true)
  | 2 => ("BreathTown$Many", "widths", "LBreathTown$Widths;", true)
  | 3 => ("BreathTown$Many", "ways", "LBreathTown$Ways;", true)
  | 4 => ("BreathTown$Many", "bestOrder", "[I", true)
  | 5 => ("BreathTown$Many", "bestArrivals", "[I", true)
  | 6 => ("BreathTown$Many", "bestLast", "I", false)
  | 7 => ("BreathTown$Many", "bestSum", "I", false)
  | 8 => ("BreathTown$Many", "order", "[I", true)
  | 9 => ("BreathTown$Many", "arrivals", "[I", true)
  | 10 => ("BreathTown$Many", "found", "[I", true)
  | 11 => ("BreathTown$Many", "soonest", "[I", true)
  | 12 => ("BreathTown$Many", "runs", "[I", true)
  | _ => ("BreathTown$Many", "reached", "[I", true)
def tyX1 : Nat → FieldType := fun k => match k with
  | 0 => .object "BreathTown$Told"
  | 1 => .object "BreathTown$Now"
  | 2 => .object "BreathTown$Widths"
  | 3 => .object "BreathTown$Ways"
  | 4 => .array .int
  | 5 => .array .int
  | 6 => .int
  | 7 => .int
  | 8 => .array .int
  | 9 => .array .int
  | 10 => .array .int
  | 11 => .array .int
  | 12 => .array .int
  | _ => .array .int
theorem nmX1 : ∀ a, a < 14 → ∀ b, b < 14 → a ≠ b → (TX1 a).2.1 ≠ (TX1 b).2.1 := by decide +kernel
theorem tyX1_ok : ∀ k, k < 14 → parseFieldDescriptor (TX1 k).2.2.1 = some (tyX1 k) := by decide +kernel
def RX2 : String := "BreathTown$Now"
def TX2 : u_T := fun k => match k with
  | 0 => ("BreathTown$Now", "told", "LBreathTown$Told;", true)
  | 1 => ("BreathTown$Now", "shifts", "[I", true)
  | 2 => ("BreathTown$Now", "places", "[I", true)
  | 3 => ("BreathTown$Now", "goals", "[I", true)
  | 4 => ("BreathTown$Now", "free", "[I", true)
  | 5 => ("BreathTown$Now", "past", "[I", true)
  | 6 => ("BreathTown$Now", "picture", "[I", true)
  | 7 => ("BreathTown$Now", "pictureLength", "I", false)
  | 8 => ("BreathTown$Now", "hour", "I", false)
  | _ => ("BreathTown$Now", "kept", "I", false)
def tyX2 : Nat → FieldType := fun k => match k with
  | 0 => .object "BreathTown$Told"
  | 1 => .array .int
  | 2 => .array .int
  | 3 => .array .int
  | 4 => .array .int
  | 5 => .array .int
  | 6 => .array .int
  | 7 => .int
  | 8 => .int
  | _ => .int
theorem nmX2 : ∀ a, a < 10 → ∀ b, b < 10 → a ≠ b → (TX2 a).2.1 ≠ (TX2 b).2.1 := by decide +kernel
theorem tyX2_ok : ∀ k, k < 10 → parseFieldDescriptor (TX2 k).2.2.1 = some (tyX2 k) := by decide +kernel
def RX3 : String := "BreathTown$Question"
def TX3 : u_T := fun k => match k with
  | 0 => ("BreathTown$Question", "scan", "LBreathTown$Scan;", true)
  | 1 => ("BreathTown$Question", "told", "LBreathTown$Told;", true)
  | 2 => ("BreathTown$Question", "now", "LBreathTown$Now;", true)
  | 3 => ("BreathTown$Question", "widths", "LBreathTown$Widths;", true)
  | 4 => ("BreathTown$Question", "ways", "LBreathTown$Ways;", true)
  | 5 => ("BreathTown$Question", "code", "LBreathTown$Code;", true)
  | 6 => ("BreathTown$Question", "reader", "LBreathTown$Reader;", true)
  | _ => ("BreathTown$Question", "values", "[I", true)
def tyX3 : Nat → FieldType := fun k => match k with
  | 0 => .object "BreathTown$Scan"
  | 1 => .object "BreathTown$Told"
  | 2 => .object "BreathTown$Now"
  | 3 => .object "BreathTown$Widths"
  | 4 => .object "BreathTown$Ways"
  | 5 => .object "BreathTown$Code"
  | 6 => .object "BreathTown$Reader"
  | _ => .array .int
theorem nmX3 : ∀ a, a < 8 → ∀ b, b < 8 → a ≠ b → (TX3 a).2.1 ≠ (TX3 b).2.1 := by decide +kernel
theorem tyX3_ok : ∀ k, k < 8 → parseFieldDescriptor (TX3 k).2.2.1 = some (tyX3 k) := by decide +kernel
def RX4 : String := "BreathTown$Reader"
def TX4 : u_T := fun k => match k with
  | 0 => ("BreathTown$Reader", "scan", "LBreathTown$Scan;", true)
  | 1 => ("BreathTown$Reader", "code", "LBreathTown$Code;", true)
  | _ => ("BreathTown$Reader", "asking", "Z", true)
def tyX4 : Nat → FieldType := fun k => match k with
  | 0 => .object "BreathTown$Scan"
  | 1 => .object "BreathTown$Code"
  | _ => .boolean
theorem nmX4 : ∀ a, a < 3 → ∀ b, b < 3 → a ≠ b → (TX4 a).2.1 ≠ (TX4 b).2.1 := by decide +kernel
theorem tyX4_ok : ∀ k, k < 3 → parseFieldDescriptor (TX4 k).2.2.1 = some (tyX4 k) := by decide +kernel
def RX5 : String := "BreathTown$Scan"
def TX5 : u_T := fun k => match k with
  | 0 => ("BreathTown$Scan", "bytes", "[I", true)
  | 1 => ("BreathTown$Scan", "length", "I", false)
  | 2 => ("BreathTown$Scan", "place", "I", false)
  | 3 => ("BreathTown$Scan", "glued", "I", false)
  | 4 => ("BreathTown$Scan", "began", "I", false)
  | 5 => ("BreathTown$Scan", "fault", "I", false)
  | _ => ("BreathTown$Scan", "faultPlace", "I", false)
def tyX5 : Nat → FieldType := fun k => match k with
  | 0 => .array .int
  | 1 => .int
  | 2 => .int
  | 3 => .int
  | 4 => .int
  | 5 => .int
  | _ => .int
theorem nmX5 : ∀ a, a < 7 → ∀ b, b < 7 → a ≠ b → (TX5 a).2.1 ≠ (TX5 b).2.1 := by decide +kernel
theorem tyX5_ok : ∀ k, k < 7 → parseFieldDescriptor (TX5 k).2.2.1 = some (tyX5 k) := by decide +kernel
def RX6 : String := "BreathTown$Seen"
def TX6 : u_T := fun k => match k with
  | 0 => ("BreathTown$Seen", "told", "LBreathTown$Told;", true)
  | 1 => ("BreathTown$Seen", "now", "LBreathTown$Now;", true)
  | 2 => ("BreathTown$Seen", "widths", "LBreathTown$Widths;", true)
  | 3 => ("BreathTown$Seen", "streets", "[I", true)
  | 4 => ("BreathTown$Seen", "hours", "[I", true)
  | 5 => ("BreathTown$Seen", "wides", "[I", true)
  | 6 => ("BreathTown$Seen", "count", "I", false)
  | 7 => ("BreathTown$Seen", "fitting", "[I", true)
  | _ => ("BreathTown$Seen", "alike", "[I", true)
def tyX6 : Nat → FieldType := fun k => match k with
  | 0 => .object "BreathTown$Told"
  | 1 => .object "BreathTown$Now"
  | 2 => .object "BreathTown$Widths"
  | 3 => .array .int
  | 4 => .array .int
  | 5 => .array .int
  | 6 => .int
  | 7 => .array .int
  | _ => .array .int
theorem nmX6 : ∀ a, a < 9 → ∀ b, b < 9 → a ≠ b → (TX6 a).2.1 ≠ (TX6 b).2.1 := by decide +kernel
theorem tyX6_ok : ∀ k, k < 9 → parseFieldDescriptor (TX6 k).2.2.1 = some (tyX6 k) := by decide +kernel
def RX7 : String := "BreathTown$Told"
def TX7 : u_T := fun k => match k with
  | 0 => ("BreathTown$Told", "counts", "[I", true)
  | 1 => ("BreathTown$Told", "names", "[I", true)
  | 2 => ("BreathTown$Told", "from", "[I", true)
  | 3 => ("BreathTown$Told", "to", "[I", true)
  | 4 => ("BreathTown$Told", "takes", "[I", true)
  | 5 => ("BreathTown$Told", "rounds", "[I", true)
  | 6 => ("BreathTown$Told", "shifts", "[I", true)
  | 7 => ("BreathTown$Told", "sumStarts", "[I", true)
  | 8 => ("BreathTown$Told", "sumEnds", "[I", true)
  | 9 => ("BreathTown$Told", "broads", "[I", true)
  | 10 => ("BreathTown$Told", "places", "[I", true)
  | 11 => ("BreathTown$Told", "goals", "[I", true)
  | 12 => ("BreathTown$Told", "sums", "LBreathTown$Code;", true)
  | _ => ("BreathTown$Told", "begin", "I", false)
def tyX7 : Nat → FieldType := fun k => match k with
  | 0 => .array .int
  | 1 => .array .int
  | 2 => .array .int
  | 3 => .array .int
  | 4 => .array .int
  | 5 => .array .int
  | 6 => .array .int
  | 7 => .array .int
  | 8 => .array .int
  | 9 => .array .int
  | 10 => .array .int
  | 11 => .array .int
  | 12 => .object "BreathTown$Code"
  | _ => .int
theorem nmX7 : ∀ a, a < 14 → ∀ b, b < 14 → a ≠ b → (TX7 a).2.1 ≠ (TX7 b).2.1 := by decide +kernel
theorem tyX7_ok : ∀ k, k < 14 → parseFieldDescriptor (TX7 k).2.2.1 = some (tyX7 k) := by decide +kernel
def RX8 : String := "BreathTown$TownReader"
def TX8 : u_T := fun k => match k with
  | 0 => ("BreathTown$TownReader", "scan", "LBreathTown$Scan;", true)
  | 1 => ("BreathTown$TownReader", "draft", "LBreathTown$Told;", true)
  | _ => ("BreathTown$TownReader", "sums", "LBreathTown$Reader;", true)
def tyX8 : Nat → FieldType := fun k => match k with
  | 0 => .object "BreathTown$Scan"
  | 1 => .object "BreathTown$Told"
  | _ => .object "BreathTown$Reader"
theorem nmX8 : ∀ a, a < 3 → ∀ b, b < 3 → a ≠ b → (TX8 a).2.1 ≠ (TX8 b).2.1 := by decide +kernel
theorem tyX8_ok : ∀ k, k < 3 → parseFieldDescriptor (TX8 k).2.2.1 = some (tyX8 k) := by decide +kernel
def RX9 : String := "BreathTown$Ways"
def TX9 : u_T := fun k => match k with
  | 0 => ("BreathTown$Ways", "told", "LBreathTown$Told;", true)
  | 1 => ("BreathTown$Ways", "now", "LBreathTown$Now;", true)
  | 2 => ("BreathTown$Ways", "widths", "LBreathTown$Widths;", true)
  | 3 => ("BreathTown$Ways", "arrivals", "[I", true)
  | 4 => ("BreathTown$Ways", "stepStreets", "[I", true)
  | 5 => ("BreathTown$Ways", "stepHours", "[I", true)
  | 6 => ("BreathTown$Ways", "steps", "I", false)
  | 7 => ("BreathTown$Ways", "busyStreets", "[I", true)
  | 8 => ("BreathTown$Ways", "busyHours", "[I", true)
  | 9 => ("BreathTown$Ways", "busyBroads", "[I", true)
  | _ => ("BreathTown$Ways", "busy", "I", false)
def tyX9 : Nat → FieldType := fun k => match k with
  | 0 => .object "BreathTown$Told"
  | 1 => .object "BreathTown$Now"
  | 2 => .object "BreathTown$Widths"
  | 3 => .array .int
  | 4 => .array .int
  | 5 => .array .int
  | 6 => .int
  | 7 => .array .int
  | 8 => .array .int
  | 9 => .array .int
  | _ => .int
theorem nmX9 : ∀ a, a < 11 → ∀ b, b < 11 → a ≠ b → (TX9 a).2.1 ≠ (TX9 b).2.1 := by decide +kernel
theorem tyX9_ok : ∀ k, k < 11 → parseFieldDescriptor (TX9 k).2.2.1 = some (tyX9 k) := by decide +kernel
def RX10 : String := "BreathTown$Widths"
def TX10 : u_T := fun k => match k with
  | 0 => ("BreathTown$Widths", "told", "LBreathTown$Told;", true)
  | 1 => ("BreathTown$Widths", "now", "LBreathTown$Now;", true)
  | 2 => ("BreathTown$Widths", "known", "[J", true)
  | _ => ("BreathTown$Widths", "towns", "J", false)
def tyX10 : Nat → FieldType := fun k => match k with
  | 0 => .object "BreathTown$Told"
  | 1 => .object "BreathTown$Now"
  | 2 => .array .long
  | _ => .long
theorem nmX10 : ∀ a, a < 4 → ∀ b, b < 4 → a ≠ b → (TX10 a).2.1 ≠ (TX10 b).2.1 := by decide +kernel
theorem tyX10_ok : ∀ k, k < 4 → parseFieldDescriptor (TX10 k).2.2.1 = some (tyX10 k) := by decide +kernel
def RX11 : String := "BreathTown"
def TX11 : u_T := fun k => match k with
  | 0 => ("BreathTown", "scan", "LBreathTown$Scan;", true)
  | 1 => ("BreathTown", "told", "LBreathTown$Told;", true)
  | 2 => ("BreathTown", "draft", "LBreathTown$Told;", true)
  | 3 => ("BreathTown", "reader", "LBreathTown$TownReader;", true)
  | 4 => ("BreathTown", "now", "LBreathTown$Now;", true)
  | 5 => ("BreathTown", "widths", "LBreathTown$Widths;", true)
  | 6 => ("BreathTown", "ways", "LBreathTown$Ways;", true)
  | 7 => ("BreathTown", "many", "LBreathTown$Many;", true)
  | 8 => ("BreathTown", "seen", "LBreathTown$Seen;", true)
  | 9 => ("BreathTown", "question", "LBreathTown$Question;", true)
  | 10 => ("BreathTown", "refusals", "[I", true)
  | 11 => ("BreathTown", "latestFault", "I", false)
  | 12 => ("BreathTown", "latestPlace", "I", false)
  | _ => ("BreathTown", "seed", "J", false)
def tyX11 : Nat → FieldType := fun k => match k with
  | 0 => .object "BreathTown$Scan"
  | 1 => .object "BreathTown$Told"
  | 2 => .object "BreathTown$Told"
  | 3 => .object "BreathTown$TownReader"
  | 4 => .object "BreathTown$Now"
  | 5 => .object "BreathTown$Widths"
  | 6 => .object "BreathTown$Ways"
  | 7 => .object "BreathTown$Many"
  | 8 => .object "BreathTown$Seen"
  | 9 => .object "BreathTown$Question"
  | 10 => .array .int
  | 11 => .int
  | 12 => .int
  | _ => .long
theorem nmX11 : ∀ a, a < 14 → ∀ b, b < 14 → a ≠ b → (TX11 a).2.1 ≠ (TX11 b).2.1 := by decide +kernel
theorem tyX11_ok : ∀ k, k < 14 → parseFieldDescriptor (TX11 k).2.2.1 = some (tyX11 k) := by decide +kernel
def RX12 : String := "BreathTownModel"
def TX12 : u_T := fun k => match k with
  | 0 => ("BreathTownModel", "tape", "[I", true)
  | 1 => ("BreathTownModel", "taped", "I", false)
  | 2 => ("BreathTownModel", "at", "I", false)
  | 3 => ("BreathTownModel", "end", "I", false)
  | 4 => ("BreathTownModel", "ended", "I", false)
  | 5 => ("BreathTownModel", "bad", "I", false)
  | 6 => ("BreathTownModel", "badPlace", "I", false)
  | 7 => ("BreathTownModel", "fault", "I", false)
  | 8 => ("BreathTownModel", "faultPlace", "I", false)
  | 9 => ("BreathTownModel", "refused", "[I", true)
  | 10 => ("BreathTownModel", "placeWord", "[C", true)
  | 11 => ("BreathTownModel", "streetWord", "[C", true)
  | 12 => ("BreathTownModel", "fromWord", "[C", true)
  | 13 => ("BreathTownModel", "toWord", "[C", true)
  | 14 => ("BreathTownModel", "takesWord", "[C", true)
  | 15 => ("BreathTownModel", "roundWord", "[C", true)
  | 16 => ("BreathTownModel", "shiftWord", "[C", true)
  | 17 => ("BreathTownModel", "wideWord", "[C", true)
  | 18 => ("BreathTownModel", "walkerWord", "[C", true)
  | 19 => ("BreathTownModel", "broadWord", "[C", true)
  | 20 => ("BreathTownModel", "atWord", "[C", true)
  | 21 => ("BreathTownModel", "beginWord", "[C", true)
  | 22 => ("BreathTownModel", "tideWord", "[C", true)
  | 23 => ("BreathTownModel", "clockWord", "[C", true)
  | 24 => ("BreathTownModel", "dayWord", "[C", true)
  | 25 => ("BreathTownModel", "minWord", "[C", true)
  | 26 => ("BreathTownModel", "maxWord", "[C", true)
  | 27 => ("BreathTownModel", "namePlace", "I", false)
  | 28 => ("BreathTownModel", "many", "[I", true)
  | 29 => ("BreathTownModel", "names", "[J", true)
  | 30 => ("BreathTownModel", "streets", "[I", true)
  | 31 => ("BreathTownModel", "walkers", "[I", true)
  | 32 => ("BreathTownModel", "beginTold", "I", false)
  | 33 => ("BreathTownModel", "statements", "I", false)
  | 34 => ("BreathTownModel", "codes", "[I", true)
  | 35 => ("BreathTownModel", "coded", "I", false)
  | 36 => ("BreathTownModel", "wait", "[I", true)
  | 37 => ("BreathTownModel", "waits", "I", false)
  | 38 => ("BreathTownModel", "open", "I", false)
  | 39 => ("BreathTownModel", "sumFrom", "[I", true)
  | 40 => ("BreathTownModel", "sumEnd", "[I", true)
  | 41 => ("BreathTownModel", "base", "I", false)
  | 42 => ("BreathTownModel", "pile", "[J", true)
  | 43 => ("BreathTownModel", "piled", "I", false)
  | 44 => ("BreathTownModel", "ask", "[I", true)
  | 45 => ("BreathTownModel", "now", "[I", true)
  | 46 => ("BreathTownModel", "rides", "[I", true)
  | 47 => ("BreathTownModel", "rideMany", "I", false)
  | 48 => ("BreathTownModel", "arrivalAt", "[I", true)
  | 49 => ("BreathTownModel", "wayStreet", "[I", true)
  | 50 => ("BreathTownModel", "wayHour", "[I", true)
  | 51 => ("BreathTownModel", "wayMany", "I", false)
  | 52 => ("BreathTownModel", "longAt", "[I", true)
  | 53 => ("BreathTownModel", "order", "[I", true)
  | 54 => ("BreathTownModel", "bestOrder", "[I", true)
  | 55 => ("BreathTownModel", "cameIn", "[I", true)
  | 56 => ("BreathTownModel", "bestIn", "[I", true)
  | 57 => ("BreathTownModel", "bestLast", "I", false)
  | 58 => ("BreathTownModel", "bestSum", "I", false)
  | 59 => ("BreathTownModel", "reachFrom", "[I", true)
  | 60 => ("BreathTownModel", "doctorMany", "I", false)
  | 61 => ("BreathTownModel", "doctor", "[I", true)
  | 62 => ("BreathTownModel", "kept", "[I", true)
  | 63 => ("BreathTownModel", "undoable", "I", false)
  | 64 => ("BreathTownModel", "newest", "I", false)
  | 65 => ("BreathTownModel", "seeded", "J", false)
  | 66 => ("BreathTownModel", "rowMany", "I", false)
  | 67 => ("BreathTownModel", "rowOf", "[I", true)
  | 68 => ("BreathTownModel", "canBe", "[Z", true)
  | 69 => ("BreathTownModel", "likeMany", "[I", true)
  | 70 => ("BreathTownModel", "firstAsked", "[C", true)
  | 71 => ("BreathTownModel", "lastAsked", "[C", true)
  | 72 => ("BreathTownModel", "oftenAsked", "[C", true)
  | 73 => ("BreathTownModel", "totalAsked", "[C", true)
  | 74 => ("BreathTownModel", "mostAsked", "[C", true)
  | 75 => ("BreathTownModel", "leastAsked", "[C", true)
  | 76 => ("BreathTownModel", "notAsked", "[C", true)
  | 77 => ("BreathTownModel", "andAsked", "[C", true)
  | 78 => ("BreathTownModel", "orAsked", "[C", true)
  | 79 => ("BreathTownModel", "allAsked", "[C", true)
  | 80 => ("BreathTownModel", "minAsked", "[C", true)
  | 81 => ("BreathTownModel", "maxAsked", "[C", true)
  | 82 => ("BreathTownModel", "hourAsked", "[C", true)
  | 83 => ("BreathTownModel", "clockAsked", "[C", true)
  | 84 => ("BreathTownModel", "dayAsked", "[C", true)
  | 85 => ("BreathTownModel", "widthAsked", "[C", true)
  | 86 => ("BreathTownModel", "tideAsked", "[C", true)
  | 87 => ("BreathTownModel", "passesAsked", "[C", true)
  | 88 => ("BreathTownModel", "qCodes", "[I", true)
  | 89 => ("BreathTownModel", "qCoded", "I", false)
  | 90 => ("BreathTownModel", "qWait", "[I", true)
  | 91 => ("BreathTownModel", "qWaits", "I", false)
  | 92 => ("BreathTownModel", "qOpened", "I", false)
  | 93 => ("BreathTownModel", "qBase", "I", false)
  | 94 => ("BreathTownModel", "qPile", "[J", true)
  | 95 => ("BreathTownModel", "qPiled", "I", false)
  | 96 => ("BreathTownModel", "qAnswer", "J", false)
  | 97 => ("BreathTownModel", "qIsNew", "Z", false)
  | 98 => ("BreathTownModel", "octet", "[I", true)
  | _ => ("BreathTownModel", "octets", "I", false)
def tyX12 : Nat → FieldType := fun k => match k with
  | 0 => .array .int
  | 1 => .int
  | 2 => .int
  | 3 => .int
  | 4 => .int
  | 5 => .int
  | 6 => .int
  | 7 => .int
  | 8 => .int
  | 9 => .array .int
  | 10 => .array .char
  | 11 => .array .char
  | 12 => .array .char
  | 13 => .array .char
  | 14 => .array .char
  | 15 => .array .char
  | 16 => .array .char
  | 17 => .array .char
  | 18 => .array .char
  | 19 => .array .char
  | 20 => .array .char
  | 21 => .array .char
  | 22 => .array .char
  | 23 => .array .char
  | 24 => .array .char
  | 25 => .array .char
  | 26 => .array .char
  | 27 => .int
  | 28 => .array .int
  | 29 => .array .long
  | 30 => .array .int
  | 31 => .array .int
  | 32 => .int
  | 33 => .int
  | 34 => .array .int
  | 35 => .int
  | 36 => .array .int
  | 37 => .int
  | 38 => .int
  | 39 => .array .int
  | 40 => .array .int
  | 41 => .int
  | 42 => .array .long
  | 43 => .int
  | 44 => .array .int
  | 45 => .array .int
  | 46 => .array .int
  | 47 => .int
  | 48 => .array .int
  | 49 => .array .int
  | 50 => .array .int
  | 51 => .int
  | 52 => .array .int
  | 53 => .array .int
  | 54 => .array .int
  | 55 => .array .int
  | 56 => .array .int
  | 57 => .int
  | 58 => .int
  | 59 => .array .int
  | 60 => .int
  | 61 => .array .int
  | 62 => .array .int
  | 63 => .int
  | 64 => .int
  | 65 => .long
  | 66 => .int
  | 67 => .array .int
  | 68 => .array .boolean
  | 69 => .array .int
  | 70 => .array .char
  | 71 => .array .char
  | 72 => .array .char
  | 73 => .array .char
  | 74 => .array .char
  | 75 => .array .char
  | 76 => .array .char
  | 77 => .array .char
  | 78 => .array .char
  | 79 => .array .char
  | 80 => .array .char
  | 81 => .array .char
  | 82 => .array .char
  | 83 => .array .char
  | 84 => .array .char
  | 85 => .array .char
  | 86 => .array .char
  | 87 => .array .char
  | 88 => .array .int
  | 89 => .int
  | 90 => .array .int
  | 91 => .int
  | 92 => .int
  | 93 => .int
  | 94 => .array .long
  | 95 => .int
  | 96 => .long
  | 97 => .boolean
  | 98 => .array .int
  | _ => .int
theorem nmX12 : ∀ a, a < 100 → ∀ b, b < 100 → a ≠ b → (TX12 a).2.1 ≠ (TX12 b).2.1 := by decide +kernel
theorem tyX12_ok : ∀ k, k < 100 → parseFieldDescriptor (TX12 k).2.2.1 = some (tyX12 k) := by decide +kernel
abbrev classes : List vw_C := [(RX0, TX0, 5), (RX1, TX1, 14), (RX2, TX2, 10), (RX3, TX3, 8), (RX4, TX4, 3), (RX5, TX5, 7), (RX6, TX6, 9), (RX7, TX7, 14), (RX8, TX8, 3), (RX9, TX9, 11), (RX10, TX10, 4), (RX11, TX11, 14), (RX12, TX12, 100)]
theorem wsX0_in : ∀ w ∈ u_ws RX0 TX0 5, w ∈ lw_tbl := by
  have h : u_ws RX0 TX0 5 = ([237, 239, 241, 243, 245] : List Nat).filterMap (fun i => lw_tbl[i]?) := by decide +kernel
  intro w hw
  rw [h] at hw
  obtain ⟨i, -, hi⟩ := List.mem_filterMap.mp hw
  exact List.mem_of_getElem? hi
theorem wsX1_in : ∀ w ∈ u_ws RX1 TX1 14, w ∈ lw_tbl := by
  have h : u_ws RX1 TX1 14 = ([501, 503, 505, 507, 509, 511, 513, 515, 517, 519, 521, 523, 525, 527] : List Nat).filterMap (fun i => lw_tbl[i]?) := by decide +kernel
  intro w hw
  rw [h] at hw
  obtain ⟨i, -, hi⟩ := List.mem_filterMap.mp hw
  exact List.mem_of_getElem? hi
theorem wsX2_in : ∀ w ∈ u_ws RX2 TX2 10, w ∈ lw_tbl := by
  have h : u_ws RX2 TX2 10 = ([393, 395, 397, 399, 401, 403, 405, 407, 409, 411] : List Nat).filterMap (fun i => lw_tbl[i]?) := by decide +kernel
  intro w hw
  rw [h] at hw
  obtain ⟨i, -, hi⟩ := List.mem_filterMap.mp hw
  exact List.mem_of_getElem? hi
theorem wsX3_in : ∀ w ∈ u_ws RX3 TX3 8, w ∈ lw_tbl := by
  have h : u_ws RX3 TX3 8 = ([584, 586, 588, 590, 592, 594, 596, 598] : List Nat).filterMap (fun i => lw_tbl[i]?) := by decide +kernel
  intro w hw
  rw [h] at hw
  obtain ⟨i, -, hi⟩ := List.mem_filterMap.mp hw
  exact List.mem_of_getElem? hi
theorem wsX4_in : ∀ w ∈ u_ws RX4 TX4 3, w ∈ lw_tbl := by
  have h : u_ws RX4 TX4 3 = ([341, 343, 345] : List Nat).filterMap (fun i => lw_tbl[i]?) := by decide +kernel
  intro w hw
  rw [h] at hw
  obtain ⟨i, -, hi⟩ := List.mem_filterMap.mp hw
  exact List.mem_of_getElem? hi
theorem wsX5_in : ∀ w ∈ u_ws RX5 TX5 7, w ∈ lw_tbl := by
  have h : u_ws RX5 TX5 7 = ([201, 203, 205, 207, 209, 211, 213] : List Nat).filterMap (fun i => lw_tbl[i]?) := by decide +kernel
  intro w hw
  rw [h] at hw
  obtain ⟨i, -, hi⟩ := List.mem_filterMap.mp hw
  exact List.mem_of_getElem? hi
theorem wsX6_in : ∀ w ∈ u_ws RX6 TX6 9, w ∈ lw_tbl := by
  have h : u_ws RX6 TX6 9 = ([547, 549, 551, 553, 555, 557, 559, 561, 563] : List Nat).filterMap (fun i => lw_tbl[i]?) := by decide +kernel
  intro w hw
  rw [h] at hw
  obtain ⟨i, -, hi⟩ := List.mem_filterMap.mp hw
  exact List.mem_of_getElem? hi
theorem wsX7_in : ∀ w ∈ u_ws RX7 TX7 14, w ∈ lw_tbl := by
  have h : u_ws RX7 TX7 14 = ([297, 299, 301, 303, 305, 307, 309, 311, 313, 315, 317, 319, 321, 323] : List Nat).filterMap (fun i => lw_tbl[i]?) := by decide +kernel
  intro w hw
  rw [h] at hw
  obtain ⟨i, -, hi⟩ := List.mem_filterMap.mp hw
  exact List.mem_of_getElem? hi
theorem wsX8_in : ∀ w ∈ u_ws RX8 TX8 3, w ∈ lw_tbl := by
  have h : u_ws RX8 TX8 3 = ([351, 353, 355] : List Nat).filterMap (fun i => lw_tbl[i]?) := by decide +kernel
  intro w hw
  rw [h] at hw
  obtain ⟨i, -, hi⟩ := List.mem_filterMap.mp hw
  exact List.mem_of_getElem? hi
theorem wsX9_in : ∀ w ∈ u_ws RX9 TX9 11, w ∈ lw_tbl := by
  have h : u_ws RX9 TX9 11 = ([454, 456, 458, 460, 462, 464, 466, 468, 470, 472, 474] : List Nat).filterMap (fun i => lw_tbl[i]?) := by decide +kernel
  intro w hw
  rw [h] at hw
  obtain ⟨i, -, hi⟩ := List.mem_filterMap.mp hw
  exact List.mem_of_getElem? hi
theorem wsX10_in : ∀ w ∈ u_ws RX10 TX10 4, w ∈ lw_tbl := by
  have h : u_ws RX10 TX10 4 = ([424, 426, 428, 430] : List Nat).filterMap (fun i => lw_tbl[i]?) := by decide +kernel
  intro w hw
  rw [h] at hw
  obtain ⟨i, -, hi⟩ := List.mem_filterMap.mp hw
  exact List.mem_of_getElem? hi
theorem wsX11_in : ∀ w ∈ u_ws RX11 TX11 14, w ∈ lw_tbl := by
  have h : u_ws RX11 TX11 14 = ([615, 617, 619, 621, 623, 625, 627, 629, 631, 633, 635, 637, 639, 641] : List Nat).filterMap (fun i => lw_tbl[i]?) := by decide +kernel
  intro w hw
  rw [h] at hw
  obtain ⟨i, -, hi⟩ := List.mem_filterMap.mp hw
  exact List.mem_of_getElem? hi
theorem wsX12_in : ∀ w ∈ u_ws RX12 TX12 100, w ∈ lw_tbl := by
  have h : u_ws RX12 TX12 100 = ([1560, 1562, 1564, 1566, 1568, 1570, 1572, 1574, 1576, 1578, 1580, 1582, 1584, 1586, 1588, 1590, 1592, 1594, 1596, 1598, 1600, 1602, 1604, 1606, 1608, 1610, 1612, 1614, 1616, 1618, 1620, 1622, 1624, 1626, 1628, 1630, 1632, 1634, 1636, 1638, 1640, 1642, 1644, 1646, 1648, 1650, 1652, 1654, 1656, 1658, 1660, 1662, 1664, 1666, 1668, 1670, 1672, 1674, 1676, 1678, 1680, 1682, 1684, 1686, 1688, 1690, 1692, 1694, 1696, 1698, 1700, 1702, 1704, 1706, 1708, 1710, 1712, 1714, 1716, 1718, 1720, 1722, 1724, 1726, 1728, 1730, 1732, 1734, 1736, 1738, 1740, 1742, 1744, 1746, 1748, 1750, 1752, 1754, 1756, 1758] : List Nat).filterMap (fun i => lw_tbl[i]?) := by decide +kernel
  intro w hw
  rw [h] at hw
  obtain ⟨i, -, hi⟩ := List.mem_filterMap.mp hw
  exact List.mem_of_getElem? hi
theorem cls_in {c : Nat} {C : String} {T : u_T} {N : Nat} (h : classes[c]? = some (C, T, N)) : (∀ w ∈ u_ws C T N, w ∈ lw_tbl) ∧ (∃ ty0 : Nat → FieldType, ∀ k, k < N → parseFieldDescriptor (T k).2.2.1 = some (ty0 k)) ∧ (∀ a, a < N → ∀ b, b < N → a ≠ b → (T a).2.1 ≠ (T b).2.1) := by
  match c, h with
  | 0, h => cases h; exact ⟨wsX0_in, ⟨tyX0, tyX0_ok⟩, nmX0⟩
  | 1, h => cases h; exact ⟨wsX1_in, ⟨tyX1, tyX1_ok⟩, nmX1⟩
  | 2, h => cases h; exact ⟨wsX2_in, ⟨tyX2, tyX2_ok⟩, nmX2⟩
  | 3, h => cases h; exact ⟨wsX3_in, ⟨tyX3, tyX3_ok⟩, nmX3⟩
  | 4, h => cases h; exact ⟨wsX4_in, ⟨tyX4, tyX4_ok⟩, nmX4⟩
  | 5, h => cases h; exact ⟨wsX5_in, ⟨tyX5, tyX5_ok⟩, nmX5⟩
  | 6, h => cases h; exact ⟨wsX6_in, ⟨tyX6, tyX6_ok⟩, nmX6⟩
  | 7, h => cases h; exact ⟨wsX7_in, ⟨tyX7, tyX7_ok⟩, nmX7⟩
  | 8, h => cases h; exact ⟨wsX8_in, ⟨tyX8, tyX8_ok⟩, nmX8⟩
  | 9, h => cases h; exact ⟨wsX9_in, ⟨tyX9, tyX9_ok⟩, nmX9⟩
  | 10, h => cases h; exact ⟨wsX10_in, ⟨tyX10, tyX10_ok⟩, nmX10⟩
  | 11, h => cases h; exact ⟨wsX11_in, ⟨tyX11, tyX11_ok⟩, nmX11⟩
  | 12, h => cases h; exact ⟨wsX12_in, ⟨tyX12, tyX12_ok⟩, nmX12⟩
  | c + 13, h => simp [classes] at h
/-- the cells in the order in which they are made: kind (a class's number; rows: 20 int, 21 long, 22 boolean, 23 char), length, what never changes in it -/
def SH : List (Nat × Nat × List Nat) := [(11, 0, [1, 3, 20, 37, 39, 46, 48, 55, 64, 70, 77, 0, 0, 0]),
  (5, 0, [2, 0, 0, 0, 0, 0, 0]),
  (20, 1600, []),
  (7, 0, [4, 5, 6, 7, 8, 9, 10, 11, 12, 13, 14, 15, 16, 0]),
  (20, 3, []),
  (20, 36, []),
  (20, 12, []),
  (20, 12, []),
  (20, 12, []),
  (20, 12, []),
  (20, 12, []),
  (20, 12, []),
  (20, 12, []),
  (20, 6, []),
  (20, 6, []),
  (20, 6, []),
  (0, 0, [17, 18, 19, 0, 0]),
  (20, 1600, []),
  (20, 64, []),
  (20, 36, []),
  (7, 0, [21, 22, 23, 24, 25, 26, 27, 28, 29, 30, 31, 32, 33, 0]),
  (20, 3, []),
  (20, 36, []),
  (20, 12, []),
  (20, 12, []),
  (20, 12, []),
  (20, 12, []),
  (20, 12, []),
  (20, 12, []),
  (20, 12, []),
  (20, 6, []),
  (20, 6, []),
  (20, 6, []),
  (0, 0, [34, 35, 36, 0, 0]),
  (20, 1600, []),
  (20, 64, []),
  (20, 36, []),
  (8, 0, [1, 20, 38]),
  (4, 0, [1, 33, 0]),
  (2, 0, [3, 40, 41, 42, 43, 44, 45, 0, 0, 0]),
  (20, 12, []),
  (20, 6, []),
  (20, 6, []),
  (20, 6, []),
  (20, 620, []),
  (20, 39, []),
  (10, 0, [3, 39, 47, 0]),
  (21, 6144, []),
  (9, 0, [3, 39, 46, 49, 50, 51, 0, 52, 53, 54, 0]),
  (20, 9, []),
  (20, 9, []),
  (20, 9, []),
  (20, 36, []),
  (20, 36, []),
  (20, 36, []),
  (1, 0, [3, 39, 46, 48, 56, 57, 0, 0, 58, 59, 60, 61, 62, 63]),
  (20, 4, []),
  (20, 4, []),
  (20, 4, []),
  (20, 4, []),
  (20, 3, []),
  (20, 405, []),
  (20, 12, []),
  (20, 216, []),
  (6, 0, [3, 39, 46, 65, 66, 67, 0, 68, 69]),
  (20, 20, []),
  (20, 20, []),
  (20, 20, []),
  (20, 48, []),
  (20, 100, []),
  (3, 0, [1, 3, 39, 46, 48, 71, 76, 75]),
  (0, 0, [72, 73, 74, 0, 0]),
  (20, 1600, []),
  (20, 64, []),
  (20, 36, []),
  (20, 201, []),
  (4, 0, [1, 71, 0]),
  (20, 6, []),
  (12, 0, [79, 0, 0, 0, 0, 0, 0, 0, 0, 80, 81, 82, 83, 84, 85, 86, 87, 88, 89, 90, 91, 92, 93, 94, 95, 96, 97, 0, 98, 99, 100, 101, 0, 0, 102, 0, 103, 0, 0, 104, 105, 0, 106, 0, 107, 108, 109, 0, 110, 111, 112, 0, 113, 114, 115, 116, 117, 0, 0, 118, 0, 119, 120, 0, 0, 0, 0, 121, 122, 123, 124, 125, 126, 127, 128, 129, 130, 131, 132, 133, 134, 135, 136, 137, 138, 139, 140, 141, 142, 0, 143, 0, 0, 0, 144, 0, 0, 0, 145, 0]),
  (20, 1600, []),
  (20, 6, []),
  (23, 5, [112, 108, 97, 99, 101]),
  (23, 6, [115, 116, 114, 101, 101, 116]),
  (23, 4, [102, 114, 111, 109]),
  (23, 2, [116, 111]),
  (23, 5, [116, 97, 107, 101, 115]),
  (23, 5, [114, 111, 117, 110, 100]),
  (23, 5, [115, 104, 105, 102, 116]),
  (23, 4, [119, 105, 100, 101]),
  (23, 6, [119, 97, 108, 107, 101, 114]),
  (23, 5, [98, 114, 111, 97, 100]),
  (23, 2, [97, 116]),
  (23, 5, [98, 101, 103, 105, 110]),
  (23, 4, [116, 105, 100, 101]),
  (23, 5, [99, 108, 111, 99, 107]),
  (23, 3, [100, 97, 121]),
  (23, 3, [109, 105, 110]),
  (23, 3, [109, 97, 120]),
  (20, 6, []),
  (21, 72, []),
  (20, 120, []),
  (20, 36, []),
  (20, 3200, []),
  (20, 1700, []),
  (20, 24, []),
  (20, 24, []),
  (21, 1700, []),
  (20, 4, []),
  (20, 31, []),
  (20, 200, []),
  (20, 9, []),
  (20, 12, []),
  (20, 12, []),
  (20, 9, []),
  (20, 4, []),
  (20, 4, []),
  (20, 4, []),
  (20, 4, []),
  (20, 216, []),
  (20, 3, []),
  (20, 620, []),
  (20, 60, []),
  (22, 48, []),
  (20, 100, []),
  (23, 5, [102, 105, 114, 115, 116]),
  (23, 4, [108, 97, 115, 116]),
  (23, 5, [111, 102, 116, 101, 110]),
  (23, 5, [116, 111, 116, 97, 108]),
  (23, 4, [109, 111, 115, 116]),
  (23, 5, [108, 101, 97, 115, 116]),
  (23, 3, [110, 111, 116]),
  (23, 3, [97, 110, 100]),
  (23, 2, [111, 114]),
  (23, 3, [97, 108, 108]),
  (23, 3, [109, 105, 110]),
  (23, 3, [109, 97, 120]),
  (23, 4, [104, 111, 117, 114]),
  (23, 5, [99, 108, 111, 99, 107]),
  (23, 3, [100, 97, 121]),
  (23, 5, [119, 105, 100, 116, 104]),
  (23, 4, [116, 105, 100, 101]),
  (23, 6, [112, 97, 115, 115, 101, 115]),
  (20, 1700, []),
  (20, 1700, []),
  (21, 1700, []),
  (20, 39, [])]
/-- the fields of a class: 0 int, 1 long, 2 a reference, 3 boolean -/
def FTY : List (List Nat) := [[2, 2, 2, 0, 0], [2, 2, 2, 2, 2, 2, 0, 0, 2, 2, 2, 2, 2, 2], [2, 2, 2, 2, 2, 2, 2, 0, 0, 0], [2, 2, 2, 2, 2, 2, 2, 2], [2, 2, 3], [2, 0, 0, 0, 0, 0, 0], [2, 2, 2, 2, 2, 2, 0, 2, 2], [2, 2, 2, 2, 2, 2, 2, 2, 2, 2, 2, 2, 2, 0], [2, 2, 2], [2, 2, 2, 2, 2, 2, 0, 2, 2, 2, 0], [2, 2, 2, 1], [2, 2, 2, 2, 2, 2, 2, 2, 2, 2, 2, 0, 0, 1], [2, 0, 0, 0, 0, 0, 0, 0, 0, 2, 2, 2, 2, 2, 2, 2, 2, 2, 2, 2, 2, 2, 2, 2, 2, 2, 2, 0, 2, 2, 2, 2, 0, 0, 2, 0, 2, 0, 0, 2, 2, 0, 2, 0, 2, 2, 2, 0, 2, 2, 2, 0, 2, 2, 2, 2, 2, 0, 0, 2, 0, 2, 2, 0, 0, 1, 0, 2, 2, 2, 2, 2, 2, 2, 2, 2, 2, 2, 2, 2, 2, 2, 2, 2, 2, 2, 2, 2, 2, 0, 2, 0, 0, 0, 2, 0, 1, 3, 2, 0]]
def NC : Nat := 146
def NSt : Nat := 31
def stTx : List String := ["place", "place street from to takes round shift wide walker broad at begin tide clock day min max ", "street", "from", "to", "takes", "round", "shift", "wide", "min", "max", "clock", "day", "hour", "width", "tide", "passes", "walker", "broad", "at", "begin", "first", "last", "often", "total", "most", "least", "not", "all", "and", "or"]
def stLen : List Nat := [5, 89, 6, 4, 2, 5, 5, 5, 4, 3, 3, 5, 3, 4, 5, 4, 6, 6, 5, 2, 5, 5, 4, 5, 5, 4, 5, 3, 3, 3, 2]
def stByt : List (List Int32) := [[112, 108, 97, 99, 101], [112, 108, 97, 99, 101, 32, 115, 116, 114, 101, 101, 116, 32, 102, 114, 111, 109, 32, 116, 111, 32, 116, 97, 107, 101, 115, 32, 114, 111, 117, 110, 100, 32, 115, 104, 105, 102, 116, 32, 119, 105, 100, 101, 32, 119, 97, 108, 107, 101, 114, 32, 98, 114, 111, 97, 100, 32, 97, 116, 32, 98, 101, 103, 105, 110, 32, 116, 105, 100, 101, 32, 99, 108, 111, 99, 107, 32, 100, 97, 121, 32, 109, 105, 110, 32, 109, 97, 120, 32], [115, 116, 114, 101, 101, 116], [102, 114, 111, 109], [116, 111], [116, 97, 107, 101, 115], [114, 111, 117, 110, 100], [115, 104, 105, 102, 116], [119, 105, 100, 101], [109, 105, 110], [109, 97, 120], [99, 108, 111, 99, 107], [100, 97, 121], [104, 111, 117, 114], [119, 105, 100, 116, 104], [116, 105, 100, 101], [112, 97, 115, 115, 101, 115], [119, 97, 108, 107, 101, 114], [98, 114, 111, 97, 100], [97, 116], [98, 101, 103, 105, 110], [102, 105, 114, 115, 116], [108, 97, 115, 116], [111, 102, 116, 101, 110], [116, 111, 116, 97, 108], [109, 111, 115, 116], [108, 101, 97, 115, 116], [110, 111, 116], [97, 108, 108], [97, 110, 100], [111, 114]]
def stTab : List (String × Nat × String × Nat) := [("BreathTown$TownReader", 53, "place", 0), ("BreathTown$Scan", 82, "place street from to takes round shift wide walker broad at begin tide clock day min max ", 1), ("BreathTown$TownReader", 62, "street", 2), ("BreathTown$TownReader", 110, "from", 3), ("BreathTown$TownReader", 119, "to", 4), ("BreathTown$TownReader", 127, "takes", 5), ("BreathTown$TownReader", 135, "round", 6), ("BreathTown$TownReader", 140, "shift", 7), ("BreathTown$TownReader", 145, "wide", 8), ("BreathTown$Reader", 75, "min", 9), ("BreathTown$Reader", 84, "max", 10), ("BreathTown$Reader", 86, "clock", 11), ("BreathTown$Reader", 88, "day", 12), ("BreathTown$Reader", 100, "hour", 13), ("BreathTown$Reader", 102, "width", 14), ("BreathTown$Reader", 93, "tide", 15), ("BreathTown$Reader", 107, "passes", 16), ("BreathTown$Reader", 95, "round", 6), ("BreathTown$TownReader", 67, "walker", 17), ("BreathTown$TownReader", 165, "broad", 18), ("BreathTown$TownReader", 170, "at", 19), ("BreathTown$TownReader", 79, "begin", 20), ("BreathTown$Question", 76, "first", 21), ("BreathTown$Question", 82, "last", 22), ("BreathTown$Question", 84, "often", 23), ("BreathTown$Question", 86, "total", 24), ("BreathTown$Question", 88, "most", 25), ("BreathTown$Question", 90, "least", 26), ("BreathTown$Reader", 119, "not", 27), ("BreathTown$Reader", 121, "all", 28), ("BreathTown$Reader", 117, "and", 29), ("BreathTown$Reader", 112, "or", 30)]
def skind (i : Nat) : Nat := (SH.getD i (99, 0, [])).1
def slen (i : Nat) : Nat := (SH.getD i (99, 0, [])).2.1
def ptr (i k : Nat) : Nat := (SH.getD i (99, 0, [])).2.2.getD k 0
def fts (c : Nat) : List Nat := FTY.getD c []
/-- memory: cell, place -/
abbrev Mm : Type := Nat → Nat → Int
def up (M : Mm) (i k : Nat) (v : Int) : Mm := fun i' => if i' = i then (fun k' => if k' = k then v else M i k') else M i'
theorem up_s (M : Mm) (i k : Nat) (v : Int) : up M i k v i k = v := by simp [up]
theorem up_c (M : Mm) {i k : Nat} {v : Int} {i' : Nat} (h : i' ≠ i) : up M i k v i' = M i' := by simp [up, h]
theorem up_k (M : Mm) {i k : Nat} {v : Int} {k' : Nat} (h : k' ≠ k) : up M i k v i k' = M i k' := by simp [up, h]
theorem up_r (M : Mm) (i k : Nat) (v : Int) : up M i k v i = fun k' => if k' = k then v else M i k' := by simp [up]
def vI (x : Int) : Value := .int (Int32.ofInt x)
def vJ (x : Int) : Value := .long (Int64.ofInt x)
def i32 (x : Int) : Int := (Int32.ofInt x).toInt
def i64 (x : Int) : Int := (Int64.ofInt x).toInt
def fval (ad : Nat → Nat) (r : Nat → Int) (i k t : Nat) : Value := if t = 2 then .ref (ad (ptr i k)) else if t = 1 then vJ (r k) else vI (r k)
def fl (ad : Nat → Nat) (r : Nat → Int) (i : Nat) : List Value := (fts (skind i)).mapIdx fun k t => fval ad r i k t
def arI (r : Nat → Int) (i : Nat) : Nat → Int32 := if skind i = 23 then fun j => Int32.ofNat (ptr i j) else fun j => Int32.ofInt (r j)
def cont (ad : Nat → Nat) (cA : Nat → ClassId) (r : Nat → Int) (i : Nat) : va_E :=
  if skind i < 20 then .inr (skind i, fl ad r i) else .inl (cA (skind i), slen i, if skind i = 21 then .inr (.inl (fun j => Int64.ofInt (r j))) else .inl (arI r i))
def wd (ad : Nat → Nat) (cA : Nat → ClassId) (M : Mm) : va_W := (List.range NC).map fun i => (ad i, cont ad cA (M i) i)
abbrev tys (cA : Nat → ClassId) : List (ClassId × FieldType) := [(cA 20, .int), (cA 21, .long), (cA 22, .boolean), (cA 23, .char)]
section WD
variable {ad : Nat → Nat} {cA : Nat → ClassId} {M : Mm} {i k t c : Nat}
theorem wd_at (hi : i < NC) : (wd ad cA M)[i]? = some (ad i, cont ad cA (M i) i) := by simp [wd, hi]
theorem cont_o (hc : skind i = c) (h20 : c < 20) : cont ad cA (M i) i = .inr (c, fl ad (M i) i) := by subst hc; simp [cont, h20]
theorem fl_at {r : Nat → Int} (ht : (fts (skind i))[k]? = some t) : (fl ad r i)[k]? = some (fval ad r i k t) := by simp [fl, ht]
theorem fl_len {r : Nat → Int} : (fl ad r i).length = (fts (skind i)).length := by simp [fl]
theorem fl_set {v : Int} {w : Value} (ht : (fts (skind i))[k]? = some t) (h2 : t ≠ 2) (hw : w = if t = 1 then vJ v else vI v) : (fl ad (M i) i).set k w = fl ad (up M i k v i) i := by
  apply List.ext_getElem?
  intro j
  rw [List.getElem?_set]
  by_cases hj : k = j
  · subst hj
    rw [if_pos rfl, fl_at ht]
    have hl : k < (fl ad (M i) i).length := by rw [fl_len]; exact (List.getElem?_eq_some_iff.mp ht).1
    rw [if_pos hl, hw]
    simp [fval, h2, up]
  · rw [if_neg hj]
    simp only [fl, List.getElem?_mapIdx, up_r]
    cases (fts (skind i))[j]? with
    | none => rfl
    | some t' => simp [fval, Ne.symm hj]
theorem wd_set {e : va_E} {v : Int} (hi : i < NC) (he : e = cont ad cA (up M i k v i) i) : (wd ad cA M).set i (ad i, e) = wd ad cA (up M i k v) := by
  apply List.ext_getElem?
  intro j
  rw [List.getElem?_set]
  by_cases hj : i = j
  · subst hj
    rw [if_pos rfl, if_pos (by simpa [wd] using hi), wd_at hi, he]
  · rw [if_neg hj]
    by_cases hn : j < NC
    · rw [wd_at hn, wd_at hn, up_c M (Ne.symm hj)]
    · rw [List.getElem?_eq_none (by simpa [wd] using hn), List.getElem?_eq_none (by simpa [wd] using hn)]
end WD
