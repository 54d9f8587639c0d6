/-! tables of the abstract machine: classes, fields -/
def q_lk {α : Type} : List (Nat × α) → Nat → Option α
  | [], _ => none
  | (j, x) :: r, i => cond (Nat.beq j i) (some x) (q_lk r i)
def q_cns : List (Nat × String) := [(0, "LampWires$Board"), (1, "LampWires$Frame"), (2, "LampWires$FrameFinder"), (3, "LampWires$Frames"), (4, "LampWires$Guesses"), (5, "LampWires$Script"), (6, "LampWires$Sheet"), (7, "LampWires$Tape"), (8, "LampWires$TurnTable"), (9, "LampWires$Unions"), (10, "LampWires$Ways"), (11, "LampWires"), (12, "LampWiresModel"), (13, "LampWiresLaw"), (14, "java/lang/Integer"), (15, "java/lang/Long"), (16, "java/lang/Math"), (17, "java/lang/String"), (18, "java/lang/StringLatin1"), (19, "jdk/internal/util/Preconditions"), (20, "java/util/Arrays")]
def q_cn (o : Nat) : String := (q_lk q_cns o).getD ""
/-- a class, its fields: declaring class, name, descriptor, final; type; kind (0 int, 1 boolean, 2 reference, 3 reference that is written later) -/
def q_F0 : List (String × String × String × Bool) := [("LampWires$Board", "wireCount", "I", false), ("LampWires$Board", "supply", "I", false), ("LampWires$Board", "lampCount", "I", false), ("LampWires$Board", "from", "[I", true), ("LampWires$Board", "to", "[I", true), ("LampWires$Board", "volts", "[I", true), ("LampWires$Board", "state", "[I", true), ("LampWires$Board", "level", "[I", true)]
def q_Y0 : List FieldType := [.int, .int, .int, .array .int, .array .int, .array .int, .array .int, .array .int]
def q_K0 : List Nat := [0, 0, 0, 2, 2, 2, 2, 2]
def q_F1 : List (String × String × String × Bool) := [("LampWires$Frame", "known", "Z", false), ("LampWires$Frame", "picture", "I", false), ("LampWires$Frame", "size", "I", false), ("LampWires$Frame", "turns", "[I", true)]
def q_Y1 : List FieldType := [.boolean, .int, .int, .array .int]
def q_K1 : List Nat := [1, 0, 0, 2]
def q_F2 : List (String × String × String × Bool) := [("LampWires$FrameFinder", "picture", "I", false), ("LampWires$FrameFinder", "failed", "[J", false), ("LampWires$FrameFinder", "wideCount", "I", false), ("LampWires$FrameFinder", "wide", "[I", true), ("LampWires$FrameFinder", "widest", "I", false)]
def q_Y2 : List FieldType := [.int, .array .long, .int, .array .int, .int]
def q_K2 : List Nat := [0, 3, 0, 2, 0]
def q_F3 : List (String × String × String × Bool) := [("LampWires$Frames", "kept", "[LLampWires$Frame;", true), ("LampWires$Frames", "next", "I", false)]
def q_Y3 : List FieldType := [.array (.object "LampWires$Frame"), .int]
def q_K3 : List Nat := [2, 0]
def q_F4 : List (String × String × String × Bool) := [("LampWires$Guesses", "listed", "Z", false), ("LampWires$Guesses", "faults", "I", false), ("LampWires$Guesses", "number", "I", false), ("LampWires$Guesses", "first", "[I", true), ("LampWires$Guesses", "second", "[I", true), ("LampWires$Guesses", "weighed", "Z", false), ("LampWires$Guesses", "telling", "I", false), ("LampWires$Guesses", "firstSilent", "I", false), ("LampWires$Guesses", "trial", "[I", true), ("LampWires$Guesses", "sound", "[I", true)]
def q_Y4 : List FieldType := [.boolean, .int, .int, .array .int, .array .int, .boolean, .int, .int, .array .int, .array .int]
def q_K4 : List Nat := [1, 0, 0, 2, 2, 1, 0, 0, 2, 2]
def q_F5 : List (String × String × String × Bool) := [("LampWires$Script", "lines", "I", false), ("LampWires$Script", "turn", "[I", true), ("LampWires$Script", "ticks", "[I", true), ("LampWires$Script", "seen", "[I", true)]
def q_Y5 : List FieldType := [.int, .array .int, .array .int, .array .int]
def q_K5 : List Nat := [0, 2, 2, 2]
def q_F6 : List (String × String × String × Bool) := [("LampWires$Sheet", "lane", "I", false), ("LampWires$Sheet", "size", "I", false), ("LampWires$Sheet", "cells", "[I", true)]
def q_Y6 : List FieldType := [.int, .int, .array .int]
def q_K6 : List Nat := [0, 0, 2]
def q_F7 : List (String × String × String × Bool) := [("LampWires$Tape", "length", "I", false), ("LampWires$Tape", "fault", "I", false), ("LampWires$Tape", "faultPlace", "I", false), ("LampWires$Tape", "lines", "I", false), ("LampWires$Tape", "turn", "[I", true), ("LampWires$Tape", "ticks", "[I", true), ("LampWires$Tape", "bytes", "[B", true), ("LampWires$Tape", "wires", "I", false), ("LampWires$Tape", "token", "I", false), ("LampWires$Tape", "place", "I", false), ("LampWires$Tape", "behind", "I", false), ("LampWires$Tape", "value", "I", false), ("LampWires$Tape", "driven", "I", false), ("LampWires$Tape", "lineTurn", "I", false)]
def q_Y7 : List FieldType := [.int, .int, .int, .int, .array .int, .array .int, .array .byte, .int, .int, .int, .int, .int, .int, .int]
def q_K7 : List Nat := [0, 0, 0, 0, 2, 2, 2, 0, 0, 0, 0, 0, 0, 0]
def q_F8 : List (String × String × String × Bool) := [("LampWires$TurnTable", "full", "Z", false), ("LampWires$TurnTable", "glowing", "[I", true), ("LampWires$TurnTable", "least", "[B", true), ("LampWires$TurnTable", "shorts", "I", false), ("LampWires$TurnTable", "bright", "I", false), ("LampWires$TurnTable", "most", "I", false), ("LampWires$TurnTable", "mostTurn", "I", false), ("LampWires$TurnTable", "kinds", "I", false), ("LampWires$TurnTable", "kind", "[I", true), ("LampWires$TurnTable", "kindTurn", "[I", true), ("LampWires$TurnTable", "turnCount", "I", false), ("LampWires$TurnTable", "figures", "[I", true)]
def q_Y8 : List FieldType := [.boolean, .array .int, .array .byte, .int, .int, .int, .int, .int, .array .int, .array .int, .int, .array .int]
def q_K8 : List Nat := [1, 2, 2, 0, 0, 0, 0, 0, 2, 2, 0, 2]
def q_F9 : List (String × String × String × Bool) := [("LampWires$Unions", "known", "Z", false), ("LampWires$Unions", "atMost", "[I", true), ("LampWires$Unions", "kinds", "I", false), ("LampWires$Unions", "ordered", "[I", true), ("LampWires$Unions", "words", "I", false), ("LampWires$Unions", "rows", "[J", false)]
def q_Y9 : List FieldType := [.boolean, .array .int, .int, .array .int, .int, .array .long]
def q_K9 : List Nat := [1, 2, 0, 2, 0, 3]
def q_F10 : List (String × String × String × Bool) := [("LampWires$Ways", "least", "I", false), ("LampWires$Ways", "glowing", "I", false), ("LampWires$Ways", "wireCount", "I", false), ("LampWires$Ways", "supply", "I", false), ("LampWires$Ways", "stepVolts", "[I", true), ("LampWires$Ways", "stepLamps", "[I", true), ("LampWires$Ways", "sum", "[I", true), ("LampWires$Ways", "lamps", "[I", true)]
def q_Y10 : List FieldType := [.int, .int, .int, .int, .array .int, .array .int, .array .int, .array .int]
def q_K10 : List Nat := [0, 0, 0, 0, 2, 2, 2, 2]
def q_F11 : List (String × String × String × Bool) := [("LampWires", "board", "LLampWires$Board;", true), ("LampWires", "ways", "LLampWires$Ways;", true), ("LampWires", "table", "LLampWires$TurnTable;", true), ("LampWires", "frames", "LLampWires$Frames;", true), ("LampWires", "finder", "LLampWires$FrameFinder;", true), ("LampWires", "unions", "LLampWires$Unions;", true), ("LampWires", "scratch", "[J", true), ("LampWires", "lightParts", "[I", true), ("LampWires", "tape", "LLampWires$Tape;", true), ("LampWires", "script", "LLampWires$Script;", true), ("LampWires", "guesses", "LLampWires$Guesses;", true), ("LampWires", "sheets", "[LLampWires$Sheet;", true)]
def q_Y11 : List FieldType := [.object "LampWires$Board", .object "LampWires$Ways", .object "LampWires$TurnTable", .object "LampWires$Frames", .object "LampWires$FrameFinder", .object "LampWires$Unions", .array .long, .array .int, .object "LampWires$Tape", .object "LampWires$Script", .object "LampWires$Guesses", .array (.object "LampWires$Sheet")]
def q_K11 : List Nat := [2, 2, 2, 2, 2, 2, 2, 2, 2, 2, 2, 2]
def q_F12 : List (String × String × String × Bool) := [("LampWiresModel", "wires", "I", false), ("LampWiresModel", "supply", "I", false), ("LampWiresModel", "lamps", "I", false), ("LampWiresModel", "lFrom", "[I", true), ("LampWiresModel", "lTo", "[I", true), ("LampWiresModel", "volts", "[I", true), ("LampWiresModel", "hurts", "[I", true), ("LampWiresModel", "levels", "[I", true), ("LampWiresModel", "isFresh", "Z", false), ("LampWiresModel", "drive", "[I", true), ("LampWiresModel", "far", "[I", true), ("LampWiresModel", "near", "[I", true), ("LampWiresModel", "least", "I", false), ("LampWiresModel", "glowing", "[I", true), ("LampWiresModel", "isShort", "[Z", true), ("LampWiresModel", "sets", "I", false), ("LampWiresModel", "setOf", "[I", true), ("LampWiresModel", "few", "[B", true), ("LampWiresModel", "more", "[B", true), ("LampWiresModel", "frame", "[I", true), ("LampWiresModel", "planned", "[I", true), ("LampWiresModel", "plannedMany", "[I", true), ("LampWiresModel", "lights", "[J", true), ("LampWiresModel", "lines", "I", false), ("LampWiresModel", "pTurn", "[I", true), ("LampWiresModel", "pTicks", "[I", true), ("LampWiresModel", "seen", "[I", true), ("LampWiresModel", "dLines", "I", false), ("LampWiresModel", "dTurn", "[I", true), ("LampWiresModel", "dTicks", "[I", true), ("LampWiresModel", "tape", "[I", true), ("LampWiresModel", "taped", "I", false), ("LampWiresModel", "pos", "I", false), ("LampWiresModel", "from", "I", false), ("LampWiresModel", "sort", "I", false), ("LampWiresModel", "value", "I", false), ("LampWiresModel", "fault", "I", false), ("LampWiresModel", "wrongAt", "I", false), ("LampWiresModel", "guess", "[I", true), ("LampWiresModel", "guessed", "I", false), ("LampWiresModel", "faulty", "I", false), ("LampWiresModel", "gFirst", "[I", true), ("LampWiresModel", "gSecond", "[I", true), ("LampWiresModel", "lanes", "[I", true), ("LampWiresModel", "sizes", "[I", true), ("LampWiresModel", "cells", "[I", true)]
def q_Y12 : List FieldType := [.int, .int, .int, .array .int, .array .int, .array .int, .array .int, .array .int, .boolean, .array .int, .array .int, .array .int, .int, .array .int, .array .boolean, .int, .array .int, .array .byte, .array .byte, .array .int, .array .int, .array .int, .array .long, .int, .array .int, .array .int, .array .int, .int, .array .int, .array .int, .array .int, .int, .int, .int, .int, .int, .int, .int, .array .int, .int, .int, .array .int, .array .int, .array .int, .array .int, .array .int]
def q_K12 : List Nat := [0, 0, 0, 2, 2, 2, 2, 2, 1, 2, 2, 2, 0, 2, 2, 0, 2, 2, 2, 2, 2, 2, 2, 0, 2, 2, 2, 0, 2, 2, 2, 0, 0, 0, 0, 0, 0, 0, 2, 0, 0, 2, 2, 2, 2, 2]
def q_Fs : List (Nat × List (String × String × String × Bool)) := [(0, q_F0), (1, q_F1), (2, q_F2), (3, q_F3), (4, q_F4), (5, q_F5), (6, q_F6), (7, q_F7), (8, q_F8), (9, q_F9), (10, q_F10), (11, q_F11), (12, q_F12)]
def q_Ys : List (Nat × List FieldType) := [(0, q_Y0), (1, q_Y1), (2, q_Y2), (3, q_Y3), (4, q_Y4), (5, q_Y5), (6, q_Y6), (7, q_Y7), (8, q_Y8), (9, q_Y9), (10, q_Y10), (11, q_Y11), (12, q_Y12)]
def q_Ks : List (Nat × List Nat) := [(0, q_K0), (1, q_K1), (2, q_K2), (3, q_K3), (4, q_K4), (5, q_K5), (6, q_K6), (7, q_K7), (8, q_K8), (9, q_K9), (10, q_K10), (11, q_K11), (12, q_K12)]
def q_F (c : Nat) : List (String × String × String × Bool) := (q_lk q_Fs c).getD []
def q_N (c : Nat) : Nat := (q_F c).length
def q_T (c : Nat) : u_T := fun k => (q_F c).getD k ("", "", "", false)
def q_ty (c k : Nat) : FieldType := ((q_lk q_Ys c).getD []).getD k .int
def q_fk (c k : Nat) : Nat := ((q_lk q_Ks c).getD []).getD k 9
def q_cl : List vw_C := (List.range 13).map (fun c => (q_cn c, q_T c, q_N c))
set_option maxRecDepth 20000 in
theorem q_names : ∀ c, c < 13 → ∀ a, a < q_N c → ∀ b, b < q_N c → a ≠ b → (q_T c a).2.1 ≠ (q_T c b).2.1 := by decide +kernel
set_option maxRecDepth 20000 in
theorem q_types : ∀ c, c < 13 → ∀ k, k < q_N c → parseFieldDescriptor (q_T c k).2.2.1 = some (q_ty c k) := by decide +kernel
set_option maxRecDepth 20000 in
theorem q_words : ∀ c, c < 13 → ∀ w ∈ u_ws (q_cn c) (q_T c) (q_N c), w ∈ lw_tbl := by decide +kernel
set_option maxRecDepth 20000 in
theorem q_insts : ∀ c, c < 13 → Cond.instantiable (q_cn c) (q_N c) ∈ lw_tbl := by decide +kernel
set_option maxRecDepth 20000 in
theorem q_inits : ∀ c, c < 21 → Cond.initialized (q_cn c) ∈ lw_tbl := by decide +kernel
