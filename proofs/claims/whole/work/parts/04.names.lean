/-! NAMES of the classes and their fields: printed ones, out of claim/NAMES.whole -/
def RX0 : String := "BellowsChoir$Band"
def TX0 : u_T := fun k => match k with
  | 0 => ("BellowsChoir$Band", "size", "I", false)
  | 1 => ("BellowsChoir$Band", "leak", "I", false)
  | 2 => ("BellowsChoir$Band", "fill", "I", false)
  | 3 => ("BellowsChoir$Band", "strength", "I", false)
  | 4 => ("BellowsChoir$Band", "pipes", "I", false)
  | 5 => ("BellowsChoir$Band", "draw", "[I", true)
  | 6 => ("BellowsChoir$Band", "worth", "[I", true)
  | 7 => ("BellowsChoir$Band", "x", "[I", true)
  | _ => ("BellowsChoir$Band", "y", "[I", true)
def tyX0 : Nat → FieldType := fun k => match k with
  | 0 => .int
  | 1 => .int
  | 2 => .int
  | 3 => .int
  | 4 => .int
  | 5 => .array .int
  | 6 => .array .int
  | 7 => .array .int
  | _ => .array .int
abbrev wsX00 : List Cond := u_ws RX0 TX0 9
theorem nmX0 : ∀ a, a < 9 → ∀ b, b < 9 → a ≠ b → (TX0 a).2.1 ≠ (TX0 b).2.1 := by decide +kernel
theorem tyX0_ok : ∀ k, k < 9 → parseFieldDescriptor (TX0 k).2.2.1 = some (tyX0 k) := by decide +kernel
def RX2 : String := "BellowsChoir$Heard"
def TX2 : u_T := fun k => match k with
  | 0 => ("BellowsChoir$Heard", "toldOf", "J", false)
  | 1 => ("BellowsChoir$Heard", "numbers", "J", false)
  | 2 => ("BellowsChoir$Heard", "clash", "Z", false)
  | _ => ("BellowsChoir$Heard", "alike", "[I", true)
def tyX2 : Nat → FieldType := fun k => match k with
  | 0 => .long
  | 1 => .long
  | 2 => .boolean
  | _ => .array .int
abbrev wsX20 : List Cond := u_ws RX2 TX2 4
theorem nmX2 : ∀ a, a < 4 → ∀ b, b < 4 → a ≠ b → (TX2 a).2.1 ≠ (TX2 b).2.1 := by decide +kernel
theorem tyX2_ok : ∀ k, k < 4 → parseFieldDescriptor (TX2 k).2.2.1 = some (tyX2 k) := by decide +kernel
def RX3 : String := "BellowsChoir$Leather"
def TX3 : u_T := fun k => match k with
  | 0 => ("BellowsChoir$Leather", "from", "[I", true)
  | _ => ("BellowsChoir$Leather", "way", "[I", true)
def tyX3 : Nat → FieldType := fun k => match k with
  | 0 => .array .int
  | _ => .array .int
abbrev wsX30 : List Cond := u_ws RX3 TX3 2
theorem nmX3 : ∀ a, a < 2 → ∀ b, b < 2 → a ≠ b → (TX3 a).2.1 ≠ (TX3 b).2.1 := by decide +kernel
theorem tyX3_ok : ∀ k, k < 2 → parseFieldDescriptor (TX3 k).2.2.1 = some (tyX3 k) := by decide +kernel
def RX4 : String := "BellowsChoir$Log"
def TX4 : u_T := fun k => match k with
  | 0 => ("BellowsChoir$Log", "lines", "I", false)
  | 1 => ("BellowsChoir$Log", "beat", "[I", true)
  | _ => ("BellowsChoir$Log", "number", "[I", true)
def tyX4 : Nat → FieldType := fun k => match k with
  | 0 => .int
  | 1 => .array .int
  | _ => .array .int
abbrev wsX40 : List Cond := u_ws RX4 TX4 3
theorem nmX4 : ∀ a, a < 3 → ∀ b, b < 3 → a ≠ b → (TX4 a).2.1 ≠ (TX4 b).2.1 := by decide +kernel
theorem tyX4_ok : ∀ k, k < 3 → parseFieldDescriptor (TX4 k).2.2.1 = some (tyX4 k) := by decide +kernel
def RX5 : String := "BellowsChoir$Play"
def TX5 : u_T := fun k => match k with
  | 0 => ("BellowsChoir$Play", "size", "I", false)
  | 1 => ("BellowsChoir$Play", "fill", "I", false)
  | 2 => ("BellowsChoir$Play", "strength", "I", false)
  | 3 => ("BellowsChoir$Play", "pipes", "I", false)
  | 4 => ("BellowsChoir$Play", "leak", "I", false)
  | 5 => ("BellowsChoir$Play", "draw", "[I", true)
  | 6 => ("BellowsChoir$Play", "row", "[I", true)
  | 7 => ("BellowsChoir$Play", "wanted", "[I", true)
  | 8 => ("BellowsChoir$Play", "breath", "[I", true)
  | 9 => ("BellowsChoir$Play", "force", "[I", true)
  | 10 => ("BellowsChoir$Play", "fainted", "[I", true)
  | 11 => ("BellowsChoir$Play", "leaked", "[I", true)
  | 12 => ("BellowsChoir$Play", "sound", "[I", true)
  | 13 => ("BellowsChoir$Play", "silent", "[I", true)
  | 14 => ("BellowsChoir$Play", "stolen", "[I", true)
  | _ => ("BellowsChoir$Play", "strain", "I", false)
def tyX5 : Nat → FieldType := fun k => match k with
  | 0 => .int
  | 1 => .int
  | 2 => .int
  | 3 => .int
  | 4 => .int
  | 5 => .array .int
  | 6 => .array .int
  | 7 => .array .int
  | 8 => .array .int
  | 9 => .array .int
  | 10 => .array .int
  | 11 => .array .int
  | 12 => .array .int
  | 13 => .array .int
  | 14 => .array .int
  | _ => .int
abbrev wsX50 : List Cond := u_ws RX5 TX5 16
theorem nmX5 : ∀ a, a < 16 → ∀ b, b < 16 → a ≠ b → (TX5 a).2.1 ≠ (TX5 b).2.1 := by decide +kernel
theorem tyX5_ok : ∀ k, k < 16 → parseFieldDescriptor (TX5 k).2.2.1 = some (tyX5 k) := by decide +kernel
def RX6 : String := "BellowsChoir$Reader"
def TX6 : u_T := fun k => match k with
  | 0 => ("BellowsChoir$Reader", "band", "LBellowsChoir$Band;", true)
  | 1 => ("BellowsChoir$Reader", "score", "LBellowsChoir$Score;", true)
  | 2 => ("BellowsChoir$Reader", "log", "LBellowsChoir$Log;", true)
  | 3 => ("BellowsChoir$Reader", "treads", "I", false)
  | 4 => ("BellowsChoir$Reader", "fault", "I", false)
  | 5 => ("BellowsChoir$Reader", "place", "I", false)
  | 6 => ("BellowsChoir$Reader", "tape", "[B", false)
  | 7 => ("BellowsChoir$Reader", "length", "I", false)
  | 8 => ("BellowsChoir$Reader", "word", "I", false)
  | 9 => ("BellowsChoir$Reader", "had", "I", false)
  | 10 => ("BellowsChoir$Reader", "lines", "I", false)
  | _ => ("BellowsChoir$Reader", "numbers", "[I", true)
def tyX6 : Nat → FieldType := fun k => match k with
  | 0 => .object "BellowsChoir$Band"
  | 1 => .object "BellowsChoir$Score"
  | 2 => .object "BellowsChoir$Log"
  | 3 => .int
  | 4 => .int
  | 5 => .int
  | 6 => .array .byte
  | 7 => .int
  | 8 => .int
  | 9 => .int
  | 10 => .int
  | _ => .array .int
abbrev wsX60 : List Cond := u_ws RX6 TX6 12
theorem nmX6 : ∀ a, a < 12 → ∀ b, b < 12 → a ≠ b → (TX6 a).2.1 ≠ (TX6 b).2.1 := by decide +kernel
theorem tyX6_ok : ∀ k, k < 12 → parseFieldDescriptor (TX6 k).2.2.1 = some (tyX6 k) := by decide +kernel
def RX7 : String := "BellowsChoir$Score"
def TX7 : u_T := fun k => match k with
  | 0 => ("BellowsChoir$Score", "notes", "I", false)
  | 1 => ("BellowsChoir$Score", "pipe", "[I", true)
  | 2 => ("BellowsChoir$Score", "beat", "[I", true)
  | _ => ("BellowsChoir$Score", "length", "[I", true)
def tyX7 : Nat → FieldType := fun k => match k with
  | 0 => .int
  | 1 => .array .int
  | 2 => .array .int
  | _ => .array .int
abbrev wsX70 : List Cond := u_ws RX7 TX7 4
theorem nmX7 : ∀ a, a < 4 → ∀ b, b < 4 → a ≠ b → (TX7 a).2.1 ≠ (TX7 b).2.1 := by decide +kernel
theorem tyX7_ok : ∀ k, k < 4 → parseFieldDescriptor (TX7 k).2.2.1 = some (tyX7 k) := by decide +kernel
def RX8 : String := "BellowsChoir$Shifter"
def TX8 : u_T := fun k => match k with
  | 0 => ("BellowsChoir$Shifter", "least", "I", false)
  | 1 => ("BellowsChoir$Shifter", "best", "[I", true)
  | 2 => ("BellowsChoir$Shifter", "found", "Z", false)
  | 3 => ("BellowsChoir$Shifter", "treads", "I", false)
  | 4 => ("BellowsChoir$Shifter", "most", "I", false)
  | 5 => ("BellowsChoir$Shifter", "later", "[I", true)
  | _ => ("BellowsChoir$Shifter", "laid", "[[I", true)
def tyX8 : Nat → FieldType := fun k => match k with
  | 0 => .int
  | 1 => .array .int
  | 2 => .boolean
  | 3 => .int
  | 4 => .int
  | 5 => .array .int
  | _ => .array (.array .int)
abbrev wsX80 : List Cond := u_ws RX8 TX8 7
theorem nmX8 : ∀ a, a < 7 → ∀ b, b < 7 → a ≠ b → (TX8 a).2.1 ≠ (TX8 b).2.1 := by decide +kernel
theorem tyX8_ok : ∀ k, k < 7 → parseFieldDescriptor (TX8 k).2.2.1 = some (tyX8 k) := by decide +kernel
def RX9 : String := "BellowsChoir$Told"
def TX9 : u_T := fun k => match k with
  | 0 => ("BellowsChoir$Told", "tape", "[B", true)
  | 1 => ("BellowsChoir$Told", "length", "I", false)
  | 2 => ("BellowsChoir$Told", "fault", "I", false)
  | 3 => ("BellowsChoir$Told", "place", "I", false)
  | 4 => ("BellowsChoir$Told", "counts", "[I", true)
  | 5 => ("BellowsChoir$Told", "bands", "[LBellowsChoir$Band;", true)
  | 6 => ("BellowsChoir$Told", "scores", "[LBellowsChoir$Score;", true)
  | 7 => ("BellowsChoir$Told", "treads", "[I", true)
  | _ => ("BellowsChoir$Told", "logs", "[LBellowsChoir$Log;", true)
def tyX9 : Nat → FieldType := fun k => match k with
  | 0 => .array .byte
  | 1 => .int
  | 2 => .int
  | 3 => .int
  | 4 => .array .int
  | 5 => .array (.object "BellowsChoir$Band")
  | 6 => .array (.object "BellowsChoir$Score")
  | 7 => .array .int
  | _ => .array (.object "BellowsChoir$Log")
abbrev wsX90 : List Cond := u_ws RX9 TX9 9
theorem nmX9 : ∀ a, a < 9 → ∀ b, b < 9 → a ≠ b → (TX9 a).2.1 ≠ (TX9 b).2.1 := by decide +kernel
theorem tyX9_ok : ∀ k, k < 9 → parseFieldDescriptor (TX9 k).2.2.1 = some (tyX9 k) := by decide +kernel
def RX10 : String := "BellowsChoir$Ways"
def TX10 : u_T := fun k => match k with
  | 0 => ("BellowsChoir$Ways", "rows", "[J", true)
  | 1 => ("BellowsChoir$Ways", "wellBy", "[I", true)
  | 2 => ("BellowsChoir$Ways", "silencesInAll", "J", false)
  | _ => ("BellowsChoir$Ways", "known", "Z", false)
def tyX10 : Nat → FieldType := fun k => match k with
  | 0 => .array .long
  | 1 => .array .int
  | 2 => .long
  | _ => .boolean
abbrev wsX100 : List Cond := u_ws RX10 TX10 4
theorem nmX10 : ∀ a, a < 4 → ∀ b, b < 4 → a ≠ b → (TX10 a).2.1 ≠ (TX10 b).2.1 := by decide +kernel
theorem tyX10_ok : ∀ k, k < 4 → parseFieldDescriptor (TX10 k).2.2.1 = some (tyX10 k) := by decide +kernel
def RX11 : String := "BellowsChoir"
def TX11 : u_T := fun k => match k with
  | 0 => ("BellowsChoir", "told", "LBellowsChoir$Told;", true)
  | 1 => ("BellowsChoir", "images", "[LBellowsChoir$Told;", true)
  | 2 => ("BellowsChoir", "reader", "LBellowsChoir$Reader;", true)
  | 3 => ("BellowsChoir", "play", "LBellowsChoir$Play;", true)
  | 4 => ("BellowsChoir", "shifter", "LBellowsChoir$Shifter;", true)
  | 5 => ("BellowsChoir", "hide", "LBellowsChoir$Leather;", true)
  | 6 => ("BellowsChoir", "heard", "LBellowsChoir$Heard;", true)
  | 7 => ("BellowsChoir", "ways", "[LBellowsChoir$Ways;", true)
  | 8 => ("BellowsChoir", "row", "[I", true)
  | _ => ("BellowsChoir", "bestRow", "[I", true)
def tyX11 : Nat → FieldType := fun k => match k with
  | 0 => .object "BellowsChoir$Told"
  | 1 => .array (.object "BellowsChoir$Told")
  | 2 => .object "BellowsChoir$Reader"
  | 3 => .object "BellowsChoir$Play"
  | 4 => .object "BellowsChoir$Shifter"
  | 5 => .object "BellowsChoir$Leather"
  | 6 => .object "BellowsChoir$Heard"
  | 7 => .array (.object "BellowsChoir$Ways")
  | 8 => .array .int
  | _ => .array .int
abbrev wsX110 : List Cond := u_ws RX11 TX11 10
theorem nmX11 : ∀ a, a < 10 → ∀ b, b < 10 → a ≠ b → (TX11 a).2.1 ≠ (TX11 b).2.1 := by decide +kernel
theorem tyX11_ok : ∀ k, k < 10 → parseFieldDescriptor (TX11 k).2.2.1 = some (tyX11 k) := by decide +kernel
def RX12 : String := "BellowsChoirModel"
def TX12 : u_T := fun k => match k with
  | 0 => ("BellowsChoirModel", "code", "I", false)
  | 1 => ("BellowsChoirModel", "tape", "[B", true)
  | 2 => ("BellowsChoirModel", "size", "[I", true)
  | 3 => ("BellowsChoirModel", "fault", "[I", true)
  | 4 => ("BellowsChoirModel", "faultPlace", "[I", true)
  | 5 => ("BellowsChoirModel", "many", "[I", true)
  | 6 => ("BellowsChoirModel", "bands", "[I", true)
  | 7 => ("BellowsChoirModel", "scores", "[I", true)
  | 8 => ("BellowsChoirModel", "steps", "[I", true)
  | 9 => ("BellowsChoirModel", "logs", "[I", true)
  | 10 => ("BellowsChoirModel", "reached", "I", false)
  | 11 => ("BellowsChoirModel", "length", "I", false)
  | 12 => ("BellowsChoirModel", "begins", "I", false)
  | 13 => ("BellowsChoirModel", "sort", "I", false)
  | 14 => ("BellowsChoirModel", "value", "I", false)
  | 15 => ("BellowsChoirModel", "word", "J", false)
  | 16 => ("BellowsChoirModel", "wrongAt", "I", false)
  | 17 => ("BellowsChoirModel", "laterFault", "I", false)
  | 18 => ("BellowsChoirModel", "laterPlace", "I", false)
  | 19 => ("BellowsChoirModel", "told", "[I", true)
  | 20 => ("BellowsChoirModel", "read", "[I", true)
  | 21 => ("BellowsChoirModel", "farBeat", "I", false)
  | 22 => ("BellowsChoirModel", "good", "Z", false)
  | 23 => ("BellowsChoirModel", "band", "I", false)
  | 24 => ("BellowsChoirModel", "score", "I", false)
  | 25 => ("BellowsChoirModel", "pipes", "I", false)
  | 26 => ("BellowsChoirModel", "beats", "[I", true)
  | 27 => ("BellowsChoirModel", "bellows", "I", false)
  | 28 => ("BellowsChoirModel", "fill", "I", false)
  | 29 => ("BellowsChoirModel", "strength", "I", false)
  | 30 => ("BellowsChoirModel", "row", "[I", true)
  | 31 => ("BellowsChoirModel", "breathAt", "[I", true)
  | 32 => ("BellowsChoirModel", "strengthAt", "[I", true)
  | 33 => ("BellowsChoirModel", "sounds", "[I", true)
  | 34 => ("BellowsChoirModel", "silent", "[I", true)
  | 35 => ("BellowsChoirModel", "stolen", "[I", true)
  | 36 => ("BellowsChoirModel", "faint", "[I", true)
  | 37 => ("BellowsChoirModel", "leaked", "I", false)
  | 38 => ("BellowsChoirModel", "strain", "I", false)
  | 39 => ("BellowsChoirModel", "fainter", "I", false)
  | 40 => ("BellowsChoirModel", "trod", "I", false)
  | 41 => ("BellowsChoirModel", "shifts", "[I", true)
  | 42 => ("BellowsChoirModel", "bestShifts", "[I", true)
  | 43 => ("BellowsChoirModel", "worst", "[I", true)
  | 44 => ("BellowsChoirModel", "seatX", "I", false)
  | 45 => ("BellowsChoirModel", "seatY", "I", false)
  | 46 => ("BellowsChoirModel", "from", "[I", true)
  | 47 => ("BellowsChoirModel", "ends", "[I", true)
  | 48 => ("BellowsChoirModel", "which", "I", false)
  | 49 => ("BellowsChoirModel", "ways", "[J", true)
  | 50 => ("BellowsChoirModel", "then", "[J", true)
  | 51 => ("BellowsChoirModel", "log", "I", false)
  | 52 => ("BellowsChoirModel", "found", "I", false)
  | 53 => ("BellowsChoirModel", "fit", "[Z", true)
  | 54 => ("BellowsChoirModel", "soundings", "[I", true)
  | 55 => ("BellowsChoirModel", "treadings", "[I", true)
  | 56 => ("BellowsChoirModel", "ease", "I", false)
  | 57 => ("BellowsChoirModel", "most", "I", false)
  | 58 => ("BellowsChoirModel", "sure", "I", false)
  | 59 => ("BellowsChoirModel", "seed", "I", false)
  | 60 => ("BellowsChoirModel", "bestRow", "[I", true)
  | 61 => ("BellowsChoirModel", "others", "[I", true)
  | _ => ("BellowsChoirModel", "saved", "[Z", true)
def tyX12 : Nat → FieldType := fun k => match k with
  | 0 => .int
  | 1 => .array .byte
  | 2 => .array .int
  | 3 => .array .int
  | 4 => .array .int
  | 5 => .array .int
  | 6 => .array .int
  | 7 => .array .int
  | 8 => .array .int
  | 9 => .array .int
  | 10 => .int
  | 11 => .int
  | 12 => .int
  | 13 => .int
  | 14 => .int
  | 15 => .long
  | 16 => .int
  | 17 => .int
  | 18 => .int
  | 19 => .array .int
  | 20 => .array .int
  | 21 => .int
  | 22 => .boolean
  | 23 => .int
  | 24 => .int
  | 25 => .int
  | 26 => .array .int
  | 27 => .int
  | 28 => .int
  | 29 => .int
  | 30 => .array .int
  | 31 => .array .int
  | 32 => .array .int
  | 33 => .array .int
  | 34 => .array .int
  | 35 => .array .int
  | 36 => .array .int
  | 37 => .int
  | 38 => .int
  | 39 => .int
  | 40 => .int
  | 41 => .array .int
  | 42 => .array .int
  | 43 => .array .int
  | 44 => .int
  | 45 => .int
  | 46 => .array .int
  | 47 => .array .int
  | 48 => .int
  | 49 => .array .long
  | 50 => .array .long
  | 51 => .int
  | 52 => .int
  | 53 => .array .boolean
  | 54 => .array .int
  | 55 => .array .int
  | 56 => .int
  | 57 => .int
  | 58 => .int
  | 59 => .int
  | 60 => .array .int
  | 61 => .array .int
  | _ => .array .boolean
abbrev wsX120 : List Cond := u_ws RX12 TX12 63
theorem nmX12 : ∀ a, a < 63 → ∀ b, b < 63 → a ≠ b → (TX12 a).2.1 ≠ (TX12 b).2.1 := by decide +kernel
theorem tyX12_ok : ∀ k, k < 63 → parseFieldDescriptor (TX12 k).2.2.1 = some (tyX12 k) := by decide +kernel
abbrev vwCl : List vw_C := [(RX0, TX0, 9), (RX2, TX2, 4), (RX3, TX3, 2), (RX4, TX4, 3), (RX5, TX5, 16), (RX6, TX6, 12), (RX7, TX7, 4), (RX8, TX8, 7), (RX9, TX9, 9), (RX10, TX10, 4), (RX11, TX11, 10), (RX12, TX12, 63)]
