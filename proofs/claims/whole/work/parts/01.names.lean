def RX0 : String := "CandleInch$Course"
def TX0 : u_T := fun k => match k with
  | 0 => ("CandleInch$Course", "hall", "LCandleInch$Hall;", true)
  | 1 => ("CandleInch$Course", "sums", "LCandleInch$Sums;", true)
  | 2 => ("CandleInch$Course", "pages", "[I", true)
  | 3 => ("CandleInch$Course", "ends", "[I", true)
  | 4 => ("CandleInch$Course", "length", "I", false)
  | _ => ("CandleInch$Course", "done", "I", false)
def tyX0 : Nat → FieldType := fun k => match k with
  | 0 => .object "CandleInch$Hall"
  | 1 => .object "CandleInch$Sums"
  | 2 => .array .int
  | 3 => .array .int
  | 4 => .int
  | _ => .int
abbrev wsX00 : List Cond := u_ws RX0 TX0 6
set_option maxRecDepth 20000 in
theorem nmX0 : ∀ a, a < 6 → ∀ b, b < 6 → a ≠ b → (TX0 a).2.1 ≠ (TX0 b).2.1 := by decide +kernel
set_option maxRecDepth 20000 in
theorem tyX0_ok : ∀ k, k < 6 → parseFieldDescriptor (TX0 k).2.2.1 = some (tyX0 k) := by decide +kernel
def RX1 : String := "CandleInch$Evening"
def TX1 : u_T := fun k => match k with
  | 0 => ("CandleInch$Evening", "hall", "LCandleInch$Hall;", true)
  | 1 => ("CandleInch$Evening", "sums", "LCandleInch$Sums;", true)
  | 2 => ("CandleInch$Evening", "course", "LCandleInch$Course;", true)
  | 3 => ("CandleInch$Evening", "light", "[I", true)
  | 4 => ("CandleInch$Evening", "last", "[I", true)
  | 5 => ("CandleInch$Evening", "count", "[I", true)
  | 6 => ("CandleInch$Evening", "bits", "[I", true)
  | 7 => ("CandleInch$Evening", "stop", "[I", true)
  | 8 => ("CandleInch$Evening", "left", "[I", true)
  | 9 => ("CandleInch$Evening", "into", "[I", true)
  | _ => ("CandleInch$Evening", "order", "[I", true)
def tyX1 : Nat → FieldType := fun k => match k with
  | 0 => .object "CandleInch$Hall"
  | 1 => .object "CandleInch$Sums"
  | 2 => .object "CandleInch$Course"
  | 3 => .array .int
  | 4 => .array .int
  | 5 => .array .int
  | 6 => .array .int
  | 7 => .array .int
  | 8 => .array .int
  | 9 => .array .int
  | _ => .array .int
abbrev wsX10 : List Cond := u_ws RX1 TX1 11
set_option maxRecDepth 20000 in
theorem nmX1 : ∀ a, a < 11 → ∀ b, b < 11 → a ≠ b → (TX1 a).2.1 ≠ (TX1 b).2.1 := by decide +kernel
set_option maxRecDepth 20000 in
theorem tyX1_ok : ∀ k, k < 11 → parseFieldDescriptor (TX1 k).2.2.1 = some (tyX1 k) := by decide +kernel
def RX2 : String := "CandleInch$Hall"
def TX2 : u_T := fun k => match k with
  | 0 => ("CandleInch$Hall", "shelf", "LCandleInch$Shelf;", false)
  | 1 => ("CandleInch$Hall", "row", "[I", true)
  | 2 => ("CandleInch$Hall", "log", "[I", true)
  | 3 => ("CandleInch$Hall", "past", "[I", true)
  | 4 => ("CandleInch$Hall", "pastNext", "I", false)
  | 5 => ("CandleInch$Hall", "pastCount", "I", false)
  | _ => ("CandleInch$Hall", "stamp", "I", false)
def tyX2 : Nat → FieldType := fun k => match k with
  | 0 => .object "CandleInch$Shelf"
  | 1 => .array .int
  | 2 => .array .int
  | 3 => .array .int
  | 4 => .int
  | 5 => .int
  | _ => .int
abbrev wsX20 : List Cond := u_ws RX2 TX2 7
set_option maxRecDepth 20000 in
theorem nmX2 : ∀ a, a < 7 → ∀ b, b < 7 → a ≠ b → (TX2 a).2.1 ≠ (TX2 b).2.1 := by decide +kernel
set_option maxRecDepth 20000 in
theorem tyX2_ok : ∀ k, k < 7 → parseFieldDescriptor (TX2 k).2.2.1 = some (tyX2 k) := by decide +kernel
def RX3 : String := "CandleInch$Parser"
def TX3 : u_T := fun k => match k with
  | 0 => ("CandleInch$Parser", "tape", "LCandleInch$Tape;", true)
  | 1 => ("CandleInch$Parser", "shelf", "LCandleInch$Shelf;", false)
  | 2 => ("CandleInch$Parser", "fault", "I", false)
  | 3 => ("CandleInch$Parser", "place", "I", false)
  | _ => ("CandleInch$Parser", "open", "I", false)
def tyX3 : Nat → FieldType := fun k => match k with
  | 0 => .object "CandleInch$Tape"
  | 1 => .object "CandleInch$Shelf"
  | 2 => .int
  | 3 => .int
  | _ => .int
abbrev wsX30 : List Cond := u_ws RX3 TX3 5
set_option maxRecDepth 20000 in
theorem nmX3 : ∀ a, a < 5 → ∀ b, b < 5 → a ≠ b → (TX3 a).2.1 ≠ (TX3 b).2.1 := by decide +kernel
set_option maxRecDepth 20000 in
theorem tyX3_ok : ∀ k, k < 5 → parseFieldDescriptor (TX3 k).2.2.1 = some (tyX3 k) := by decide +kernel
def RX4 : String := "CandleInch$Picture"
def TX4 : u_T := fun k => match k with
  | 0 => ("CandleInch$Picture", "bytes", "[I", true)
  | 1 => ("CandleInch$Picture", "row", "[I", true)
  | 2 => ("CandleInch$Picture", "length", "I", false)
  | _ => ("CandleInch$Picture", "at", "I", false)
def tyX4 : Nat → FieldType := fun k => match k with
  | 0 => .array .int
  | 1 => .array .int
  | 2 => .int
  | _ => .int
abbrev wsX40 : List Cond := u_ws RX4 TX4 4
set_option maxRecDepth 20000 in
theorem nmX4 : ∀ a, a < 4 → ∀ b, b < 4 → a ≠ b → (TX4 a).2.1 ≠ (TX4 b).2.1 := by decide +kernel
set_option maxRecDepth 20000 in
theorem tyX4_ok : ∀ k, k < 4 → parseFieldDescriptor (TX4 k).2.2.1 = some (tyX4 k) := by decide +kernel
def RX5 : String := "CandleInch$Seating"
def TX5 : u_T := fun k => match k with
  | 0 => ("CandleInch$Seating", "hall", "LCandleInch$Hall;", true)
  | 1 => ("CandleInch$Seating", "sums", "LCandleInch$Sums;", true)
  | 2 => ("CandleInch$Seating", "course", "LCandleInch$Course;", true)
  | 3 => ("CandleInch$Seating", "burn", "[I", true)
  | 4 => ("CandleInch$Seating", "lengths", "[I", true)
  | 5 => ("CandleInch$Seating", "ends", "[I", true)
  | 6 => ("CandleInch$Seating", "seatWeight", "[I", true)
  | 7 => ("CandleInch$Seating", "weight", "[J", true)
  | 8 => ("CandleInch$Seating", "best", "[J", true)
  | 9 => ("CandleInch$Seating", "stamp", "I", false)
  | 10 => ("CandleInch$Seating", "pages", "I", false)
  | 11 => ("CandleInch$Seating", "wax", "I", false)
  | _ => ("CandleInch$Seating", "seats", "I", false)
def tyX5 : Nat → FieldType := fun k => match k with
  | 0 => .object "CandleInch$Hall"
  | 1 => .object "CandleInch$Sums"
  | 2 => .object "CandleInch$Course"
  | 3 => .array .int
  | 4 => .array .int
  | 5 => .array .int
  | 6 => .array .int
  | 7 => .array .long
  | 8 => .array .long
  | 9 => .int
  | 10 => .int
  | 11 => .int
  | _ => .int
abbrev wsX50 : List Cond := u_ws RX5 TX5 13
set_option maxRecDepth 20000 in
theorem nmX5 : ∀ a, a < 13 → ∀ b, b < 13 → a ≠ b → (TX5 a).2.1 ≠ (TX5 b).2.1 := by decide +kernel
set_option maxRecDepth 20000 in
theorem tyX5_ok : ∀ k, k < 13 → parseFieldDescriptor (TX5 k).2.2.1 = some (tyX5 k) := by decide +kernel
def RX6 : String := "CandleInch$Sharing"
def TX6 : u_T := fun k => match k with
  | 0 => ("CandleInch$Sharing", "hall", "LCandleInch$Hall;", true)
  | 1 => ("CandleInch$Sharing", "sums", "LCandleInch$Sums;", true)
  | 2 => ("CandleInch$Sharing", "study", "LCandleInch$Study;", true)
  | 3 => ("CandleInch$Sharing", "nights", "I", false)
  | 4 => ("CandleInch$Sharing", "minutes", "I", false)
  | 5 => ("CandleInch$Sharing", "stamp", "I", false)
  | 6 => ("CandleInch$Sharing", "asked", "I", false)
  | 7 => ("CandleInch$Sharing", "pages", "I", false)
  | 8 => ("CandleInch$Sharing", "sharers", "I", false)
  | 9 => ("CandleInch$Sharing", "pageAt", "[I", true)
  | 10 => ("CandleInch$Sharing", "given", "[I", true)
  | 11 => ("CandleInch$Sharing", "best", "[I", true)
  | 12 => ("CandleInch$Sharing", "light", "[I", true)
  | 13 => ("CandleInch$Sharing", "takes", "[I", true)
  | 14 => ("CandleInch$Sharing", "asks", "[I", true)
  | 15 => ("CandleInch$Sharing", "part", "[I", true)
  | _ => ("CandleInch$Sharing", "spent", "[I", true)
def tyX6 : Nat → FieldType := fun k => match k with
  | 0 => .object "CandleInch$Hall"
  | 1 => .object "CandleInch$Sums"
  | 2 => .object "CandleInch$Study"
  | 3 => .int
  | 4 => .int
  | 5 => .int
  | 6 => .int
  | 7 => .int
  | 8 => .int
  | 9 => .array .int
  | 10 => .array .int
  | 11 => .array .int
  | 12 => .array .int
  | 13 => .array .int
  | 14 => .array .int
  | 15 => .array .int
  | _ => .array .int
abbrev wsX60 : List Cond := u_ws RX6 TX6 17
set_option maxRecDepth 20000 in
theorem nmX6 : ∀ a, a < 17 → ∀ b, b < 17 → a ≠ b → (TX6 a).2.1 ≠ (TX6 b).2.1 := by decide +kernel
set_option maxRecDepth 20000 in
theorem tyX6_ok : ∀ k, k < 17 → parseFieldDescriptor (TX6 k).2.2.1 = some (tyX6 k) := by decide +kernel
def RX7 : String := "CandleInch$Shelf"
def TX7 : u_T := fun k => match k with
  | 0 => ("CandleInch$Shelf", "count", "[I", true)
  | 1 => ("CandleInch$Shelf", "names", "[I", true)
  | 2 => ("CandleInch$Shelf", "bookOf", "[I", true)
  | 3 => ("CandleInch$Shelf", "lines", "[I", true)
  | 4 => ("CandleInch$Shelf", "print", "[I", true)
  | 5 => ("CandleInch$Shelf", "needs", "[I", true)
  | 6 => ("CandleInch$Shelf", "needsAll", "[I", true)
  | 7 => ("CandleInch$Shelf", "pace", "[I", true)
  | 8 => ("CandleInch$Shelf", "eyes", "[I", true)
  | 9 => ("CandleInch$Shelf", "draft", "[I", true)
  | 10 => ("CandleInch$Shelf", "code", "[I", true)
  | 11 => ("CandleInch$Shelf", "ruleFrom", "[I", true)
  | 12 => ("CandleInch$Shelf", "ruleTo", "[I", true)
  | 13 => ("CandleInch$Shelf", "codeLength", "I", false)
  | 14 => ("CandleInch$Shelf", "needCount", "I", false)
  | _ => ("CandleInch$Shelf", "inch", "I", false)
def tyX7 : Nat → FieldType := fun k => match k with
  | 0 => .array .int
  | 1 => .array .int
  | 2 => .array .int
  | 3 => .array .int
  | 4 => .array .int
  | 5 => .array .int
  | 6 => .array .int
  | 7 => .array .int
  | 8 => .array .int
  | 9 => .array .int
  | 10 => .array .int
  | 11 => .array .int
  | 12 => .array .int
  | 13 => .int
  | 14 => .int
  | _ => .int
abbrev wsX70 : List Cond := u_ws RX7 TX7 16
set_option maxRecDepth 20000 in
theorem nmX7 : ∀ a, a < 16 → ∀ b, b < 16 → a ≠ b → (TX7 a).2.1 ≠ (TX7 b).2.1 := by decide +kernel
set_option maxRecDepth 20000 in
theorem tyX7_ok : ∀ k, k < 16 → parseFieldDescriptor (TX7 k).2.2.1 = some (tyX7 k) := by decide +kernel
def RX8 : String := "CandleInch$Study"
def TX8 : u_T := fun k => match k with
  | 0 => ("CandleInch$Study", "hall", "LCandleInch$Hall;", true)
  | 1 => ("CandleInch$Study", "sums", "LCandleInch$Sums;", true)
  | 2 => ("CandleInch$Study", "takes", "[I", true)
  | 3 => ("CandleInch$Study", "takesFrom", "[I", true)
  | 4 => ("CandleInch$Study", "mostCount", "I", false)
  | 5 => ("CandleInch$Study", "mostBits", "I", false)
  | 6 => ("CandleInch$Study", "mostMinutes", "I", false)
  | 7 => ("CandleInch$Study", "setCount", "I", false)
  | 8 => ("CandleInch$Study", "setAll", "I", false)
  | 9 => ("CandleInch$Study", "setSome", "I", false)
  | 10 => ("CandleInch$Study", "limit", "I", false)
  | 11 => ("CandleInch$Study", "mostStamp", "I", false)
  | 12 => ("CandleInch$Study", "mostReader", "I", false)
  | 13 => ("CandleInch$Study", "mostNights", "I", false)
  | 14 => ("CandleInch$Study", "setStamp", "I", false)
  | 15 => ("CandleInch$Study", "setReader", "I", false)
  | _ => ("CandleInch$Study", "setMinutes", "I", false)
def tyX8 : Nat → FieldType := fun k => match k with
  | 0 => .object "CandleInch$Hall"
  | 1 => .object "CandleInch$Sums"
  | 2 => .array .int
  | 3 => .array .int
  | 4 => .int
  | 5 => .int
  | 6 => .int
  | 7 => .int
  | 8 => .int
  | 9 => .int
  | 10 => .int
  | 11 => .int
  | 12 => .int
  | 13 => .int
  | 14 => .int
  | 15 => .int
  | _ => .int
abbrev wsX80 : List Cond := u_ws RX8 TX8 17
set_option maxRecDepth 20000 in
theorem nmX8 : ∀ a, a < 17 → ∀ b, b < 17 → a ≠ b → (TX8 a).2.1 ≠ (TX8 b).2.1 := by decide +kernel
set_option maxRecDepth 20000 in
theorem tyX8_ok : ∀ k, k < 17 → parseFieldDescriptor (TX8 k).2.2.1 = some (tyX8 k) := by decide +kernel
def RX9 : String := "CandleInch$Sums"
def TX9 : u_T := fun k => match k with
  | 0 => ("CandleInch$Sums", "stack", "[I", true)
  | 1 => ("CandleInch$Sums", "values", "[I", true)
  | _ => ("CandleInch$Sums", "hall", "LCandleInch$Hall;", true)
def tyX9 : Nat → FieldType := fun k => match k with
  | 0 => .array .int
  | 1 => .array .int
  | _ => .object "CandleInch$Hall"
abbrev wsX90 : List Cond := u_ws RX9 TX9 3
set_option maxRecDepth 20000 in
theorem nmX9 : ∀ a, a < 3 → ∀ b, b < 3 → a ≠ b → (TX9 a).2.1 ≠ (TX9 b).2.1 := by decide +kernel
set_option maxRecDepth 20000 in
theorem tyX9_ok : ∀ k, k < 3 → parseFieldDescriptor (TX9 k).2.2.1 = some (tyX9 k) := by decide +kernel
def RX10 : String := "CandleInch$Tape"
def TX10 : u_T := fun k => match k with
  | 0 => ("CandleInch$Tape", "bytes", "[I", true)
  | 1 => ("CandleInch$Tape", "length", "I", false)
  | 2 => ("CandleInch$Tape", "kind", "I", false)
  | 3 => ("CandleInch$Tape", "start", "I", false)
  | 4 => ("CandleInch$Tape", "past", "I", false)
  | 5 => ("CandleInch$Tape", "value", "I", false)
  | _ => ("CandleInch$Tape", "badAt", "I", false)
def tyX10 : Nat → FieldType := fun k => match k with
  | 0 => .array .int
  | 1 => .int
  | 2 => .int
  | 3 => .int
  | 4 => .int
  | 5 => .int
  | _ => .int
abbrev wsX100 : List Cond := u_ws RX10 TX10 7
set_option maxRecDepth 20000 in
theorem nmX10 : ∀ a, a < 7 → ∀ b, b < 7 → a ≠ b → (TX10 a).2.1 ≠ (TX10 b).2.1 := by decide +kernel
set_option maxRecDepth 20000 in
theorem tyX10_ok : ∀ k, k < 7 → parseFieldDescriptor (TX10 k).2.2.1 = some (tyX10 k) := by decide +kernel
def RX11 : String := "CandleInch"
def TX11 : u_T := fun k => match k with
  | 0 => ("CandleInch", "tape", "LCandleInch$Tape;", true)
  | 1 => ("CandleInch", "parser", "LCandleInch$Parser;", true)
  | 2 => ("CandleInch", "hall", "LCandleInch$Hall;", true)
  | 3 => ("CandleInch", "sums", "LCandleInch$Sums;", true)
  | 4 => ("CandleInch", "evening", "LCandleInch$Evening;", true)
  | 5 => ("CandleInch", "study", "LCandleInch$Study;", true)
  | 6 => ("CandleInch", "sharing", "LCandleInch$Sharing;", true)
  | 7 => ("CandleInch", "seating", "LCandleInch$Seating;", true)
  | 8 => ("CandleInch", "picture", "LCandleInch$Picture;", true)
  | 9 => ("CandleInch", "refused", "[I", true)
  | 10 => ("CandleInch", "spare", "LCandleInch$Shelf;", false)
  | _ => ("CandleInch", "draw", "I", false)
def tyX11 : Nat → FieldType := fun k => match k with
  | 0 => .object "CandleInch$Tape"
  | 1 => .object "CandleInch$Parser"
  | 2 => .object "CandleInch$Hall"
  | 3 => .object "CandleInch$Sums"
  | 4 => .object "CandleInch$Evening"
  | 5 => .object "CandleInch$Study"
  | 6 => .object "CandleInch$Sharing"
  | 7 => .object "CandleInch$Seating"
  | 8 => .object "CandleInch$Picture"
  | 9 => .array .int
  | 10 => .object "CandleInch$Shelf"
  | _ => .int
abbrev wsX110 : List Cond := u_ws RX11 TX11 12
set_option maxRecDepth 20000 in
theorem nmX11 : ∀ a, a < 12 → ∀ b, b < 12 → a ≠ b → (TX11 a).2.1 ≠ (TX11 b).2.1 := by decide +kernel
set_option maxRecDepth 20000 in
theorem tyX11_ok : ∀ k, k < 12 → parseFieldDescriptor (TX11 k).2.2.1 = some (tyX11 k) := by decide +kernel
def RX12 : String := "CandleInchModel"
def TX12 : u_T := fun k => match k with
  | 0 => ("CandleInchModel", "tape", "[I", true)
  | 1 => ("CandleInchModel", "taped", "I", false)
  | 2 => ("CandleInchModel", "size", "I", false)
  | 3 => ("CandleInchModel", "sign", "I", false)
  | 4 => ("CandleInchModel", "signAt", "I", false)
  | 5 => ("CandleInchModel", "signEnd", "I", false)
  | 6 => ("CandleInchModel", "value", "I", false)
  | 7 => ("CandleInchModel", "word", "J", false)
  | 8 => ("CandleInchModel", "faultKind", "I", false)
  | 9 => ("CandleInchModel", "faultPlace", "I", false)
  | 10 => ("CandleInchModel", "toldKind", "I", false)
  | 11 => ("CandleInchModel", "toldPlace", "I", false)
  | 12 => ("CandleInchModel", "lexAt", "I", false)
  | 13 => ("CandleInchModel", "bank", "I", false)
  | 14 => ("CandleInchModel", "books", "[I", true)
  | 15 => ("CandleInchModel", "pages", "[I", true)
  | 16 => ("CandleInchModel", "pageBook", "[I", true)
  | 17 => ("CandleInchModel", "pageLines", "[I", true)
  | 18 => ("CandleInchModel", "pageBig", "[I", true)
  | 19 => ("CandleInchModel", "pageNeeds", "[I", true)
  | 20 => ("CandleInchModel", "needsMany", "[I", true)
  | 21 => ("CandleInchModel", "readers", "[I", true)
  | 22 => ("CandleInchModel", "readerPace", "[I", true)
  | 23 => ("CandleInchModel", "readerEyes", "[I", true)
  | 24 => ("CandleInchModel", "tables", "[I", true)
  | 25 => ("CandleInchModel", "tableDraft", "[I", true)
  | 26 => ("CandleInchModel", "inches", "[I", true)
  | 27 => ("CandleInchModel", "burnsFrom", "[I", true)
  | 28 => ("CandleInchModel", "burnsBehind", "[I", true)
  | 29 => ("CandleInchModel", "takesFrom", "[I", true)
  | 30 => ("CandleInchModel", "takesBehind", "[I", true)
  | 31 => ("CandleInchModel", "tellsFrom", "[I", true)
  | 32 => ("CandleInchModel", "tellsBehind", "[I", true)
  | 33 => ("CandleInchModel", "codeSort", "[I", true)
  | 34 => ("CandleInchModel", "codeValue", "[I", true)
  | 35 => ("CandleInchModel", "bookName", "[J", true)
  | 36 => ("CandleInchModel", "pageName", "[J", true)
  | 37 => ("CandleInchModel", "readerName", "[J", true)
  | 38 => ("CandleInchModel", "tableName", "[J", true)
  | 39 => ("CandleInchModel", "codes", "I", false)
  | 40 => ("CandleInchModel", "in", "I", false)
  | 41 => ("CandleInchModel", "frame", "[I", true)
  | 42 => ("CandleInchModel", "phase", "[I", true)
  | 43 => ("CandleInchModel", "begins", "[Z", true)
  | 44 => ("CandleInchModel", "pair", "[I", true)
  | 45 => ("CandleInchModel", "base", "[I", true)
  | 46 => ("CandleInchModel", "deep", "I", false)
  | 47 => ("CandleInchModel", "open", "I", false)
  | 48 => ("CandleInchModel", "ops", "[I", true)
  | 49 => ("CandleInchModel", "opMany", "I", false)
  | 50 => ("CandleInchModel", "operand", "Z", false)
  | 51 => ("CandleInchModel", "refused", "[I", true)
  | 52 => ("CandleInchModel", "nightOf", "[I", true)
  | 53 => ("CandleInchModel", "waxOf", "[I", true)
  | 54 => ("CandleInchModel", "seatOf", "[I", true)
  | 55 => ("CandleInchModel", "readOf", "[I", true)
  | 56 => ("CandleInchModel", "heardOf", "[I", true)
  | 57 => ("CandleInchModel", "leftOf", "[I", true)
  | 58 => ("CandleInchModel", "intoOf", "[I", true)
  | 59 => ("CandleInchModel", "listMany", "[I", true)
  | 60 => ("CandleInchModel", "listOf", "[I", true)
  | 61 => ("CandleInchModel", "keptMany", "[I", true)
  | 62 => ("CandleInchModel", "keptNight", "[I", true)
  | 63 => ("CandleInchModel", "keptReader", "[I", true)
  | 64 => ("CandleInchModel", "keptPage", "[I", true)
  | 65 => ("CandleInchModel", "undoFirst", "I", false)
  | 66 => ("CandleInchModel", "undos", "I", false)
  | 67 => ("CandleInchModel", "seeds", "J", false)
  | 68 => ("CandleInchModel", "stack", "[J", true)
  | 69 => ("CandleInchModel", "askedLayer", "I", false)
  | 70 => ("CandleInchModel", "askedReader", "I", false)
  | 71 => ("CandleInchModel", "askedPage", "I", false)
  | 72 => ("CandleInchModel", "askedKnows", "I", false)
  | 73 => ("CandleInchModel", "drafty", "I", false)
  | 74 => ("CandleInchModel", "stopOf", "[I", true)
  | 75 => ("CandleInchModel", "pagesBy", "[I", true)
  | 76 => ("CandleInchModel", "lights", "[I", true)
  | 77 => ("CandleInchModel", "pagesAll", "I", false)
  | 78 => ("CandleInchModel", "sharedPage", "[I", true)
  | 79 => ("CandleInchModel", "shareWork", "[I", true)
  | 80 => ("CandleInchModel", "shareNights", "[I", true)
  | 81 => ("CandleInchModel", "sharedTo", "[I", true)
  | 82 => ("CandleInchModel", "sharedNights", "I", false)
  | 83 => ("CandleInchModel", "sharedMinutes", "I", false)
  | 84 => ("CandleInchModel", "bestSeat", "[I", true)
  | 85 => ("CandleInchModel", "each", "[I", true)
  | 86 => ("CandleInchModel", "out", "[I", true)
  | _ => ("CandleInchModel", "outs", "I", false)
def tyX12 : Nat → FieldType := fun k => match k with
  | 0 => .array .int
  | 1 => .int
  | 2 => .int
  | 3 => .int
  | 4 => .int
  | 5 => .int
  | 6 => .int
  | 7 => .long
  | 8 => .int
  | 9 => .int
  | 10 => .int
  | 11 => .int
  | 12 => .int
  | 13 => .int
  | 14 => .array .int
  | 15 => .array .int
  | 16 => .array .int
  | 17 => .array .int
  | 18 => .array .int
  | 19 => .array .int
  | 20 => .array .int
  | 21 => .array .int
  | 22 => .array .int
  | 23 => .array .int
  | 24 => .array .int
  | 25 => .array .int
  | 26 => .array .int
  | 27 => .array .int
  | 28 => .array .int
  | 29 => .array .int
  | 30 => .array .int
  | 31 => .array .int
  | 32 => .array .int
  | 33 => .array .int
  | 34 => .array .int
  | 35 => .array .long
  | 36 => .array .long
  | 37 => .array .long
  | 38 => .array .long
  | 39 => .int
  | 40 => .int
  | 41 => .array .int
  | 42 => .array .int
  | 43 => .array .boolean
  | 44 => .array .int
  | 45 => .array .int
  | 46 => .int
  | 47 => .int
  | 48 => .array .int
  | 49 => .int
  | 50 => .boolean
  | 51 => .array .int
  | 52 => .array .int
  | 53 => .array .int
  | 54 => .array .int
  | 55 => .array .int
  | 56 => .array .int
  | 57 => .array .int
  | 58 => .array .int
  | 59 => .array .int
  | 60 => .array .int
  | 61 => .array .int
  | 62 => .array .int
  | 63 => .array .int
  | 64 => .array .int
  | 65 => .int
  | 66 => .int
  | 67 => .long
  | 68 => .array .long
  | 69 => .int
  | 70 => .int
  | 71 => .int
  | 72 => .int
  | 73 => .int
  | 74 => .array .int
  | 75 => .array .int
  | 76 => .array .int
  | 77 => .int
  | 78 => .array .int
  | 79 => .array .int
  | 80 => .array .int
  | 81 => .array .int
  | 82 => .int
  | 83 => .int
  | 84 => .array .int
  | 85 => .array .int
  | 86 => .array .int
  | _ => .int
abbrev wsX120 : List Cond := u_ws RX12 TX12 88
set_option maxRecDepth 20000 in
theorem nmX12 : ∀ a, a < 88 → ∀ b, b < 88 → a ≠ b → (TX12 a).2.1 ≠ (TX12 b).2.1 := by decide +kernel
set_option maxRecDepth 20000 in
theorem tyX12_ok : ∀ k, k < 88 → parseFieldDescriptor (TX12 k).2.2.1 = some (tyX12 k) := by decide +kernel
def RJ6 : String := "java/lang/Integer"
def RJ9 : String := "java/lang/Math"
def RJ0 : String := "java/lang/String"
def RJ1 : String := "java/lang/StringLatin1"
def RJ2 : String := "java/lang/StringUTF16"
def RJ10 : String := "java/lang/System"
def RJ7 : String := "java/util/Arrays"
def RJ3 : String := "jdk/internal/util/Preconditions"
abbrev cX0_init : ByteArray := prog_2_method_1_code
def yX0_init : MethodName := ⟨RX0, "<init>", "(LCandleInch$Hall;LCandleInch$Sums;)V"⟩
abbrev cX0_lay : ByteArray := prog_2_method_2_code
def yX0_lay : MethodName := ⟨RX0, "lay", "(IIIZ)V"⟩
abbrev cX0_nextPage : ByteArray := prog_2_method_3_code
def yX0_nextPage : MethodName := ⟨RX0, "nextPage", "(II)I"⟩
abbrev cX0_readBy : ByteArray := prog_2_method_4_code
def yX0_readBy : MethodName := ⟨RX0, "readBy", "(I)I"⟩
abbrev cX0_stopBy : ByteArray := prog_2_method_5_code
def yX0_stopBy : MethodName := ⟨RX0, "stopBy", "(I)I"⟩
abbrev cX0_beginOf : ByteArray := prog_2_method_6_code
def yX0_beginOf : MethodName := ⟨RX0, "beginOf", "(I)I"⟩
abbrev cX1_init : ByteArray := prog_3_method_1_code
def yX1_init : MethodName := ⟨RX1, "<init>", "(LCandleInch$Hall;LCandleInch$Sums;LCandleInch$Course;)V"⟩
abbrev cX1_foresee : ByteArray := prog_3_method_2_code
def yX1_foresee : MethodName := ⟨RX1, "foresee", "(I)V"⟩
abbrev cX1_draftAt : ByteArray := prog_3_method_3_code
def yX1_draftAt : MethodName := ⟨RX1, "draftAt", "(II)I"⟩
abbrev cX1_follow : ByteArray := prog_3_method_4_code
def yX1_follow : MethodName := ⟨RX1, "follow", "(II)V"⟩
abbrev cX1_happen : ByteArray := prog_3_method_5_code
def yX1_happen : MethodName := ⟨RX1, "happen", "()V"⟩
abbrev cX1_allRead : ByteArray := prog_3_method_6_code
def yX1_allRead : MethodName := ⟨RX1, "allRead", "()I"⟩
abbrev cX1_allLight : ByteArray := prog_3_method_7_code
def yX1_allLight : MethodName := ⟨RX1, "allLight", "()I"⟩
abbrev cX1_allWax : ByteArray := prog_3_method_8_code
def yX1_allWax : MethodName := ⟨RX1, "allWax", "()I"⟩
abbrev cX1_idle : ByteArray := prog_3_method_9_code
def yX1_idle : MethodName := ⟨RX1, "idle", "()I"⟩
abbrev cX2_init : ByteArray := prog_4_method_1_code
def yX2_init : MethodName := ⟨RX2, "<init>", "(LCandleInch$Shelf;)V"⟩
abbrev cX2_open : ByteArray := prog_4_method_2_code
def yX2_open : MethodName := ⟨RX2, "open", "(LCandleInch$Shelf;)V"⟩
abbrev cX2_become : ByteArray := prog_4_method_3_code
def yX2_become : MethodName := ⟨RX2, "become", "([I)V"⟩
abbrev cX2_forget : ByteArray := prog_4_method_4_code
def yX2_forget : MethodName := ⟨RX2, "forget", "()V"⟩
abbrev cX2_remember : ByteArray := prog_4_method_5_code
def yX2_remember : MethodName := ⟨RX2, "remember", "()V"⟩
abbrev cX2_recall : ByteArray := prog_4_method_6_code
def yX2_recall : MethodName := ⟨RX2, "recall", "()Z"⟩
abbrev cX2_of : ByteArray := prog_4_method_7_code
def yX2_of : MethodName := ⟨RX2, "of", "(II)I"⟩
abbrev cX2_set : ByteArray := prog_4_method_8_code
def yX2_set : MethodName := ⟨RX2, "set", "(III)V"⟩
abbrev cX2_known : ByteArray := prog_4_method_9_code
def yX2_known : MethodName := ⟨RX2, "known", "(I)I"⟩
abbrev cX2_listed : ByteArray := prog_4_method_10_code
def yX2_listed : MethodName := ⟨RX2, "listed", "(II)I"⟩
abbrev cX2_sittingAt : ByteArray := prog_4_method_11_code
def yX2_sittingAt : MethodName := ⟨RX2, "sittingAt", "(I)I"⟩
abbrev cX2_knownBy : ByteArray := prog_4_method_12_code
def yX2_knownBy : MethodName := ⟨RX2, "knownBy", "(I)I"⟩
abbrev cX2_knownByAll : ByteArray := prog_4_method_13_code
def yX2_knownByAll : MethodName := ⟨RX2, "knownByAll", "()I"⟩
abbrev cX2_toldAsKept : ByteArray := prog_4_method_14_code
def yX2_toldAsKept : MethodName := ⟨RX2, "toldAsKept", "()I"⟩
abbrev cX2_mayList : ByteArray := prog_4_method_15_code
def yX2_mayList : MethodName := ⟨RX2, "mayList", "(II)Z"⟩
abbrev cX2_putBehind : ByteArray := prog_4_method_16_code
def yX2_putBehind : MethodName := ⟨RX2, "putBehind", "(II)V"⟩
abbrev cX2_strike : ByteArray := prog_4_method_17_code
def yX2_strike : MethodName := ⟨RX2, "strike", "(II)V"⟩
abbrev cX2_placeOf : ByteArray := prog_4_method_18_code
def yX2_placeOf : MethodName := ⟨RX2, "placeOf", "(II)I"⟩
abbrev cX2_keep : ByteArray := prog_4_method_19_code
def yX2_keep : MethodName := ⟨RX2, "keep", "(II)V"⟩
abbrev cX3_init : ByteArray := prog_5_method_1_code
def yX3_init : MethodName := ⟨RX3, "<init>", "(LCandleInch$Tape;)V"⟩
abbrev cX3_parse : ByteArray := prog_5_method_2_code
def yX3_parse : MethodName := ⟨RX3, "parse", "(LCandleInch$Shelf;)I"⟩
abbrev cX3_statement : ByteArray := prog_5_method_3_code
def yX3_statement : MethodName := ⟨RX3, "statement", "(I)Z"⟩
abbrev cX3_roomFor : ByteArray := prog_5_method_4_code
def yX3_roomFor : MethodName := ⟨RX3, "roomFor", "(I)I"⟩
abbrev cX3_tellPage : ByteArray := prog_5_method_5_code
def yX3_tellPage : MethodName := ⟨RX3, "tellPage", "()Z"⟩
abbrev cX3_tellNeed : ByteArray := prog_5_method_6_code
def yX3_tellNeed : MethodName := ⟨RX3, "tellNeed", "()Z"⟩
abbrev cX3_tellReader : ByteArray := prog_5_method_7_code
def yX3_tellReader : MethodName := ⟨RX3, "tellReader", "()Z"⟩
abbrev cX3_tellTable : ByteArray := prog_5_method_8_code
def yX3_tellTable : MethodName := ⟨RX3, "tellTable", "()Z"⟩
abbrev cX3_tellInch : ByteArray := prog_5_method_9_code
def yX3_tellInch : MethodName := ⟨RX3, "tellInch", "()Z"⟩
abbrev cX3_beginRule : ByteArray := prog_5_method_10_code
def yX3_beginRule : MethodName := ⟨RX3, "beginRule", "(I)Z"⟩
abbrev cX3_endRule : ByteArray := prog_5_method_11_code
def yX3_endRule : MethodName := ⟨RX3, "endRule", "(I)Z"⟩
abbrev cX3_parseTest : ByteArray := prog_5_method_12_code
def yX3_parseTest : MethodName := ⟨RX3, "parseTest", "()Z"⟩
abbrev cX3_parseBoth : ByteArray := prog_5_method_13_code
def yX3_parseBoth : MethodName := ⟨RX3, "parseBoth", "()Z"⟩
abbrev cX3_parseFact : ByteArray := prog_5_method_14_code
def yX3_parseFact : MethodName := ⟨RX3, "parseFact", "()Z"⟩
abbrev cX3_parseSum : ByteArray := prog_5_method_15_code
def yX3_parseSum : MethodName := ⟨RX3, "parseSum", "()Z"⟩
abbrev cX3_parseProduct : ByteArray := prog_5_method_16_code
def yX3_parseProduct : MethodName := ⟨RX3, "parseProduct", "()Z"⟩
abbrev cX3_parsePart : ByteArray := prog_5_method_17_code
def yX3_parsePart : MethodName := ⟨RX3, "parsePart", "()Z"⟩
abbrev cX3_isValue : ByteArray := prog_5_method_18_code
def yX3_isValue : MethodName := ⟨RX3, "isValue", "(I)Z"⟩
abbrev cX3_signOperator : ByteArray := prog_5_method_19_code
def yX3_signOperator : MethodName := ⟨RX3, "signOperator", "()I"⟩
abbrev cX3_isSumOperator : ByteArray := prog_5_method_20_code
def yX3_isSumOperator : MethodName := ⟨RX3, "isSumOperator", "(I)Z"⟩
abbrev cX3_isProductOperator : ByteArray := prog_5_method_21_code
def yX3_isProductOperator : MethodName := ⟨RX3, "isProductOperator", "(I)Z"⟩
abbrev cX3_isTestOperator : ByteArray := prog_5_method_22_code
def yX3_isTestOperator : MethodName := ⟨RX3, "isTestOperator", "(I)Z"⟩
abbrev cX3_openOne : ByteArray := prog_5_method_23_code
def yX3_openOne : MethodName := ⟨RX3, "openOne", "()Z"⟩
abbrev cX3_closeOne : ByteArray := prog_5_method_24_code
def yX3_closeOne : MethodName := ⟨RX3, "closeOne", "(I)Z"⟩
abbrev cX3_give : ByteArray := prog_5_method_25_code
def yX3_give : MethodName := ⟨RX3, "give", "(I)Z"⟩
abbrev cX3_askName : ByteArray := prog_5_method_26_code
def yX3_askName : MethodName := ⟨RX3, "askName", "(I)I"⟩
abbrev cX3_askNumber : ByteArray := prog_5_method_27_code
def yX3_askNumber : MethodName := ⟨RX3, "askNumber", "(II)I"⟩
abbrev cX3_wantOwn : ByteArray := prog_5_method_28_code
def yX3_wantOwn : MethodName := ⟨RX3, "wantOwn", "(I)Z"⟩
abbrev cX3_wantSign : ByteArray := prog_5_method_29_code
def yX3_wantSign : MethodName := ⟨RX3, "wantSign", "(I)Z"⟩
abbrev cX3_refuseWord : ByteArray := prog_5_method_30_code
def yX3_refuseWord : MethodName := ⟨RX3, "refuseWord", "()Z"⟩
abbrev cX3_fail : ByteArray := prog_5_method_31_code
def yX3_fail : MethodName := ⟨RX3, "fail", "(II)Z"⟩
abbrev cX4_init : ByteArray := prog_6_method_1_code
def yX4_init : MethodName := ⟨RX4, "<init>", "()V"⟩
abbrev cX4_write : ByteArray := prog_6_method_2_code
def yX4_write : MethodName := ⟨RX4, "write", "(LCandleInch$Hall;)V"⟩
abbrev cX4_put : ByteArray := prog_6_method_3_code
def yX4_put : MethodName := ⟨RX4, "put", "(I)V"⟩
abbrev cX4_putTwo : ByteArray := prog_6_method_4_code
def yX4_putTwo : MethodName := ⟨RX4, "putTwo", "(I)V"⟩
abbrev cX4_read : ByteArray := prog_6_method_5_code
def yX4_read : MethodName := ⟨RX4, "read", "(LCandleInch$Tape;LCandleInch$Shelf;)Z"⟩
abbrev cX4_readOne : ByteArray := prog_6_method_6_code
def yX4_readOne : MethodName := ⟨RX4, "readOne", "(LCandleInch$Tape;LCandleInch$Shelf;I)Z"⟩
abbrev cX4_within : ByteArray := prog_6_method_7_code
def yX4_within : MethodName := ⟨RX4, "within", "(II)Z"⟩
abbrev cX4_take : ByteArray := prog_6_method_8_code
def yX4_take : MethodName := ⟨RX4, "take", "(LCandleInch$Tape;)I"⟩
abbrev cX4_takeTwo : ByteArray := prog_6_method_9_code
def yX4_takeTwo : MethodName := ⟨RX4, "takeTwo", "(LCandleInch$Tape;)I"⟩
abbrev cX4_checkOf : ByteArray := prog_6_method_10_code
def yX4_checkOf : MethodName := ⟨RX4, "checkOf", "(LCandleInch$Tape;)I"⟩
abbrev cX5_init : ByteArray := prog_7_method_1_code
def yX5_init : MethodName := ⟨RX5, "<init>", "(LCandleInch$Hall;LCandleInch$Sums;LCandleInch$Course;)V"⟩
abbrev cX5_pagesRead : ByteArray := prog_7_method_2_code
def yX5_pagesRead : MethodName := ⟨RX5, "pagesRead", "()I"⟩
abbrev cX5_waxSaved : ByteArray := prog_7_method_3_code
def yX5_waxSaved : MethodName := ⟨RX5, "waxSaved", "()I"⟩
abbrev cX5_tableOf : ByteArray := prog_7_method_4_code
def yX5_tableOf : MethodName := ⟨RX5, "tableOf", "(I)I"⟩
abbrev cX5_find : ByteArray := prog_7_method_5_code
def yX5_find : MethodName := ⟨RX5, "find", "()V"⟩
abbrev cX5_tellFound : ByteArray := prog_7_method_6_code
def yX5_tellFound : MethodName := ⟨RX5, "tellFound", "(J)V"⟩
abbrev cX5_weighTable : ByteArray := prog_7_method_7_code
def yX5_weighTable : MethodName := ⟨RX5, "weighTable", "(II)V"⟩
abbrev cX5_weigh : ByteArray := prog_7_method_8_code
def yX5_weigh : MethodName := ⟨RX5, "weigh", "(III)J"⟩
abbrev cX5_lastEnd : ByteArray := prog_7_method_9_code
def yX5_lastEnd : MethodName := ⟨RX5, "lastEnd", "(I)I"⟩
abbrev cX5_joinTable : ByteArray := prog_7_method_10_code
def yX5_joinTable : MethodName := ⟨RX5, "joinTable", "(I)V"⟩
abbrev cX6_init : ByteArray := prog_8_method_1_code
def yX6_init : MethodName := ⟨RX6, "<init>", "(LCandleInch$Hall;LCandleInch$Sums;LCandleInch$Study;)V"⟩
abbrev cX6_readerOf : ByteArray := prog_8_method_2_code
def yX6_readerOf : MethodName := ⟨RX6, "readerOf", "(I)I"⟩
abbrev cX6_find : ByteArray := prog_8_method_3_code
def yX6_find : MethodName := ⟨RX6, "find", "(I)V"⟩
abbrev cX6_measure : ByteArray := prog_8_method_4_code
def yX6_measure : MethodName := ⟨RX6, "measure", "(I)V"⟩
abbrev cX6_share : ByteArray := prog_8_method_5_code
def yX6_share : MethodName := ⟨RX6, "share", "(III)V"⟩
abbrev cX6_minutesOf : ByteArray := prog_8_method_6_code
def yX6_minutesOf : MethodName := ⟨RX6, "minutesOf", "(II)I"⟩
abbrev cX7_init : ByteArray := prog_9_method_1_code
def yX7_init : MethodName := ⟨RX7, "<init>", "()V"⟩
abbrev cX7_clear : ByteArray := prog_9_method_2_code
def yX7_clear : MethodName := ⟨RX7, "clear", "()V"⟩
abbrev cX7_holds : ByteArray := prog_9_method_3_code
def yX7_holds : MethodName := ⟨RX7, "holds", "(II)Z"⟩
abbrev cX7_isQuestion : ByteArray := prog_9_method_4_code
def yX7_isQuestion : MethodName := ⟨RX7, "isQuestion", "(I)Z"⟩
abbrev cX7_mayRead : ByteArray := prog_9_method_5_code
def yX7_mayRead : MethodName := ⟨RX7, "mayRead", "(II)Z"⟩
abbrev cX7_hasRule : ByteArray := prog_9_method_6_code
def yX7_hasRule : MethodName := ⟨RX7, "hasRule", "(I)Z"⟩
abbrev cX7_emit : ByteArray := prog_9_method_7_code
def yX7_emit : MethodName := ⟨RX7, "emit", "(I)V"⟩
abbrev cX7_giveName : ByteArray := prog_9_method_8_code
def yX7_giveName : MethodName := ⟨RX7, "giveName", "(ILCandleInch$Tape;)V"⟩
abbrev cX7_findName : ByteArray := prog_9_method_9_code
def yX7_findName : MethodName := ⟨RX7, "findName", "(ILCandleInch$Tape;)I"⟩
abbrev cX7_letterAt : ByteArray := prog_9_method_10_code
def yX7_letterAt : MethodName := ⟨RX7, "letterAt", "(LCandleInch$Tape;I)I"⟩
abbrev cX7_gatherNeeds : ByteArray := prog_9_method_11_code
def yX7_gatherNeeds : MethodName := ⟨RX7, "gatherNeeds", "()V"⟩
abbrev cX8_init : ByteArray := prog_10_method_1_code
def yX8_init : MethodName := ⟨RX8, "<init>", "(LCandleInch$Hall;LCandleInch$Sums;)V"⟩
abbrev cX8_lightOf : ByteArray := prog_10_method_2_code
def yX8_lightOf : MethodName := ⟨RX8, "lightOf", "(I)I"⟩
abbrev cX8_pagesOf : ByteArray := prog_10_method_3_code
def yX8_pagesOf : MethodName := ⟨RX8, "pagesOf", "(III)I"⟩
abbrev cX8_workOf : ByteArray := prog_10_method_4_code
def yX8_workOf : MethodName := ⟨RX8, "workOf", "(III)I"⟩
abbrev cX8_workOfAll : ByteArray := prog_10_method_5_code
def yX8_workOfAll : MethodName := ⟨RX8, "workOfAll", "(II)I"⟩
abbrev cX8_nightsOf : ByteArray := prog_10_method_6_code
def yX8_nightsOf : MethodName := ⟨RX8, "nightsOf", "(II)I"⟩
abbrev cX8_nightsFor : ByteArray := prog_10_method_7_code
def yX8_nightsFor : MethodName := ⟨RX8, "nightsFor", "(II)I"⟩
abbrev cX8_findMost : ByteArray := prog_10_method_8_code
def yX8_findMost : MethodName := ⟨RX8, "findMost", "(II)V"⟩
abbrev cX8_measurePages : ByteArray := prog_10_method_9_code
def yX8_measurePages : MethodName := ⟨RX8, "measurePages", "()V"⟩
abbrev cX8_chooseMost : ByteArray := prog_10_method_10_code
def yX8_chooseMost : MethodName := ⟨RX8, "chooseMost", "(IIII)V"⟩
abbrev cX8_findSets : ByteArray := prog_10_method_11_code
def yX8_findSets : MethodName := ⟨RX8, "findSets", "(II)V"⟩
abbrev cX8_chooseSets : ByteArray := prog_10_method_12_code
def yX8_chooseSets : MethodName := ⟨RX8, "chooseSets", "(III)V"⟩
abbrev cX9_init : ByteArray := prog_11_method_1_code
def yX9_init : MethodName := ⟨RX9, "<init>", "(LCandleInch$Hall;)V"⟩
abbrev cX9_setNow : ByteArray := prog_11_method_2_code
def yX9_setNow : MethodName := ⟨RX9, "setNow", "(I)V"⟩
abbrev cX9_setAt : ByteArray := prog_11_method_3_code
def yX9_setAt : MethodName := ⟨RX9, "setAt", "(IIII)V"⟩
abbrev cX9_inchMinutes : ByteArray := prog_11_method_4_code
def yX9_inchMinutes : MethodName := ⟨RX9, "inchMinutes", "()I"⟩
abbrev cX9_pageMinutes : ByteArray := prog_11_method_5_code
def yX9_pageMinutes : MethodName := ⟨RX9, "pageMinutes", "(I)I"⟩
abbrev cX9_mayHear : ByteArray := prog_11_method_6_code
def yX9_mayHear : MethodName := ⟨RX9, "mayHear", "(I)Z"⟩
abbrev cX9_lightAt : ByteArray := prog_11_method_7_code
def yX9_lightAt : MethodName := ⟨RX9, "lightAt", "(II)I"⟩
abbrev cX9_setPage : ByteArray := prog_11_method_8_code
def yX9_setPage : MethodName := ⟨RX9, "setPage", "(I)V"⟩
abbrev cX9_run : ByteArray := prog_11_method_9_code
def yX9_run : MethodName := ⟨RX9, "run", "(I)I"⟩
abbrev cX9_join : ByteArray := prog_11_method_10_code
def yX9_join : MethodName := ⟨RX9, "join", "(IJJ)I"⟩
abbrev cX9_bounded : ByteArray := prog_11_method_11_code
def yX9_bounded : MethodName := ⟨RX9, "bounded", "(J)I"⟩
abbrev cX10_init : ByteArray := prog_12_method_1_code
def yX10_init : MethodName := ⟨RX10, "<init>", "()V"⟩
abbrev cX10_put : ByteArray := prog_12_method_2_code
def yX10_put : MethodName := ⟨RX10, "put", "(I)V"⟩
abbrev cX10_byteAt : ByteArray := prog_12_method_3_code
def yX10_byteAt : MethodName := ⟨RX10, "byteAt", "(I)I"⟩
abbrev cX10_rewind : ByteArray := prog_12_method_4_code
def yX10_rewind : MethodName := ⟨RX10, "rewind", "()V"⟩
abbrev cX10_step : ByteArray := prog_12_method_5_code
def yX10_step : MethodName := ⟨RX10, "step", "()V"⟩
abbrev cX10_endOfWord : ByteArray := prog_12_method_6_code
def yX10_endOfWord : MethodName := ⟨RX10, "endOfWord", "()I"⟩
abbrev cX10_endOfNumber : ByteArray := prog_12_method_7_code
def yX10_endOfNumber : MethodName := ⟨RX10, "endOfNumber", "()I"⟩
abbrev cX10_number : ByteArray := prog_12_method_8_code
def yX10_number : MethodName := ⟨RX10, "number", "()I"⟩
abbrev cX10_ownWord : ByteArray := prog_12_method_9_code
def yX10_ownWord : MethodName := ⟨RX10, "ownWord", "()I"⟩
abbrev cX10_isOwn : ByteArray := prog_12_method_10_code
def yX10_isOwn : MethodName := ⟨RX10, "isOwn", "(I)Z"⟩
abbrev cX10_isSign : ByteArray := prog_12_method_11_code
def yX10_isSign : MethodName := ⟨RX10, "isSign", "(I)Z"⟩
abbrev cX10_isLetter : ByteArray := prog_12_method_12_code
def yX10_isLetter : MethodName := ⟨RX10, "isLetter", "(I)Z"⟩
abbrev cX10_isDigit : ByteArray := prog_12_method_13_code
def yX10_isDigit : MethodName := ⟨RX10, "isDigit", "(I)Z"⟩
abbrev cX11_init : ByteArray := prog_1_method_1_code
def yX11_init : MethodName := ⟨RX11, "<init>", "()V"⟩
abbrev cX11_feed : ByteArray := prog_1_method_2_code
def yX11_feed : MethodName := ⟨RX11, "feed", "(IIIII)I"⟩
abbrev cX11_end : ByteArray := prog_1_method_3_code
def yX11_end : MethodName := ⟨RX11, "end", "(I)Z"⟩
abbrev cX11_library : ByteArray := prog_1_method_4_code
def yX11_library : MethodName := ⟨RX11, "library", "()I"⟩
abbrev cX11_fault : ByteArray := prog_1_method_5_code
def yX11_fault : MethodName := ⟨RX11, "fault", "(I)I"⟩
abbrev cX11_has : ByteArray := prog_1_method_6_code
def yX11_has : MethodName := ⟨RX11, "has", "(I)I"⟩
abbrev cX11_letter : ByteArray := prog_1_method_7_code
def yX11_letter : MethodName := ⟨RX11, "letter", "(III)I"⟩
abbrev cX11_page : ByteArray := prog_1_method_8_code
def yX11_page : MethodName := ⟨RX11, "page", "(II)I"⟩
abbrev cX11_reader : ByteArray := prog_1_method_9_code
def yX11_reader : MethodName := ⟨RX11, "reader", "(II)I"⟩
abbrev cX11_table : ByteArray := prog_1_method_10_code
def yX11_table : MethodName := ⟨RX11, "table", "(II)I"⟩
abbrev cX11_takes : ByteArray := prog_1_method_11_code
def yX11_takes : MethodName := ⟨RX11, "takes", "(II)I"⟩
abbrev cX11_burns : ByteArray := prog_1_method_12_code
def yX11_burns : MethodName := ⟨RX11, "burns", "(I)I"⟩
abbrev cX11_tonight : ByteArray := prog_1_method_13_code
def yX11_tonight : MethodName := ⟨RX11, "tonight", "(II)I"⟩
abbrev cX11_whole : ByteArray := prog_1_method_14_code
def yX11_whole : MethodName := ⟨RX11, "whole", "(I)I"⟩
abbrev cX11_seat : ByteArray := prog_1_method_15_code
def yX11_seat : MethodName := ⟨RX11, "seat", "(II)Z"⟩
abbrev cX11_list : ByteArray := prog_1_method_16_code
def yX11_list : MethodName := ⟨RX11, "list", "(II)Z"⟩
abbrev cX11_drop : ByteArray := prog_1_method_17_code
def yX11_drop : MethodName := ⟨RX11, "drop", "(I)I"⟩
abbrev cX11_tell : ByteArray := prog_1_method_18_code
def yX11_tell : MethodName := ⟨RX11, "tell", "(III)Z"⟩
abbrev cX11_night : ByteArray := prog_1_method_19_code
def yX11_night : MethodName := ⟨RX11, "night", "()I"⟩
abbrev cX11_winter : ByteArray := prog_1_method_20_code
def yX11_winter : MethodName := ⟨RX11, "winter", "(I)I"⟩
abbrev cX11_undo : ByteArray := prog_1_method_21_code
def yX11_undo : MethodName := ⟨RX11, "undo", "()Z"⟩
abbrev cX11_seed : ByteArray := prog_1_method_22_code
def yX11_seed : MethodName := ⟨RX11, "seed", "(I)Z"⟩
abbrev cX11_kept : ByteArray := prog_1_method_23_code
def yX11_kept : MethodName := ⟨RX11, "kept", "(II)I"⟩
abbrev cX11_work : ByteArray := prog_1_method_24_code
def yX11_work : MethodName := ⟨RX11, "work", "(III)I"⟩
abbrev cX11_scholar : ByteArray := prog_1_method_25_code
def yX11_scholar : MethodName := ⟨RX11, "scholar", "(I)I"⟩
abbrev cX11_shared : ByteArray := prog_1_method_26_code
def yX11_shared : MethodName := ⟨RX11, "shared", "(II)I"⟩
abbrev cX11_seated : ByteArray := prog_1_method_27_code
def yX11_seated : MethodName := ⟨RX11, "seated", "(I)I"⟩
abbrev cX11_most : ByteArray := prog_1_method_28_code
def yX11_most : MethodName := ⟨RX11, "most", "(III)I"⟩
abbrev cX11_wax : ByteArray := prog_1_method_29_code
def yX11_wax : MethodName := ⟨RX11, "wax", "(III)I"⟩
abbrev cX11_index : ByteArray := prog_1_method_30_code
def yX11_index : MethodName := ⟨RX11, "index", "(II)I"⟩
abbrev cX11_image : ByteArray := prog_1_method_31_code
def yX11_image : MethodName := ⟨RX11, "image", "()I"⟩
abbrev cX11_octet : ByteArray := prog_1_method_32_code
def yX11_octet : MethodName := ⟨RX11, "octet", "(I)I"⟩
abbrev cX11_on : ByteArray := prog_1_method_33_code
def yX11_on : MethodName := ⟨RX11, "on", "()Z"⟩
abbrev cX11_status : ByteArray := prog_1_method_34_code
def yX11_status : MethodName := ⟨RX11, "status", "(I)I"⟩
abbrev cX11_refuse : ByteArray := prog_1_method_35_code
def yX11_refuse : MethodName := ⟨RX11, "refuse", "(I)I"⟩
abbrev cX11_deny : ByteArray := prog_1_method_36_code
def yX11_deny : MethodName := ⟨RX11, "deny", "(I)Z"⟩
abbrev cX11_mayTell : ByteArray := prog_1_method_37_code
def yX11_mayTell : MethodName := ⟨RX11, "mayTell", "(III)Z"⟩
abbrev cX11_passNight : ByteArray := prog_1_method_38_code
def yX11_passNight : MethodName := ⟨RX11, "passNight", "(I)I"⟩
abbrev cX11_drawOf : ByteArray := prog_1_method_39_code
def yX11_drawOf : MethodName := ⟨RX11, "drawOf", "(I)I"⟩
abbrev cX12_init : ByteArray := prog_14_method_1_code
def yX12_init : MethodName := ⟨RX12, "<init>", "()V"⟩
abbrev cX12_is : ByteArray := prog_14_method_2_code
def yX12_is : MethodName := ⟨RX12, "is", "(III)Z"⟩
abbrev cX12_put : ByteArray := prog_14_method_3_code
def yX12_put : MethodName := ⟨RX12, "put", "(I)V"⟩
abbrev cX12_feed : ByteArray := prog_14_method_4_code
def yX12_feed : MethodName := ⟨RX12, "feed", "(IIIII)I"⟩
abbrev cX12_end : ByteArray := prog_14_method_5_code
def yX12_end : MethodName := ⟨RX12, "end", "(I)Z"⟩
abbrev cX12_blame : ByteArray := prog_14_method_6_code
def yX12_blame : MethodName := ⟨RX12, "blame", "(II)V"⟩
abbrev cX12_isLetter : ByteArray := prog_14_method_7_code
def yX12_isLetter : MethodName := ⟨RX12, "isLetter", "(I)Z"⟩
abbrev cX12_isDigit : ByteArray := prog_14_method_8_code
def yX12_isDigit : MethodName := ⟨RX12, "isDigit", "(I)Z"⟩
abbrev cX12_lex : ByteArray := prog_14_method_9_code
def yX12_lex : MethodName := ⟨RX12, "lex", "()V"⟩
abbrev cX12_ahead : ByteArray := prog_14_method_10_code
def yX12_ahead : MethodName := ⟨RX12, "ahead", "()V"⟩
abbrev cX12_isSign : ByteArray := prog_14_method_11_code
def yX12_isSign : MethodName := ⟨RX12, "isSign", "(I)Z"⟩
abbrev cX12_isWord : ByteArray := prog_14_method_12_code
def yX12_isWord : MethodName := ⟨RX12, "isWord", "(J)Z"⟩
abbrev cX12_must : ByteArray := prog_14_method_13_code
def yX12_must : MethodName := ⟨RX12, "must", "(I)V"⟩
abbrev cX12_isOwn : ByteArray := prog_14_method_14_code
def yX12_isOwn : MethodName := ⟨RX12, "isOwn", "(J)Z"⟩
abbrev cX12_manyOf : ByteArray := prog_14_method_15_code
def yX12_manyOf : MethodName := ⟨RX12, "manyOf", "(II)I"⟩
abbrev cX12_nameOf : ByteArray := prog_14_method_16_code
def yX12_nameOf : MethodName := ⟨RX12, "nameOf", "(III)J"⟩
abbrev cX12_named : ByteArray := prog_14_method_17_code
def yX12_named : MethodName := ⟨RX12, "named", "(IJ)I"⟩
abbrev cX12_number : ByteArray := prog_14_method_18_code
def yX12_number : MethodName := ⟨RX12, "number", "(II)I"⟩
abbrev cX12_add : ByteArray := prog_14_method_19_code
def yX12_add : MethodName := ⟨RX12, "add", "(II)V"⟩
abbrev cX12_rank : ByteArray := prog_14_method_20_code
def yX12_rank : MethodName := ⟨RX12, "rank", "(I)I"⟩
abbrev cX12_joins : ByteArray := prog_14_method_21_code
def yX12_joins : MethodName := ⟨RX12, "joins", "(I)V"⟩
abbrev cX12_holdsBack : ByteArray := prog_14_method_22_code
def yX12_holdsBack : MethodName := ⟨RX12, "holdsBack", "(I)V"⟩
abbrev cX12_pushes : ByteArray := prog_14_method_23_code
def yX12_pushes : MethodName := ⟨RX12, "pushes", "(I)V"⟩
abbrev cX12_opens : ByteArray := prog_14_method_24_code
def yX12_opens : MethodName := ⟨RX12, "opens", "(I)V"⟩
abbrev cX12_isTest : ByteArray := prog_14_method_25_code
def yX12_isTest : MethodName := ⟨RX12, "isTest", "(I)Z"⟩
abbrev cX12_operand : ByteArray := prog_14_method_26_code
def yX12_operand : MethodName := ⟨RX12, "operand", "()Z"⟩
abbrev cX12_goesOn : ByteArray := prog_14_method_27_code
def yX12_goesOn : MethodName := ⟨RX12, "goesOn", "()Z"⟩
abbrev cX12_reads : ByteArray := prog_14_method_28_code
def yX12_reads : MethodName := ⟨RX12, "reads", "(Z)V"⟩
abbrev cX12_counts : ByteArray := prog_14_method_29_code
def yX12_counts : MethodName := ⟨RX12, "counts", "(Z)Z"⟩
abbrev cX12_must_ : ByteArray := prog_14_method_30_code
def yX12_must_ : MethodName := ⟨RX12, "must", "(J)V"⟩
abbrev cX12_fresh : ByteArray := prog_14_method_31_code
def yX12_fresh : MethodName := ⟨RX12, "fresh", "()J"⟩
abbrev cX12_looked : ByteArray := prog_14_method_32_code
def yX12_looked : MethodName := ⟨RX12, "looked", "(I)I"⟩
abbrev cX12_asked : ByteArray := prog_14_method_33_code
def yX12_asked : MethodName := ⟨RX12, "asked", "(I)I"⟩
abbrev cX12_booking : ByteArray := prog_14_method_34_code
def yX12_booking : MethodName := ⟨RX12, "booking", "()V"⟩
abbrev cX12_paging : ByteArray := prog_14_method_35_code
def yX12_paging : MethodName := ⟨RX12, "paging", "()V"⟩
abbrev cX12_needing : ByteArray := prog_14_method_36_code
def yX12_needing : MethodName := ⟨RX12, "needing", "()V"⟩
abbrev cX12_readering : ByteArray := prog_14_method_37_code
def yX12_readering : MethodName := ⟨RX12, "readering", "()V"⟩
abbrev cX12_tabling : ByteArray := prog_14_method_38_code
def yX12_tabling : MethodName := ⟨RX12, "tabling", "()V"⟩
abbrev cX12_inching : ByteArray := prog_14_method_39_code
def yX12_inching : MethodName := ⟨RX12, "inching", "()V"⟩
abbrev cX12_burning : ByteArray := prog_14_method_40_code
def yX12_burning : MethodName := ⟨RX12, "burning", "()V"⟩
abbrev cX12_taking : ByteArray := prog_14_method_41_code
def yX12_taking : MethodName := ⟨RX12, "taking", "()V"⟩
abbrev cX12_telling : ByteArray := prog_14_method_42_code
def yX12_telling : MethodName := ⟨RX12, "telling", "()V"⟩
abbrev cX12_statement : ByteArray := prog_14_method_43_code
def yX12_statement : MethodName := ⟨RX12, "statement", "()V"⟩
abbrev cX12_finishes : ByteArray := prog_14_method_44_code
def yX12_finishes : MethodName := ⟨RX12, "finishes", "(I)V"⟩
abbrev cX12_library : ByteArray := prog_14_method_45_code
def yX12_library : MethodName := ⟨RX12, "library", "()I"⟩
abbrev cX12_fault : ByteArray := prog_14_method_46_code
def yX12_fault : MethodName := ⟨RX12, "fault", "(I)I"⟩
abbrev cX12_refuses : ByteArray := prog_14_method_47_code
def yX12_refuses : MethodName := ⟨RX12, "refuses", "(I)I"⟩
abbrev cX12_status : ByteArray := prog_14_method_48_code
def yX12_status : MethodName := ⟨RX12, "status", "(I)I"⟩
abbrev cX12_isPage : ByteArray := prog_14_method_49_code
def yX12_isPage : MethodName := ⟨RX12, "isPage", "(I)Z"⟩
abbrev cX12_isReader : ByteArray := prog_14_method_50_code
def yX12_isReader : MethodName := ⟨RX12, "isReader", "(I)Z"⟩
abbrev cX12_isTable : ByteArray := prog_14_method_51_code
def yX12_isTable : MethodName := ⟨RX12, "isTable", "(I)Z"⟩
abbrev cX12_bits : ByteArray := prog_14_method_52_code
def yX12_bits : MethodName := ⟨RX12, "bits", "(I)I"⟩
abbrev cX12_has : ByteArray := prog_14_method_53_code
def yX12_has : MethodName := ⟨RX12, "has", "(II)Z"⟩
abbrev cX12_needsOf : ByteArray := prog_14_method_54_code
def yX12_needsOf : MethodName := ⟨RX12, "needsOf", "(I)I"⟩
abbrev cX12_known : ByteArray := prog_14_method_55_code
def yX12_known : MethodName := ⟨RX12, "known", "(II)I"⟩
abbrev cX12_mayRead : ByteArray := prog_14_method_56_code
def yX12_mayRead : MethodName := ⟨RX12, "mayRead", "(III)Z"⟩
abbrev cX12_copies : ByteArray := prog_14_method_57_code
def yX12_copies : MethodName := ⟨RX12, "copies", "(II)V"⟩
abbrev cX12_begin : ByteArray := prog_14_method_58_code
def yX12_begin : MethodName := ⟨RX12, "begin", "()V"⟩
abbrev cX12_ring : ByteArray := prog_14_method_59_code
def yX12_ring : MethodName := ⟨RX12, "ring", "(I)I"⟩
abbrev cX12_keeps : ByteArray := prog_14_method_60_code
def yX12_keeps : MethodName := ⟨RX12, "keeps", "()V"⟩
abbrev cX12_undo : ByteArray := prog_14_method_61_code
def yX12_undo : MethodName := ⟨RX12, "undo", "()Z"⟩
abbrev cX12_sitting : ByteArray := prog_14_method_62_code
def yX12_sitting : MethodName := ⟨RX12, "sitting", "(II)I"⟩
abbrev cX12_draftOf : ByteArray := prog_14_method_63_code
def yX12_draftOf : MethodName := ⟨RX12, "draftOf", "(I)I"⟩
abbrev cX12_part : ByteArray := prog_14_method_64_code
def yX12_part : MethodName := ⟨RX12, "part", "(II)J"⟩
abbrev cX12_held : ByteArray := prog_14_method_65_code
def yX12_held : MethodName := ⟨RX12, "held", "(J)J"⟩
abbrev cX12_floor : ByteArray := prog_14_method_66_code
def yX12_floor : MethodName := ⟨RX12, "floor", "(JJ)J"⟩
abbrev cX12_two : ByteArray := prog_14_method_67_code
def yX12_two : MethodName := ⟨RX12, "two", "(IJJ)J"⟩
abbrev cX12_isPart : ByteArray := prog_14_method_68_code
def yX12_isPart : MethodName := ⟨RX12, "isPart", "(I)Z"⟩
abbrev cX12_reckons : ByteArray := prog_14_method_69_code
def yX12_reckons : MethodName := ⟨RX12, "reckons", "(II)J"⟩
abbrev cX12_between : ByteArray := prog_14_method_70_code
def yX12_between : MethodName := ⟨RX12, "between", "(JII)I"⟩
abbrev cX12_longOf : ByteArray := prog_14_method_71_code
def yX12_longOf : MethodName := ⟨RX12, "longOf", "(III)I"⟩
abbrev cX12_burnsOf : ByteArray := prog_14_method_72_code
def yX12_burnsOf : MethodName := ⟨RX12, "burnsOf", "(II)I"⟩
abbrev cX12_lightOf : ByteArray := prog_14_method_73_code
def yX12_lightOf : MethodName := ⟨RX12, "lightOf", "(II)I"⟩
abbrev cX12_unlists : ByteArray := prog_14_method_74_code
def yX12_unlists : MethodName := ⟨RX12, "unlists", "(II)V"⟩
abbrev cX12_writesDown : ByteArray := prog_14_method_75_code
def yX12_writesDown : MethodName := ⟨RX12, "writesDown", "(III)V"⟩
abbrev cX12_nextPage : ByteArray := prog_14_method_76_code
def yX12_nextPage : MethodName := ⟨RX12, "nextPage", "(II)I"⟩
abbrev cX12_readsOn : ByteArray := prog_14_method_77_code
def yX12_readsOn : MethodName := ⟨RX12, "readsOn", "(III)V"⟩
abbrev cX12_goesNight : ByteArray := prog_14_method_78_code
def yX12_goesNight : MethodName := ⟨RX12, "goesNight", "(I)I"⟩
abbrev cX12_triesNight : ByteArray := prog_14_method_79_code
def yX12_triesNight : MethodName := ⟨RX12, "triesNight", "()I"⟩
abbrev cX12_has_ : ByteArray := prog_14_method_80_code
def yX12_has_ : MethodName := ⟨RX12, "has", "(I)I"⟩
abbrev cX12_letter : ByteArray := prog_14_method_81_code
def yX12_letter : MethodName := ⟨RX12, "letter", "(III)I"⟩
abbrev cX12_closed : ByteArray := prog_14_method_82_code
def yX12_closed : MethodName := ⟨RX12, "closed", "(III)I"⟩
abbrev cX12_page : ByteArray := prog_14_method_83_code
def yX12_page : MethodName := ⟨RX12, "page", "(II)I"⟩
abbrev cX12_reader : ByteArray := prog_14_method_84_code
def yX12_reader : MethodName := ⟨RX12, "reader", "(II)I"⟩
abbrev cX12_table : ByteArray := prog_14_method_85_code
def yX12_table : MethodName := ⟨RX12, "table", "(II)I"⟩
abbrev cX12_takes : ByteArray := prog_14_method_86_code
def yX12_takes : MethodName := ⟨RX12, "takes", "(II)I"⟩
abbrev cX12_burns : ByteArray := prog_14_method_87_code
def yX12_burns : MethodName := ⟨RX12, "burns", "(I)I"⟩
abbrev cX12_tonight : ByteArray := prog_14_method_88_code
def yX12_tonight : MethodName := ⟨RX12, "tonight", "(II)I"⟩
abbrev cX12_whole : ByteArray := prog_14_method_89_code
def yX12_whole : MethodName := ⟨RX12, "whole", "(I)I"⟩
abbrev cX12_seat : ByteArray := prog_14_method_90_code
def yX12_seat : MethodName := ⟨RX12, "seat", "(II)Z"⟩
abbrev cX12_isListed : ByteArray := prog_14_method_91_code
def yX12_isListed : MethodName := ⟨RX12, "isListed", "(III)Z"⟩
abbrev cX12_list : ByteArray := prog_14_method_92_code
def yX12_list : MethodName := ⟨RX12, "list", "(II)Z"⟩
abbrev cX12_drop : ByteArray := prog_14_method_93_code
def yX12_drop : MethodName := ⟨RX12, "drop", "(I)I"⟩
abbrev cX12_mayHear : ByteArray := prog_14_method_94_code
def yX12_mayHear : MethodName := ⟨RX12, "mayHear", "(II)Z"⟩
abbrev cX12_tell : ByteArray := prog_14_method_95_code
def yX12_tell : MethodName := ⟨RX12, "tell", "(III)Z"⟩
abbrev cX12_nightGoes : ByteArray := prog_14_method_96_code
def yX12_nightGoes : MethodName := ⟨RX12, "nightGoes", "()I"⟩
abbrev cX12_night : ByteArray := prog_14_method_97_code
def yX12_night : MethodName := ⟨RX12, "night", "()I"⟩
abbrev cX12_draw : ByteArray := prog_14_method_98_code
def yX12_draw : MethodName := ⟨RX12, "draw", "(I)I"⟩
abbrev cX12_winter : ByteArray := prog_14_method_99_code
def yX12_winter : MethodName := ⟨RX12, "winter", "(I)I"⟩
abbrev cX12_seed : ByteArray := prog_14_method_100_code
def yX12_seed : MethodName := ⟨RX12, "seed", "(I)Z"⟩
abbrev cX12_kept : ByteArray := prog_14_method_101_code
def yX12_kept : MethodName := ⟨RX12, "kept", "(II)I"⟩
abbrev cX12_isQuestion : ByteArray := prog_14_method_102_code
def yX12_isQuestion : MethodName := ⟨RX12, "isQuestion", "(I)Z"⟩
abbrev cX12_minutesOf : ByteArray := prog_14_method_103_code
def yX12_minutesOf : MethodName := ⟨RX12, "minutesOf", "(II)I"⟩
abbrev cX12_workOf : ByteArray := prog_14_method_104_code
def yX12_workOf : MethodName := ⟨RX12, "workOf", "(III)I"⟩
abbrev cX12_nightsFor : ByteArray := prog_14_method_105_code
def yX12_nightsFor : MethodName := ⟨RX12, "nightsFor", "(II)I"⟩
abbrev cX12_work : ByteArray := prog_14_method_106_code
def yX12_work : MethodName := ⟨RX12, "work", "(III)I"⟩
abbrev cX12_scholar : ByteArray := prog_14_method_107_code
def yX12_scholar : MethodName := ⟨RX12, "scholar", "(I)I"⟩
abbrev cX12_sharesOut : ByteArray := prog_14_method_108_code
def yX12_sharesOut : MethodName := ⟨RX12, "sharesOut", "(II)V"⟩
abbrev cX12_shares : ByteArray := prog_14_method_109_code
def yX12_shares : MethodName := ⟨RX12, "shares", "(II)Z"⟩
abbrev cX12_shared : ByteArray := prog_14_method_110_code
def yX12_shared : MethodName := ⟨RX12, "shared", "(II)I"⟩
abbrev cX12_seated : ByteArray := prog_14_method_111_code
def yX12_seated : MethodName := ⟨RX12, "seated", "(I)I"⟩
abbrev cX12_most : ByteArray := prog_14_method_112_code
def yX12_most : MethodName := ⟨RX12, "most", "(III)I"⟩
abbrev cX12_wax : ByteArray := prog_14_method_113_code
def yX12_wax : MethodName := ⟨RX12, "wax", "(III)I"⟩
abbrev cX12_allWork : ByteArray := prog_14_method_114_code
def yX12_allWork : MethodName := ⟨RX12, "allWork", "(II)I"⟩
abbrev cX12_index : ByteArray := prog_14_method_115_code
def yX12_index : MethodName := ⟨RX12, "index", "(II)I"⟩
abbrev cX12_writes : ByteArray := prog_14_method_116_code
def yX12_writes : MethodName := ⟨RX12, "writes", "(I)V"⟩
abbrev cX12_writesTwo : ByteArray := prog_14_method_117_code
def yX12_writesTwo : MethodName := ⟨RX12, "writesTwo", "(I)V"⟩
abbrev cX12_image : ByteArray := prog_14_method_118_code
def yX12_image : MethodName := ⟨RX12, "image", "()I"⟩
abbrev cX12_octet : ByteArray := prog_14_method_119_code
def yX12_octet : MethodName := ⟨RX12, "octet", "(I)I"⟩
abbrev cX12_twoBytes : ByteArray := prog_14_method_120_code
def yX12_twoBytes : MethodName := ⟨RX12, "twoBytes", "(I)I"⟩
abbrev cX12_readerOn : ByteArray := prog_14_method_121_code
def yX12_readerOn : MethodName := ⟨RX12, "readerOn", "(III)I"⟩
abbrev cX12_comesOn : ByteArray := prog_14_method_122_code
def yX12_comesOn : MethodName := ⟨RX12, "comesOn", "(I)Z"⟩
abbrev cX12_on : ByteArray := prog_14_method_123_code
def yX12_on : MethodName := ⟨RX12, "on", "()Z"⟩
abbrev cJ6_bitCount_0f7a4 : ByteArray := prog_15_method_49_code
def yJ6_bitCount_0f7a4 : MethodName := ⟨RJ6, "bitCount", "(I)I"⟩
abbrev cJ9_floorDiv_f86c9 : ByteArray := prog_16_method_49_code
def yJ9_floorDiv_f86c9 : MethodName := ⟨RJ9, "floorDiv", "(JJ)J"⟩
abbrev cJ9_floorMod_f86c9 : ByteArray := prog_16_method_52_code
def yJ9_floorMod_f86c9 : MethodName := ⟨RJ9, "floorMod", "(JJ)J"⟩
abbrev cJ9_max_7cf53 : ByteArray := prog_16_method_65_code
def yJ9_max_7cf53 : MethodName := ⟨RJ9, "max", "(II)I"⟩
abbrev cJ9_max_f86c9 : ByteArray := prog_16_method_66_code
def yJ9_max_f86c9 : MethodName := ⟨RJ9, "max", "(JJ)J"⟩
abbrev cJ9_min_7cf53 : ByteArray := prog_16_method_69_code
def yJ9_min_7cf53 : MethodName := ⟨RJ9, "min", "(II)I"⟩
abbrev cJ0_charAt_5068e : ByteArray := prog_17_method_56_code
def yJ0_charAt_5068e : MethodName := ⟨RJ0, "charAt", "(I)C"⟩
abbrev cJ0_isLatin1_aae02 : ByteArray := prog_17_method_154_code
def yJ0_isLatin1_aae02 : MethodName := ⟨RJ0, "isLatin1", "()Z"⟩
abbrev cJ0_checkIndex_df160 : ByteArray := prog_17_method_155_code
def yJ0_checkIndex_df160 : MethodName := ⟨RJ0, "checkIndex", "(II)V"⟩
abbrev cJ1_charAt_3b067 : ByteArray := prog_18_method_2_code
def yJ1_charAt_3b067 : MethodName := ⟨RJ1, "charAt", "([BI)C"⟩
abbrev cJ2_getChar_3b067 : ByteArray := prog_19_method_5_code
def yJ2_getChar_3b067 : MethodName := ⟨RJ2, "getChar", "([BI)C"⟩
abbrev cJ2_length_9d52b : ByteArray := prog_19_method_6_code
def yJ2_length_9d52b : MethodName := ⟨RJ2, "length", "([B)I"⟩
abbrev cJ2_charAt_3b067 : ByteArray := prog_19_method_83_code
def yJ2_charAt_3b067 : MethodName := ⟨RJ2, "charAt", "([BI)C"⟩
abbrev cJ2_checkIndex_2214a : ByteArray := prog_19_method_91_code
def yJ2_checkIndex_2214a : MethodName := ⟨RJ2, "checkIndex", "(I[B)V"⟩
abbrev cJ7_fill_d0a16 : ByteArray := prog_21_method_101_code
def yJ7_fill_d0a16 : MethodName := ⟨RJ7, "fill", "([JJ)V"⟩
abbrev cJ7_fill_53178 : ByteArray := prog_21_method_103_code
def yJ7_fill_53178 : MethodName := ⟨RJ7, "fill", "([II)V"⟩
abbrev cJ3_checkIndex_8e157 : ByteArray := prog_22_method_11_code
def yJ3_checkIndex_8e157 : MethodName := ⟨RJ3, "checkIndex", "(IILjava/util/function/BiFunction;)I"⟩
abbrev vwCl : List vw_C := [(RX0, TX0, 6), (RX1, TX1, 11), (RX2, TX2, 7), (RX3, TX3, 5), (RX4, TX4, 4), (RX5, TX5, 13), (RX6, TX6, 17), (RX7, TX7, 16), (RX8, TX8, 17), (RX9, TX9, 3), (RX10, TX10, 7), (RX11, TX11, 12), (RX12, TX12, 88)]
/-! the good words of the tables: what every method is given -/
def wG : List Cond := lw_tbl.filter goodWord
theorem wG_at {w : Cond} (i : Nat) (h : lw_tbl[i]? = some w) (g : goodWord w = true) : w ∈ wG := List.mem_filter.mpr ⟨List.mem_of_getElem? h, g⟩
theorem wG_tbl {w : Cond} (h : w ∈ wG) : w ∈ lw_tbl := (List.mem_filter.mp h).1
theorem wG_good {w : Cond} (h : w ∈ wG) : goodWord w = true := (List.mem_filter.mp h).2
def wG_sub (l : List Cond) : Prop := ∀ w ∈ l, w ∈ lw_tbl
theorem wG_in {l : List Cond} (hl : wG_sub l) {w : Cond} (i : Nat) (h : l[i]? = some w) (g : goodWord w = true) : w ∈ wG := List.mem_filter.mpr ⟨hl w (List.mem_of_getElem? h), g⟩
theorem tb_1 : wG_sub tables_1_1 := fun w h => List.mem_append_right _ (List.mem_append_left _ h)
theorem tb_2 : wG_sub tables_1_2 := fun w h => List.mem_append_right _ (List.mem_append_right _ (List.mem_append_left _ h))
theorem tb_3 : wG_sub tables_1_3 := fun w h => List.mem_append_right _ (List.mem_append_right _ (List.mem_append_right _ (List.mem_append_left _ h)))
theorem tb_4 : wG_sub tables_1_4 := fun w h => List.mem_append_right _ (List.mem_append_right _ (List.mem_append_right _ (List.mem_append_right _ (List.mem_append_left _ h))))
theorem tb_5 : wG_sub tables_1_5 := fun w h => List.mem_append_right _ (List.mem_append_right _ (List.mem_append_right _ (List.mem_append_right _ (List.mem_append_right _ (List.mem_append_left _ h)))))
theorem tb_6 : wG_sub tables_1_6 := fun w h => List.mem_append_right _ (List.mem_append_right _ (List.mem_append_right _ (List.mem_append_right _ (List.mem_append_right _ (List.mem_append_right _ (List.mem_append_left _ h))))))
theorem tb_7 : wG_sub tables_1_7 := fun w h => List.mem_append_right _ (List.mem_append_right _ (List.mem_append_right _ (List.mem_append_right _ (List.mem_append_right _ (List.mem_append_right _ (List.mem_append_right _ (List.mem_append_left _ h)))))))
theorem tb_8 : wG_sub tables_1_8 := fun w h => List.mem_append_right _ (List.mem_append_right _ (List.mem_append_right _ (List.mem_append_right _ (List.mem_append_right _ (List.mem_append_right _ (List.mem_append_right _ (List.mem_append_right _ (List.mem_append_left _ h))))))))
theorem tb_9 : wG_sub tables_1_9 := fun w h => List.mem_append_right _ (List.mem_append_right _ (List.mem_append_right _ (List.mem_append_right _ (List.mem_append_right _ (List.mem_append_right _ (List.mem_append_right _ (List.mem_append_right _ (List.mem_append_right _ (h)))))))))
theorem tp_1 : wG_sub (k2_sels lw_privs_1) := by
  intro w h
  refine List.mem_append_left _ ?_
  unfold k2_sels at h ⊢
  unfold lw_privs
  simp only [List.map_append, List.mem_append]
  simp only [h, true_or, or_true]
theorem tp_2 : wG_sub (k2_sels lw_privs_2) := by
  intro w h
  refine List.mem_append_left _ ?_
  unfold k2_sels at h ⊢
  unfold lw_privs
  simp only [List.map_append, List.mem_append]
  simp only [h, true_or, or_true]
theorem tp_3 : wG_sub (k2_sels lw_privs_3) := by
  intro w h
  refine List.mem_append_left _ ?_
  unfold k2_sels at h ⊢
  unfold lw_privs
  simp only [List.map_append, List.mem_append]
  simp only [h, true_or, or_true]
theorem tp_4 : wG_sub (k2_sels lw_privs_4) := by
  intro w h
  refine List.mem_append_left _ ?_
  unfold k2_sels at h ⊢
  unfold lw_privs
  simp only [List.map_append, List.mem_append]
  simp only [h, true_or, or_true]
theorem tp_5 : wG_sub (k2_sels lw_privs_5) := by
  intro w h
  refine List.mem_append_left _ ?_
  unfold k2_sels at h ⊢
  unfold lw_privs
  simp only [List.map_append, List.mem_append]
  simp only [h, true_or, or_true]
theorem tp_6 : wG_sub (k2_sels lw_privs_6) := by
  intro w h
  refine List.mem_append_left _ ?_
  unfold k2_sels at h ⊢
  unfold lw_privs
  simp only [List.map_append, List.mem_append]
  simp only [h, true_or, or_true]
theorem tp_7 : wG_sub (k2_sels lw_privs_7) := by
  intro w h
  refine List.mem_append_left _ ?_
  unfold k2_sels at h ⊢
  unfold lw_privs
  simp only [List.map_append, List.mem_append]
  simp only [h, true_or, or_true]
theorem tp_8 : wG_sub (k2_sels lw_privs_8) := by
  intro w h
  refine List.mem_append_left _ ?_
  unfold k2_sels at h ⊢
  unfold lw_privs
  simp only [List.map_append, List.mem_append]
  simp only [h, true_or, or_true]
theorem tp_9 : wG_sub (k2_sels lw_privs_9) := by
  intro w h
  refine List.mem_append_left _ ?_
  unfold k2_sels at h ⊢
  unfold lw_privs
  simp only [List.map_append, List.mem_append]
  simp only [h, true_or, or_true]
def inT (ws : List Cond) (ps : List Nat) : Bool := decide (ws.map some = ps.map (fun i => lw_tbl[i]?)) && ws.all goodWord
theorem inT_ok {ws : List Cond} (ps : List Nat) (h : inT ws ps = true) : ∀ w ∈ ws, w ∈ wG := by
  intro w hw
  unfold inT at h
  rw [Bool.and_eq_true, decide_eq_true_eq] at h
  have h1 : some w ∈ ps.map (fun i => lw_tbl[i]?) := by rw [← h.1]; exact List.mem_map.mpr ⟨w, hw, rfl⟩
  obtain ⟨i, -, hi⟩ := List.mem_map.mp h1
  exact wG_at i hi (List.all_eq_true.mp h.2 w hw)
abbrev MD : Type := MethodName × ByteArray × Nat × Option FieldType
/-- what is said of a method once for all: plain names, its words -/
def mdN (md : MD) (n : Nat) : Prop := plainFor md.1 = true ∧ (md.1.cls ≠ "java/lang/invoke/MethodHandle" ∧ md.1.cls ≠ "java/lang/invoke/VarHandle") ∧ (parseMethodDescriptor md.1.desc).map (fun d => d.parameters.length) = some n ∧ md.2.2.1 ≤ 44
def mdV (md : MD) (n : Nat) : Prop := mdN md n ∧ Cond.instanceMethod md.1 ∈ wG ∧ Cond.selects md.1.cls md.1 md.1 ∈ wG ∧ Cond.initialized md.1.cls ∈ wG ∧ Cond.code md.1 md.2.1 md.2.2.1 md.2.2.2 ∈ wG
def mdI (md : MD) (n : Nat) : Prop := mdN md n ∧ Cond.instanceMethod md.1 ∈ wG ∧ Cond.initialized md.1.cls ∈ wG ∧ Cond.code md.1 md.2.1 md.2.2.1 md.2.2.2 ∈ wG
def mdS (md : MD) (n : Nat) : Prop := mdN md n ∧ Cond.static md.1 ∈ wG ∧ Cond.initialized md.1.cls ∈ wG ∧ Cond.code md.1 md.2.1 md.2.2.1 md.2.2.2 ∈ wG
def mdB (md : MD) (n : Nat) : Bool := plainFor md.1 && (decide (md.1.cls ≠ "java/lang/invoke/MethodHandle" ∧ md.1.cls ≠ "java/lang/invoke/VarHandle") && (decide ((parseMethodDescriptor md.1.desc).map (fun d => d.parameters.length) = some n) && decide (md.2.2.1 ≤ 44)))
theorem mdB_ok {md : MD} {n : Nat} (h : mdB md n = true) : mdN md n := by
  unfold mdB at h
  simp only [Bool.and_eq_true, decide_eq_true_eq] at h
  exact ⟨h.1, h.2.1, h.2.2.1, h.2.2.2⟩
set_option maxRecDepth 20000 in
theorem ws_X0 : ∀ w ∈ wsX00, w ∈ wG := inT_ok [426, 428, 430, 432, 434, 436] (by decide +kernel)
set_option maxRecDepth 20000 in
theorem ws_X1 : ∀ w ∈ wsX10, w ∈ wG := inT_ok [461, 463, 465, 467, 469, 471, 473, 475, 477, 479, 481] (by decide +kernel)
set_option maxRecDepth 20000 in
theorem ws_X2 : ∀ w ∈ wsX20, w ∈ wG := inT_ok [378, 380, 382, 384, 386, 388, 390] (by decide +kernel)
set_option maxRecDepth 20000 in
theorem ws_X3 : ∀ w ∈ wsX30, w ∈ wG := inT_ok [216, 218, 220, 222, 224] (by decide +kernel)
set_option maxRecDepth 20000 in
theorem ws_X4 : ∀ w ∈ wsX40, w ∈ wG := inT_ok [668, 670, 672, 674] (by decide +kernel)
set_option maxRecDepth 20000 in
theorem ws_X5 : ∀ w ∈ wsX50, w ∈ wG := inT_ok [627, 629, 631, 633, 635, 637, 639, 641, 643, 645, 647, 649, 651] (by decide +kernel)
set_option maxRecDepth 20000 in
theorem ws_X6 : ∀ w ∈ wsX60, w ∈ wG := inT_ok [573, 575, 577, 579, 581, 583, 585, 587, 589, 591, 593, 595, 597, 599, 601, 603, 605] (by decide +kernel)
set_option maxRecDepth 20000 in
theorem ws_X7 : ∀ w ∈ wsX70, w ∈ wG := inT_ok [304, 306, 308, 310, 312, 314, 316, 318, 320, 322, 324, 326, 328, 330, 332, 334] (by decide +kernel)
set_option maxRecDepth 20000 in
theorem ws_X8 : ∀ w ∈ wsX80, w ∈ wG := inT_ok [513, 515, 517, 519, 521, 523, 525, 527, 529, 531, 533, 535, 537, 539, 541, 543, 545] (by decide +kernel)
set_option maxRecDepth 20000 in
theorem ws_X9 : ∀ w ∈ wsX90, w ∈ wG := inT_ok [402, 404, 406] (by decide +kernel)
set_option maxRecDepth 20000 in
theorem ws_X10 : ∀ w ∈ wsX100, w ∈ wG := inT_ok [187, 189, 191, 193, 195, 197, 199] (by decide +kernel)
set_option maxRecDepth 20000 in
theorem ws_X11 : ∀ w ∈ wsX110, w ∈ wG := inT_ok [689, 691, 693, 695, 697, 699, 701, 703, 705, 707, 709, 711] (by decide +kernel)
set_option maxRecDepth 20000 in
theorem ws_X12 : ∀ w ∈ wsX120, w ∈ wG := inT_ok [1584, 1586, 1588, 1590, 1592, 1594, 1596, 1598, 1600, 1602, 1604, 1606, 1608, 1610, 1612, 1614, 1616, 1618, 1620, 1622, 1624, 1626, 1628, 1630, 1632, 1634, 1636, 1638, 1640, 1642, 1644, 1646, 1648, 1650, 1652, 1654, 1656, 1658, 1660, 1662, 1664, 1666, 1668, 1670, 1672, 1674, 1676, 1678, 1680, 1682, 1684, 1686, 1688, 1690, 1692, 1694, 1696, 1698, 1700, 1702, 1704, 1706, 1708, 1710, 1712, 1714, 1716, 1718, 1720, 1722, 1724, 1726, 1728, 1730, 1732, 1734, 1736, 1738, 1740, 1742, 1744, 1746, 1748, 1750, 1752, 1754, 1756, 1758] (by decide +kernel)
def Ty (ci : Nat) : Nat → FieldType := match ci with
  | 0 => tyX0
  | 1 => tyX1
  | 2 => tyX2
  | 3 => tyX3
  | 4 => tyX4
  | 5 => tyX5
  | 6 => tyX6
  | 7 => tyX7
  | 8 => tyX8
  | 9 => tyX9
  | 10 => tyX10
  | 11 => tyX11
  | _ => tyX12
def clOk (ci : Nat) (r : vw_C) : Prop := (∀ w ∈ u_ws r.1 r.2.1 r.2.2, w ∈ wG) ∧ (∀ k, k < r.2.2 → parseFieldDescriptor (r.2.1 k).2.2.1 = some (Ty ci k)) ∧ (∀ a, a < r.2.2 → ∀ b, b < r.2.2 → a ≠ b → (r.2.1 a).2.1 ≠ (r.2.1 b).2.1) ∧ ∀ k, k < r.2.2 → (r.2.1 k).1 = r.1
theorem cl_ok : ∀ (ci : Nat) (r : vw_C), vwCl[ci]? = some r → clOk ci r := by
  intro ci r h
  match ci, h with
  | 0, h => cases h; exact ⟨ws_X0, tyX0_ok, nmX0, by decide +kernel⟩
  | 1, h => cases h; exact ⟨ws_X1, tyX1_ok, nmX1, by decide +kernel⟩
  | 2, h => cases h; exact ⟨ws_X2, tyX2_ok, nmX2, by decide +kernel⟩
  | 3, h => cases h; exact ⟨ws_X3, tyX3_ok, nmX3, by decide +kernel⟩
  | 4, h => cases h; exact ⟨ws_X4, tyX4_ok, nmX4, by decide +kernel⟩
  | 5, h => cases h; exact ⟨ws_X5, tyX5_ok, nmX5, by decide +kernel⟩
  | 6, h => cases h; exact ⟨ws_X6, tyX6_ok, nmX6, by decide +kernel⟩
  | 7, h => cases h; exact ⟨ws_X7, tyX7_ok, nmX7, by decide +kernel⟩
  | 8, h => cases h; exact ⟨ws_X8, tyX8_ok, nmX8, by decide +kernel⟩
  | 9, h => cases h; exact ⟨ws_X9, tyX9_ok, nmX9, by decide +kernel⟩
  | 10, h => cases h; exact ⟨ws_X10, tyX10_ok, nmX10, by decide +kernel⟩
  | 11, h => cases h; exact ⟨ws_X11, tyX11_ok, nmX11, by decide +kernel⟩
  | 12, h => cases h; exact ⟨ws_X12, tyX12_ok, nmX12, by decide +kernel⟩
  | n + 13, h => cases h
def m_X0_init : MD := (yX0_init, cX0_init, 3, none)
def m_X0_lay : MD := (yX0_lay, cX0_lay, 9, none)
def m_X0_nextPage : MD := (yX0_nextPage, cX0_nextPage, 6, some .int)
def m_X0_readBy : MD := (yX0_readBy, cX0_readBy, 3, some .int)
def m_X0_stopBy : MD := (yX0_stopBy, cX0_stopBy, 2, some .int)
def m_X0_beginOf : MD := (yX0_beginOf, cX0_beginOf, 2, some .int)
def m_X1_init : MD := (yX1_init, cX1_init, 4, none)
def m_X1_foresee : MD := (yX1_foresee, cX1_foresee, 4, none)
def m_X1_draftAt : MD := (yX1_draftAt, cX1_draftAt, 3, some .int)
def m_X1_follow : MD := (yX1_follow, cX1_follow, 5, none)
def m_X1_happen : MD := (yX1_happen, cX1_happen, 4, none)
def m_X1_allRead : MD := (yX1_allRead, cX1_allRead, 3, some .int)
def m_X1_allLight : MD := (yX1_allLight, cX1_allLight, 3, some .int)
def m_X1_allWax : MD := (yX1_allWax, cX1_allWax, 3, some .int)
def m_X1_idle : MD := (yX1_idle, cX1_idle, 3, some .int)
def m_X2_init : MD := (yX2_init, cX2_init, 2, none)
def m_X2_open : MD := (yX2_open, cX2_open, 3, none)
def m_X2_become : MD := (yX2_become, cX2_become, 2, none)
def m_X2_forget : MD := (yX2_forget, cX2_forget, 1, none)
def m_X2_remember : MD := (yX2_remember, cX2_remember, 1, none)
def m_X2_recall : MD := (yX2_recall, cX2_recall, 1, some .boolean)
def m_X2_of : MD := (yX2_of, cX2_of, 3, some .int)
def m_X2_set : MD := (yX2_set, cX2_set, 4, none)
def m_X2_known : MD := (yX2_known, cX2_known, 2, some .int)
def m_X2_listed : MD := (yX2_listed, cX2_listed, 3, some .int)
def m_X2_sittingAt : MD := (yX2_sittingAt, cX2_sittingAt, 4, some .int)
def m_X2_knownBy : MD := (yX2_knownBy, cX2_knownBy, 4, some .int)
def m_X2_knownByAll : MD := (yX2_knownByAll, cX2_knownByAll, 3, some .int)
def m_X2_toldAsKept : MD := (yX2_toldAsKept, cX2_toldAsKept, 1, some .int)
def m_X2_mayList : MD := (yX2_mayList, cX2_mayList, 4, some .boolean)
def m_X2_putBehind : MD := (yX2_putBehind, cX2_putBehind, 4, none)
def m_X2_strike : MD := (yX2_strike, cX2_strike, 6, none)
def m_X2_placeOf : MD := (yX2_placeOf, cX2_placeOf, 5, some .int)
def m_X2_keep : MD := (yX2_keep, cX2_keep, 4, none)
def m_X3_init : MD := (yX3_init, cX3_init, 2, none)
def m_X3_parse : MD := (yX3_parse, cX3_parse, 3, some .int)
def m_X3_statement : MD := (yX3_statement, cX3_statement, 5, some .boolean)
def m_X3_roomFor : MD := (yX3_roomFor, cX3_roomFor, 2, some .int)
def m_X3_tellPage : MD := (yX3_tellPage, cX3_tellPage, 4, some .boolean)
def m_X3_tellNeed : MD := (yX3_tellNeed, cX3_tellNeed, 3, some .boolean)
def m_X3_tellReader : MD := (yX3_tellReader, cX3_tellReader, 4, some .boolean)
def m_X3_tellTable : MD := (yX3_tellTable, cX3_tellTable, 3, some .boolean)
def m_X3_tellInch : MD := (yX3_tellInch, cX3_tellInch, 2, some .boolean)
def m_X3_beginRule : MD := (yX3_beginRule, cX3_beginRule, 2, some .boolean)
def m_X3_endRule : MD := (yX3_endRule, cX3_endRule, 2, some .boolean)
def m_X3_parseTest : MD := (yX3_parseTest, cX3_parseTest, 3, some .boolean)
def m_X3_parseBoth : MD := (yX3_parseBoth, cX3_parseBoth, 3, some .boolean)
def m_X3_parseFact : MD := (yX3_parseFact, cX3_parseFact, 3, some .boolean)
def m_X3_parseSum : MD := (yX3_parseSum, cX3_parseSum, 4, some .boolean)
def m_X3_parseProduct : MD := (yX3_parseProduct, cX3_parseProduct, 4, some .boolean)
def m_X3_parsePart : MD := (yX3_parsePart, cX3_parsePart, 3, some .boolean)
def m_X3_isValue : MD := (yX3_isValue, cX3_isValue, 1, some .boolean)
def m_X3_signOperator : MD := (yX3_signOperator, cX3_signOperator, 1, some .int)
def m_X3_isSumOperator : MD := (yX3_isSumOperator, cX3_isSumOperator, 1, some .boolean)
def m_X3_isProductOperator : MD := (yX3_isProductOperator, cX3_isProductOperator, 1, some .boolean)
def m_X3_isTestOperator : MD := (yX3_isTestOperator, cX3_isTestOperator, 1, some .boolean)
def m_X3_openOne : MD := (yX3_openOne, cX3_openOne, 1, some .boolean)
def m_X3_closeOne : MD := (yX3_closeOne, cX3_closeOne, 2, some .boolean)
def m_X3_give : MD := (yX3_give, cX3_give, 3, some .boolean)
def m_X3_askName : MD := (yX3_askName, cX3_askName, 3, some .int)
def m_X3_askNumber : MD := (yX3_askNumber, cX3_askNumber, 4, some .int)
def m_X3_wantOwn : MD := (yX3_wantOwn, cX3_wantOwn, 2, some .boolean)
def m_X3_wantSign : MD := (yX3_wantSign, cX3_wantSign, 2, some .boolean)
def m_X3_refuseWord : MD := (yX3_refuseWord, cX3_refuseWord, 1, some .boolean)
def m_X3_fail : MD := (yX3_fail, cX3_fail, 3, some .boolean)
def m_X4_init : MD := (yX4_init, cX4_init, 1, none)
def m_X4_write : MD := (yX4_write, cX4_write, 4, none)
def m_X4_put : MD := (yX4_put, cX4_put, 2, none)
def m_X4_putTwo : MD := (yX4_putTwo, cX4_putTwo, 2, none)
def m_X4_read : MD := (yX4_read, cX4_read, 5, some .boolean)
def m_X4_readOne : MD := (yX4_readOne, cX4_readOne, 15, some .boolean)
def m_X4_within : MD := (yX4_within, cX4_within, 2, some .boolean)
def m_X4_take : MD := (yX4_take, cX4_take, 3, some .int)
def m_X4_takeTwo : MD := (yX4_takeTwo, cX4_takeTwo, 4, some .int)
def m_X4_checkOf : MD := (yX4_checkOf, cX4_checkOf, 3, some .int)
def m_X5_init : MD := (yX5_init, cX5_init, 4, none)
def m_X5_pagesRead : MD := (yX5_pagesRead, cX5_pagesRead, 1, some .int)
def m_X5_waxSaved : MD := (yX5_waxSaved, cX5_waxSaved, 1, some .int)
def m_X5_tableOf : MD := (yX5_tableOf, cX5_tableOf, 3, some .int)
def m_X5_find : MD := (yX5_find, cX5_find, 5, none)
def m_X5_tellFound : MD := (yX5_tellFound, cX5_tellFound, 7, none)
def m_X5_weighTable : MD := (yX5_weighTable, cX5_weighTable, 5, none)
def m_X5_weigh : MD := (yX5_weigh, cX5_weigh, 11, some .long)
def m_X5_lastEnd : MD := (yX5_lastEnd, cX5_lastEnd, 2, some .int)
def m_X5_joinTable : MD := (yX5_joinTable, cX5_joinTable, 6, none)
def m_X6_init : MD := (yX6_init, cX6_init, 4, none)
def m_X6_readerOf : MD := (yX6_readerOf, cX6_readerOf, 3, some .int)
def m_X6_find : MD := (yX6_find, cX6_find, 3, none)
def m_X6_measure : MD := (yX6_measure, cX6_measure, 4, none)
def m_X6_share : MD := (yX6_share, cX6_share, 10, none)
def m_X6_minutesOf : MD := (yX6_minutesOf, cX6_minutesOf, 5, some .int)
def m_X7_init : MD := (yX7_init, cX7_init, 1, none)
def m_X7_clear : MD := (yX7_clear, cX7_clear, 1, none)
def m_X7_holds : MD := (yX7_holds, cX7_holds, 3, some .boolean)
def m_X7_isQuestion : MD := (yX7_isQuestion, cX7_isQuestion, 2, some .boolean)
def m_X7_mayRead : MD := (yX7_mayRead, cX7_mayRead, 3, some .boolean)
def m_X7_hasRule : MD := (yX7_hasRule, cX7_hasRule, 2, some .boolean)
def m_X7_emit : MD := (yX7_emit, cX7_emit, 2, none)
def m_X7_giveName : MD := (yX7_giveName, cX7_giveName, 5, none)
def m_X7_findName : MD := (yX7_findName, cX7_findName, 6, some .int)
def m_X7_letterAt : MD := (yX7_letterAt, cX7_letterAt, 2, some .int)
def m_X7_gatherNeeds : MD := (yX7_gatherNeeds, cX7_gatherNeeds, 4, none)
def m_X8_init : MD := (yX8_init, cX8_init, 3, none)
def m_X8_lightOf : MD := (yX8_lightOf, cX8_lightOf, 3, some .int)
def m_X8_pagesOf : MD := (yX8_pagesOf, cX8_pagesOf, 8, some .int)
def m_X8_workOf : MD := (yX8_workOf, cX8_workOf, 7, some .int)
def m_X8_workOfAll : MD := (yX8_workOfAll, cX8_workOfAll, 5, some .int)
def m_X8_nightsOf : MD := (yX8_nightsOf, cX8_nightsOf, 3, some .int)
def m_X8_nightsFor : MD := (yX8_nightsFor, cX8_nightsFor, 2, some .int)
def m_X8_findMost : MD := (yX8_findMost, cX8_findMost, 3, none)
def m_X8_measurePages : MD := (yX8_measurePages, cX8_measurePages, 3, none)
def m_X8_chooseMost : MD := (yX8_chooseMost, cX8_chooseMost, 9, none)
def m_X8_findSets : MD := (yX8_findSets, cX8_findSets, 4, none)
def m_X8_chooseSets : MD := (yX8_chooseSets, cX8_chooseSets, 4, none)
def m_X9_init : MD := (yX9_init, cX9_init, 2, none)
def m_X9_setNow : MD := (yX9_setNow, cX9_setNow, 3, none)
def m_X9_setAt : MD := (yX9_setAt, cX9_setAt, 5, none)
def m_X9_inchMinutes : MD := (yX9_inchMinutes, cX9_inchMinutes, 1, some .int)
def m_X9_pageMinutes : MD := (yX9_pageMinutes, cX9_pageMinutes, 2, some .int)
def m_X9_mayHear : MD := (yX9_mayHear, cX9_mayHear, 2, some .boolean)
def m_X9_lightAt : MD := (yX9_lightAt, cX9_lightAt, 6, some .int)
def m_X9_setPage : MD := (yX9_setPage, cX9_setPage, 2, none)
def m_X9_run : MD := (yX9_run, cX9_run, 7, some .int)
def m_X9_join : MD := (yX9_join, cX9_join, 5, some .int)
def m_X9_bounded : MD := (yX9_bounded, cX9_bounded, 2, some .int)
def m_X10_init : MD := (yX10_init, cX10_init, 1, none)
def m_X10_put : MD := (yX10_put, cX10_put, 3, none)
def m_X10_byteAt : MD := (yX10_byteAt, cX10_byteAt, 2, some .int)
def m_X10_rewind : MD := (yX10_rewind, cX10_rewind, 1, none)
def m_X10_step : MD := (yX10_step, cX10_step, 5, none)
def m_X10_endOfWord : MD := (yX10_endOfWord, cX10_endOfWord, 2, some .int)
def m_X10_endOfNumber : MD := (yX10_endOfNumber, cX10_endOfNumber, 2, some .int)
def m_X10_number : MD := (yX10_number, cX10_number, 3, some .int)
def m_X10_ownWord : MD := (yX10_ownWord, cX10_ownWord, 5, some .int)
def m_X10_isOwn : MD := (yX10_isOwn, cX10_isOwn, 2, some .boolean)
def m_X10_isSign : MD := (yX10_isSign, cX10_isSign, 2, some .boolean)
def m_X10_isLetter : MD := (yX10_isLetter, cX10_isLetter, 1, some .boolean)
def m_X10_isDigit : MD := (yX10_isDigit, cX10_isDigit, 1, some .boolean)
def m_X11_init : MD := (yX11_init, cX11_init, 2, none)
def m_X11_feed : MD := (yX11_feed, cX11_feed, 6, some .int)
def m_X11_end : MD := (yX11_end, cX11_end, 2, some .boolean)
def m_X11_library : MD := (yX11_library, cX11_library, 3, some .int)
def m_X11_fault : MD := (yX11_fault, cX11_fault, 2, some .int)
def m_X11_has : MD := (yX11_has, cX11_has, 2, some .int)
def m_X11_letter : MD := (yX11_letter, cX11_letter, 4, some .int)
def m_X11_page : MD := (yX11_page, cX11_page, 4, some .int)
def m_X11_reader : MD := (yX11_reader, cX11_reader, 4, some .int)
def m_X11_table : MD := (yX11_table, cX11_table, 3, some .int)
def m_X11_takes : MD := (yX11_takes, cX11_takes, 3, some .int)
def m_X11_burns : MD := (yX11_burns, cX11_burns, 2, some .int)
def m_X11_tonight : MD := (yX11_tonight, cX11_tonight, 3, some .int)
def m_X11_whole : MD := (yX11_whole, cX11_whole, 2, some .int)
def m_X11_seat : MD := (yX11_seat, cX11_seat, 3, some .boolean)
def m_X11_list : MD := (yX11_list, cX11_list, 3, some .boolean)
def m_X11_drop : MD := (yX11_drop, cX11_drop, 3, some .int)
def m_X11_tell : MD := (yX11_tell, cX11_tell, 4, some .boolean)
def m_X11_night : MD := (yX11_night, cX11_night, 1, some .int)
def m_X11_winter : MD := (yX11_winter, cX11_winter, 5, some .int)
def m_X11_undo : MD := (yX11_undo, cX11_undo, 1, some .boolean)
def m_X11_seed : MD := (yX11_seed, cX11_seed, 2, some .boolean)
def m_X11_kept : MD := (yX11_kept, cX11_kept, 5, some .int)
def m_X11_work : MD := (yX11_work, cX11_work, 4, some .int)
def m_X11_scholar : MD := (yX11_scholar, cX11_scholar, 6, some .int)
def m_X11_shared : MD := (yX11_shared, cX11_shared, 4, some .int)
def m_X11_seated : MD := (yX11_seated, cX11_seated, 4, some .int)
def m_X11_most : MD := (yX11_most, cX11_most, 4, some .int)
def m_X11_wax : MD := (yX11_wax, cX11_wax, 4, some .int)
def m_X11_index : MD := (yX11_index, cX11_index, 8, some .int)
def m_X11_image : MD := (yX11_image, cX11_image, 1, some .int)
def m_X11_octet : MD := (yX11_octet, cX11_octet, 2, some .int)
def m_X11_on : MD := (yX11_on, cX11_on, 2, some .boolean)
def m_X11_status : MD := (yX11_status, cX11_status, 2, some .int)
def m_X11_refuse : MD := (yX11_refuse, cX11_refuse, 2, some .int)
def m_X11_deny : MD := (yX11_deny, cX11_deny, 2, some .boolean)
def m_X11_mayTell : MD := (yX11_mayTell, cX11_mayTell, 6, some .boolean)
def m_X11_passNight : MD := (yX11_passNight, cX11_passNight, 2, some .int)
def m_X11_drawOf : MD := (yX11_drawOf, cX11_drawOf, 2, some .int)
def m_X12_init : MD := (yX12_init, cX12_init, 1, none)
def m_X12_is : MD := (yX12_is, cX12_is, 3, some .boolean)
def m_X12_put : MD := (yX12_put, cX12_put, 3, none)
def m_X12_feed : MD := (yX12_feed, cX12_feed, 6, some .int)
def m_X12_end : MD := (yX12_end, cX12_end, 2, some .boolean)
def m_X12_blame : MD := (yX12_blame, cX12_blame, 3, none)
def m_X12_isLetter : MD := (yX12_isLetter, cX12_isLetter, 1, some .boolean)
def m_X12_isDigit : MD := (yX12_isDigit, cX12_isDigit, 1, some .boolean)
def m_X12_lex : MD := (yX12_lex, cX12_lex, 1, none)
def m_X12_ahead : MD := (yX12_ahead, cX12_ahead, 6, none)
def m_X12_isSign : MD := (yX12_isSign, cX12_isSign, 2, some .boolean)
def m_X12_isWord : MD := (yX12_isWord, cX12_isWord, 3, some .boolean)
def m_X12_must : MD := (yX12_must, cX12_must, 2, none)
def m_X12_isOwn : MD := (yX12_isOwn, cX12_isOwn, 3, some .boolean)
def m_X12_manyOf : MD := (yX12_manyOf, cX12_manyOf, 3, some .int)
def m_X12_nameOf : MD := (yX12_nameOf, cX12_nameOf, 4, some .long)
def m_X12_named : MD := (yX12_named, cX12_named, 5, some .int)
def m_X12_number : MD := (yX12_number, cX12_number, 4, some .int)
def m_X12_add : MD := (yX12_add, cX12_add, 3, none)
def m_X12_rank : MD := (yX12_rank, cX12_rank, 1, some .int)
def m_X12_joins : MD := (yX12_joins, cX12_joins, 2, none)
def m_X12_holdsBack : MD := (yX12_holdsBack, cX12_holdsBack, 2, none)
def m_X12_pushes : MD := (yX12_pushes, cX12_pushes, 2, none)
def m_X12_opens : MD := (yX12_opens, cX12_opens, 2, none)
def m_X12_isTest : MD := (yX12_isTest, cX12_isTest, 1, some .boolean)
def m_X12_operand : MD := (yX12_operand, cX12_operand, 4, some .boolean)
def m_X12_goesOn : MD := (yX12_goesOn, cX12_goesOn, 5, some .boolean)
def m_X12_reads : MD := (yX12_reads, cX12_reads, 3, none)
def m_X12_counts : MD := (yX12_counts, cX12_counts, 2, some .boolean)
def m_X12_must_ : MD := (yX12_must_, cX12_must_, 3, none)
def m_X12_fresh : MD := (yX12_fresh, cX12_fresh, 3, some .long)
def m_X12_looked : MD := (yX12_looked, cX12_looked, 3, some .int)
def m_X12_asked : MD := (yX12_asked, cX12_asked, 3, some .int)
def m_X12_booking : MD := (yX12_booking, cX12_booking, 1, none)
def m_X12_paging : MD := (yX12_paging, cX12_paging, 2, none)
def m_X12_needing : MD := (yX12_needing, cX12_needing, 3, none)
def m_X12_readering : MD := (yX12_readering, cX12_readering, 2, none)
def m_X12_tabling : MD := (yX12_tabling, cX12_tabling, 2, none)
def m_X12_inching : MD := (yX12_inching, cX12_inching, 2, none)
def m_X12_burning : MD := (yX12_burning, cX12_burning, 1, none)
def m_X12_taking : MD := (yX12_taking, cX12_taking, 1, none)
def m_X12_telling : MD := (yX12_telling, cX12_telling, 1, none)
def m_X12_statement : MD := (yX12_statement, cX12_statement, 1, none)
def m_X12_finishes : MD := (yX12_finishes, cX12_finishes, 3, none)
def m_X12_library : MD := (yX12_library, cX12_library, 2, some .int)
def m_X12_fault : MD := (yX12_fault, cX12_fault, 2, some .int)
def m_X12_refuses : MD := (yX12_refuses, cX12_refuses, 2, some .int)
def m_X12_status : MD := (yX12_status, cX12_status, 2, some .int)
def m_X12_isPage : MD := (yX12_isPage, cX12_isPage, 2, some .boolean)
def m_X12_isReader : MD := (yX12_isReader, cX12_isReader, 2, some .boolean)
def m_X12_isTable : MD := (yX12_isTable, cX12_isTable, 2, some .boolean)
def m_X12_bits : MD := (yX12_bits, cX12_bits, 3, some .int)
def m_X12_has : MD := (yX12_has, cX12_has, 2, some .boolean)
def m_X12_needsOf : MD := (yX12_needsOf, cX12_needsOf, 2, some .int)
def m_X12_known : MD := (yX12_known, cX12_known, 3, some .int)
def m_X12_mayRead : MD := (yX12_mayRead, cX12_mayRead, 4, some .boolean)
def m_X12_copies : MD := (yX12_copies, cX12_copies, 7, none)
def m_X12_begin : MD := (yX12_begin, cX12_begin, 2, none)
def m_X12_ring : MD := (yX12_ring, cX12_ring, 2, some .int)
def m_X12_keeps : MD := (yX12_keeps, cX12_keeps, 1, none)
def m_X12_undo : MD := (yX12_undo, cX12_undo, 1, some .boolean)
def m_X12_sitting : MD := (yX12_sitting, cX12_sitting, 5, some .int)
def m_X12_draftOf : MD := (yX12_draftOf, cX12_draftOf, 3, some .int)
def m_X12_part : MD := (yX12_part, cX12_part, 4, some .long)
def m_X12_held : MD := (yX12_held, cX12_held, 2, some .long)
def m_X12_floor : MD := (yX12_floor, cX12_floor, 6, some .long)
def m_X12_two : MD := (yX12_two, cX12_two, 5, some .long)
def m_X12_isPart : MD := (yX12_isPart, cX12_isPart, 1, some .boolean)
def m_X12_reckons : MD := (yX12_reckons, cX12_reckons, 6, some .long)
def m_X12_between : MD := (yX12_between, cX12_between, 4, some .int)
def m_X12_longOf : MD := (yX12_longOf, cX12_longOf, 4, some .int)
def m_X12_burnsOf : MD := (yX12_burnsOf, cX12_burnsOf, 3, some .int)
def m_X12_lightOf : MD := (yX12_lightOf, cX12_lightOf, 5, some .int)
def m_X12_unlists : MD := (yX12_unlists, cX12_unlists, 5, none)
def m_X12_writesDown : MD := (yX12_writesDown, cX12_writesDown, 5, none)
def m_X12_nextPage : MD := (yX12_nextPage, cX12_nextPage, 5, some .int)
def m_X12_readsOn : MD := (yX12_readsOn, cX12_readsOn, 11, none)
def m_X12_goesNight : MD := (yX12_goesNight, cX12_goesNight, 6, some .int)
def m_X12_triesNight : MD := (yX12_triesNight, cX12_triesNight, 1, some .int)
def m_X12_has_ : MD := (yX12_has_, cX12_has_, 4, some .int)
def m_X12_letter : MD := (yX12_letter, cX12_letter, 9, some .int)
def m_X12_closed : MD := (yX12_closed, cX12_closed, 6, some .int)
def m_X12_page : MD := (yX12_page, cX12_page, 5, some .int)
def m_X12_reader : MD := (yX12_reader, cX12_reader, 3, some .int)
def m_X12_table : MD := (yX12_table, cX12_table, 3, some .int)
def m_X12_takes : MD := (yX12_takes, cX12_takes, 3, some .int)
def m_X12_burns : MD := (yX12_burns, cX12_burns, 2, some .int)
def m_X12_tonight : MD := (yX12_tonight, cX12_tonight, 3, some .int)
def m_X12_whole : MD := (yX12_whole, cX12_whole, 5, some .int)
def m_X12_seat : MD := (yX12_seat, cX12_seat, 4, some .boolean)
def m_X12_isListed : MD := (yX12_isListed, cX12_isListed, 6, some .boolean)
def m_X12_list : MD := (yX12_list, cX12_list, 4, some .boolean)
def m_X12_drop : MD := (yX12_drop, cX12_drop, 3, some .int)
def m_X12_mayHear : MD := (yX12_mayHear, cX12_mayHear, 3, some .boolean)
def m_X12_tell : MD := (yX12_tell, cX12_tell, 5, some .boolean)
def m_X12_nightGoes : MD := (yX12_nightGoes, cX12_nightGoes, 2, some .int)
def m_X12_night : MD := (yX12_night, cX12_night, 1, some .int)
def m_X12_draw : MD := (yX12_draw, cX12_draw, 2, some .int)
def m_X12_winter : MD := (yX12_winter, cX12_winter, 4, some .int)
def m_X12_seed : MD := (yX12_seed, cX12_seed, 2, some .boolean)
def m_X12_kept : MD := (yX12_kept, cX12_kept, 3, some .int)
def m_X12_isQuestion : MD := (yX12_isQuestion, cX12_isQuestion, 2, some .boolean)
def m_X12_minutesOf : MD := (yX12_minutesOf, cX12_minutesOf, 5, some .int)
def m_X12_workOf : MD := (yX12_workOf, cX12_workOf, 4, some .int)
def m_X12_nightsFor : MD := (yX12_nightsFor, cX12_nightsFor, 4, some .int)
def m_X12_work : MD := (yX12_work, cX12_work, 6, some .int)
def m_X12_scholar : MD := (yX12_scholar, cX12_scholar, 6, some .int)
def m_X12_sharesOut : MD := (yX12_sharesOut, cX12_sharesOut, 7, none)
def m_X12_shares : MD := (yX12_shares, cX12_shares, 12, some .boolean)
def m_X12_shared : MD := (yX12_shared, cX12_shared, 7, some .int)
def m_X12_seated : MD := (yX12_seated, cX12_seated, 9, some .int)
def m_X12_most : MD := (yX12_most, cX12_most, 12, some .int)
def m_X12_wax : MD := (yX12_wax, cX12_wax, 11, some .int)
def m_X12_allWork : MD := (yX12_allWork, cX12_allWork, 5, some .int)
def m_X12_index : MD := (yX12_index, cX12_index, 8, some .int)
def m_X12_writes : MD := (yX12_writes, cX12_writes, 2, none)
def m_X12_writesTwo : MD := (yX12_writesTwo, cX12_writesTwo, 2, none)
def m_X12_image : MD := (yX12_image, cX12_image, 3, some .int)
def m_X12_octet : MD := (yX12_octet, cX12_octet, 2, some .int)
def m_X12_twoBytes : MD := (yX12_twoBytes, cX12_twoBytes, 2, some .int)
def m_X12_readerOn : MD := (yX12_readerOn, cX12_readerOn, 9, some .int)
def m_X12_comesOn : MD := (yX12_comesOn, cX12_comesOn, 5, some .boolean)
def m_X12_on : MD := (yX12_on, cX12_on, 2, some .boolean)
def m_J6_bitCount_0f7a4 : MD := (yJ6_bitCount_0f7a4, cJ6_bitCount_0f7a4, 1, some .int)
def m_J9_floorDiv_f86c9 : MD := (yJ9_floorDiv_f86c9, cJ9_floorDiv_f86c9, 6, some .long)
def m_J9_floorMod_f86c9 : MD := (yJ9_floorMod_f86c9, cJ9_floorMod_f86c9, 6, some .long)
def m_J9_max_7cf53 : MD := (yJ9_max_7cf53, cJ9_max_7cf53, 2, some .int)
def m_J9_max_f86c9 : MD := (yJ9_max_f86c9, cJ9_max_f86c9, 4, some .long)
def m_J9_min_7cf53 : MD := (yJ9_min_7cf53, cJ9_min_7cf53, 2, some .int)
def m_J0_charAt_5068e : MD := (yJ0_charAt_5068e, cJ0_charAt_5068e, 2, some .char)
def m_J0_isLatin1_aae02 : MD := (yJ0_isLatin1_aae02, cJ0_isLatin1_aae02, 1, some .boolean)
def m_J0_checkIndex_df160 : MD := (yJ0_checkIndex_df160, cJ0_checkIndex_df160, 2, none)
def m_J1_charAt_3b067 : MD := (yJ1_charAt_3b067, cJ1_charAt_3b067, 2, some .char)
def m_J2_getChar_3b067 : MD := (yJ2_getChar_3b067, cJ2_getChar_3b067, 2, some .char)
def m_J2_length_9d52b : MD := (yJ2_length_9d52b, cJ2_length_9d52b, 1, some .int)
def m_J2_charAt_3b067 : MD := (yJ2_charAt_3b067, cJ2_charAt_3b067, 2, some .char)
def m_J2_checkIndex_2214a : MD := (yJ2_checkIndex_2214a, cJ2_checkIndex_2214a, 2, none)
def m_J7_fill_d0a16 : MD := (yJ7_fill_d0a16, cJ7_fill_d0a16, 5, none)
def m_J7_fill_53178 : MD := (yJ7_fill_53178, cJ7_fill_53178, 4, none)
def m_J3_checkIndex_8e157 : MD := (yJ3_checkIndex_8e157, cJ3_checkIndex_8e157, 3, some .int)
