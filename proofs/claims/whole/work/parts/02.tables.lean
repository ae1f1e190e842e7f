def RX0 : String := "StolenHolidays$Almanac"
def TX0 : u_T := fun k => match k with
  | 0 => ("StolenHolidays$Almanac", "days", "I", false)
  | 1 => ("StolenHolidays$Almanac", "thieves", "I", false)
  | 2 => ("StolenHolidays$Almanac", "lawTold", "Z", false)
  | 3 => ("StolenHolidays$Almanac", "dayNames", "[J", true)
  | 4 => ("StolenHolidays$Almanac", "kinds", "[I", true)
  | 5 => ("StolenHolidays$Almanac", "worths", "[I", true)
  | 6 => ("StolenHolidays$Almanac", "guards", "[I", true)
  | 7 => ("StolenHolidays$Almanac", "thiefNames", "[J", true)
  | 8 => ("StolenHolidays$Almanac", "skills", "[I", true)
  | 9 => ("StolenHolidays$Almanac", "sacks", "[I", true)
  | _ => ("StolenHolidays$Almanac", "law", "LStolenHolidays$Law;", true)
def tyX0 : Nat → FieldType := fun k => match k with
  | 0 => .int
  | 1 => .int
  | 2 => .boolean
  | 3 => .array .long
  | 4 => .array .int
  | 5 => .array .int
  | 6 => .array .int
  | 7 => .array .long
  | 8 => .array .int
  | 9 => .array .int
  | _ => .object "StolenHolidays$Law"
abbrev wsX00 : List Cond := u_ws RX0 TX0 11
theorem nmX0 : ∀ a, a < 11 → ∀ b, b < 11 → a ≠ b → (TX0 a).2.1 ≠ (TX0 b).2.1 := by decide +kernel
theorem tyX0_ok : ∀ k, k < 11 → parseFieldDescriptor (TX0 k).2.2.1 = some (tyX0 k) := by decide +kernel
def RX1 : String := "StolenHolidays$Gang"
def TX1 : u_T := fun k => match k with
  | 0 => ("StolenHolidays$Gang", "row", "[I", true)
  | 1 => ("StolenHolidays$Gang", "best", "[I", true)
  | _ => ("StolenHolidays$Gang", "most", "I", false)
def tyX1 : Nat → FieldType := fun k => match k with
  | 0 => .array .int
  | 1 => .array .int
  | _ => .int
abbrev wsX10 : List Cond := u_ws RX1 TX1 3
theorem nmX1 : ∀ a, a < 3 → ∀ b, b < 3 → a ≠ b → (TX1 a).2.1 ≠ (TX1 b).2.1 := by decide +kernel
theorem tyX1_ok : ∀ k, k < 3 → parseFieldDescriptor (TX1 k).2.2.1 = some (tyX1 k) := by decide +kernel
def RX2 : String := "StolenHolidays$Law"
def TX2 : u_T := fun k => match k with
  | 0 => ("StolenHolidays$Law", "code", "[I", true)
  | 1 => ("StolenHolidays$Law", "stack", "[I", true)
  | _ => ("StolenHolidays$Law", "length", "I", false)
def tyX2 : Nat → FieldType := fun k => match k with
  | 0 => .array .int
  | 1 => .array .int
  | _ => .int
abbrev wsX20 : List Cond := u_ws RX2 TX2 3
theorem nmX2 : ∀ a, a < 3 → ∀ b, b < 3 → a ≠ b → (TX2 a).2.1 ≠ (TX2 b).2.1 := by decide +kernel
theorem tyX2_ok : ∀ k, k < 3 → parseFieldDescriptor (TX2 k).2.2.1 = some (tyX2 k) := by decide +kernel
def RX3 : String := "StolenHolidays$Mark"
def TX3 : u_T := fun k => match k with
  | 0 => ("StolenHolidays$Mark", "laid", "Z", false)
  | 1 => ("StolenHolidays$Mark", "state", "LStolenHolidays$State;", true)
  | 2 => ("StolenHolidays$Mark", "year", "LStolenHolidays$Year;", true)
  | _ => ("StolenHolidays$Mark", "seen", "LStolenHolidays$Seen;", true)
def tyX3 : Nat → FieldType := fun k => match k with
  | 0 => .boolean
  | 1 => .object "StolenHolidays$State"
  | 2 => .object "StolenHolidays$Year"
  | _ => .object "StolenHolidays$Seen"
abbrev wsX30 : List Cond := u_ws RX3 TX3 4
theorem nmX3 : ∀ a, a < 4 → ∀ b, b < 4 → a ≠ b → (TX3 a).2.1 ≠ (TX3 b).2.1 := by decide +kernel
theorem tyX3_ok : ∀ k, k < 4 → parseFieldDescriptor (TX3 k).2.2.1 = some (tyX3 k) := by decide +kernel
def RX4 : String := "StolenHolidays$Past"
def TX4 : u_T := fun k => match k with
  | 0 => ("StolenHolidays$Past", "rows", "[I", true)
  | 1 => ("StolenHolidays$Past", "next", "I", false)
  | _ => ("StolenHolidays$Past", "size", "I", false)
def tyX4 : Nat → FieldType := fun k => match k with
  | 0 => .array .int
  | 1 => .int
  | _ => .int
abbrev wsX40 : List Cond := u_ws RX4 TX4 3
theorem nmX4 : ∀ a, a < 3 → ∀ b, b < 3 → a ≠ b → (TX4 a).2.1 ≠ (TX4 b).2.1 := by decide +kernel
theorem tyX4_ok : ∀ k, k < 3 → parseFieldDescriptor (TX4 k).2.2.1 = some (tyX4 k) := by decide +kernel
def RX5 : String := "StolenHolidays$Reader"
def TX5 : u_T := fun k => match k with
  | 0 => ("StolenHolidays$Reader", "tape", "LStolenHolidays$Tape;", true)
  | 1 => ("StolenHolidays$Reader", "fault", "I", false)
  | _ => ("StolenHolidays$Reader", "taken", "I", false)
def tyX5 : Nat → FieldType := fun k => match k with
  | 0 => .object "StolenHolidays$Tape"
  | 1 => .int
  | _ => .int
abbrev wsX50 : List Cond := u_ws RX5 TX5 3
theorem nmX5 : ∀ a, a < 3 → ∀ b, b < 3 → a ≠ b → (TX5 a).2.1 ≠ (TX5 b).2.1 := by decide +kernel
theorem tyX5_ok : ∀ k, k < 3 → parseFieldDescriptor (TX5 k).2.2.1 = some (tyX5 k) := by decide +kernel
def RX6 : String := "StolenHolidays$Seen"
def TX6 : u_T := fun k => match k with
  | 0 => ("StolenHolidays$Seen", "size", "I", false)
  | 1 => ("StolenHolidays$Seen", "days", "[I", true)
  | 2 => ("StolenHolidays$Seen", "nights", "[I", true)
  | _ => ("StolenHolidays$Seen", "opens", "[Z", true)
def tyX6 : Nat → FieldType := fun k => match k with
  | 0 => .int
  | 1 => .array .int
  | 2 => .array .int
  | _ => .array .boolean
abbrev wsX60 : List Cond := u_ws RX6 TX6 4
theorem nmX6 : ∀ a, a < 4 → ∀ b, b < 4 → a ≠ b → (TX6 a).2.1 ≠ (TX6 b).2.1 := by decide +kernel
theorem tyX6_ok : ∀ k, k < 4 → parseFieldDescriptor (TX6 k).2.2.1 = some (tyX6 k) := by decide +kernel
def RX7 : String := "StolenHolidays$Spree"
def TX7 : u_T := fun k => match k with
  | 0 => ("StolenHolidays$Spree", "left", "[I", true)
  | 1 => ("StolenHolidays$Spree", "guard", "[I", true)
  | 2 => ("StolenHolidays$Spree", "skill", "I", false)
  | 3 => ("StolenHolidays$Spree", "sack", "I", false)
  | 4 => ("StolenHolidays$Spree", "nights", "I", false)
  | 5 => ("StolenHolidays$Spree", "most", "I", false)
  | _ => ("StolenHolidays$Spree", "first", "I", false)
def tyX7 : Nat → FieldType := fun k => match k with
  | 0 => .array .int
  | 1 => .array .int
  | 2 => .int
  | 3 => .int
  | 4 => .int
  | 5 => .int
  | _ => .int
abbrev wsX70 : List Cond := u_ws RX7 TX7 7
theorem nmX7 : ∀ a, a < 7 → ∀ b, b < 7 → a ≠ b → (TX7 a).2.1 ≠ (TX7 b).2.1 := by decide +kernel
theorem tyX7_ok : ∀ k, k < 7 → parseFieldDescriptor (TX7 k).2.2.1 = some (tyX7 k) := by decide +kernel
def RX8 : String := "StolenHolidays$State"
def TX8 : u_T := fun k => match k with
  | _ => ("StolenHolidays$State", "cells", "[I", true)
def tyX8 : Nat → FieldType := fun k => match k with
  | _ => .array .int
abbrev wsX80 : List Cond := u_ws RX8 TX8 1
theorem nmX8 : ∀ a, a < 1 → ∀ b, b < 1 → a ≠ b → (TX8 a).2.1 ≠ (TX8 b).2.1 := by decide +kernel
theorem tyX8_ok : ∀ k, k < 1 → parseFieldDescriptor (TX8 k).2.2.1 = some (tyX8 k) := by decide +kernel
def RX9 : String := "StolenHolidays$Tape"
def TX9 : u_T := fun k => match k with
  | 0 => ("StolenHolidays$Tape", "signs", "[B", true)
  | 1 => ("StolenHolidays$Tape", "length", "I", false)
  | 2 => ("StolenHolidays$Tape", "kind", "I", false)
  | 3 => ("StolenHolidays$Tape", "place", "I", false)
  | 4 => ("StolenHolidays$Tape", "behind", "I", false)
  | 5 => ("StolenHolidays$Tape", "key", "I", false)
  | 6 => ("StolenHolidays$Tape", "fact", "I", false)
  | 7 => ("StolenHolidays$Tape", "word", "J", false)
  | _ => ("StolenHolidays$Tape", "number", "I", false)
def tyX9 : Nat → FieldType := fun k => match k with
  | 0 => .array .byte
  | 1 => .int
  | 2 => .int
  | 3 => .int
  | 4 => .int
  | 5 => .int
  | 6 => .int
  | 7 => .long
  | _ => .int
abbrev wsX90 : List Cond := u_ws RX9 TX9 9
theorem nmX9 : ∀ a, a < 9 → ∀ b, b < 9 → a ≠ b → (TX9 a).2.1 ≠ (TX9 b).2.1 := by decide +kernel
theorem tyX9_ok : ∀ k, k < 9 → parseFieldDescriptor (TX9 k).2.2.1 = some (tyX9 k) := by decide +kernel
def RX10 : String := "StolenHolidays$Year"
def TX10 : u_T := fun k => match k with
  | 0 => ("StolenHolidays$Year", "lines", "I", false)
  | 1 => ("StolenHolidays$Year", "doings", "[I", true)
  | 2 => ("StolenHolidays$Year", "firsts", "[I", true)
  | _ => ("StolenHolidays$Year", "seconds", "[I", true)
def tyX10 : Nat → FieldType := fun k => match k with
  | 0 => .int
  | 1 => .array .int
  | 2 => .array .int
  | _ => .array .int
abbrev wsX100 : List Cond := u_ws RX10 TX10 4
theorem nmX10 : ∀ a, a < 4 → ∀ b, b < 4 → a ≠ b → (TX10 a).2.1 ≠ (TX10 b).2.1 := by decide +kernel
theorem tyX10_ok : ∀ k, k < 4 → parseFieldDescriptor (TX10 k).2.2.1 = some (tyX10 k) := by decide +kernel
def RX11 : String := "StolenHolidays"
def TX11 : u_T := fun k => match k with
  | 0 => ("StolenHolidays", "tape", "LStolenHolidays$Tape;", true)
  | 1 => ("StolenHolidays", "reader", "LStolenHolidays$Reader;", true)
  | 2 => ("StolenHolidays", "now", "LStolenHolidays$State;", true)
  | 3 => ("StolenHolidays", "trial", "LStolenHolidays$State;", true)
  | 4 => ("StolenHolidays", "past", "LStolenHolidays$Past;", true)
  | 5 => ("StolenHolidays", "seen", "LStolenHolidays$Seen;", true)
  | 6 => ("StolenHolidays", "gang", "LStolenHolidays$Gang;", true)
  | 7 => ("StolenHolidays", "spree", "LStolenHolidays$Spree;", true)
  | 8 => ("StolenHolidays", "marks", "[LStolenHolidays$Mark;", true)
  | 9 => ("StolenHolidays", "book", "LStolenHolidays$Almanac;", false)
  | 10 => ("StolenHolidays", "bookDraft", "LStolenHolidays$Almanac;", false)
  | 11 => ("StolenHolidays", "year", "LStolenHolidays$Year;", false)
  | _ => ("StolenHolidays", "yearDraft", "LStolenHolidays$Year;", false)
def tyX11 : Nat → FieldType := fun k => match k with
  | 0 => .object "StolenHolidays$Tape"
  | 1 => .object "StolenHolidays$Reader"
  | 2 => .object "StolenHolidays$State"
  | 3 => .object "StolenHolidays$State"
  | 4 => .object "StolenHolidays$Past"
  | 5 => .object "StolenHolidays$Seen"
  | 6 => .object "StolenHolidays$Gang"
  | 7 => .object "StolenHolidays$Spree"
  | 8 => .array (.object "StolenHolidays$Mark")
  | 9 => .object "StolenHolidays$Almanac"
  | 10 => .object "StolenHolidays$Almanac"
  | 11 => .object "StolenHolidays$Year"
  | _ => .object "StolenHolidays$Year"
abbrev wsX110 : List Cond := u_ws RX11 TX11 13
theorem nmX11 : ∀ a, a < 13 → ∀ b, b < 13 → a ≠ b → (TX11 a).2.1 ≠ (TX11 b).2.1 := by decide +kernel
theorem tyX11_ok : ∀ k, k < 13 → parseFieldDescriptor (TX11 k).2.2.1 = some (tyX11 k) := by decide +kernel
def RX12 : String := "StolenHolidaysModel"
def TX12 : u_T := fun k => match k with
  | 0 => ("StolenHolidaysModel", "thrown", "I", false)
  | 1 => ("StolenHolidaysModel", "taped", "I", false)
  | 2 => ("StolenHolidaysModel", "tape", "[I", true)
  | 3 => ("StolenHolidaysModel", "size", "I", false)
  | 4 => ("StolenHolidaysModel", "place", "I", false)
  | 5 => ("StolenHolidaysModel", "begin", "I", false)
  | 6 => ("StolenHolidaysModel", "token", "I", false)
  | 7 => ("StolenHolidaysModel", "word", "J", false)
  | 8 => ("StolenHolidaysModel", "told", "I", false)
  | 9 => ("StolenHolidaysModel", "wrong", "I", false)
  | 10 => ("StolenHolidaysModel", "almanac", "[I", true)
  | 11 => ("StolenHolidaysModel", "dayName", "[J", true)
  | 12 => ("StolenHolidaysModel", "thiefName", "[J", true)
  | 13 => ("StolenHolidaysModel", "kind", "[I", true)
  | 14 => ("StolenHolidaysModel", "worthTold", "[I", true)
  | 15 => ("StolenHolidaysModel", "guardTold", "[I", true)
  | 16 => ("StolenHolidaysModel", "skill", "[I", true)
  | 17 => ("StolenHolidaysModel", "sack", "[I", true)
  | 18 => ("StolenHolidaysModel", "lineFrom", "[I", true)
  | 19 => ("StolenHolidaysModel", "lineTo", "[I", true)
  | 20 => ("StolenHolidaysModel", "codes", "[I", true)
  | 21 => ("StolenHolidaysModel", "code", "I", false)
  | 22 => ("StolenHolidaysModel", "opened", "[I", true)
  | 23 => ("StolenHolidaysModel", "compared", "[Z", true)
  | 24 => ("StolenHolidaysModel", "kept", "[I", true)
  | 25 => ("StolenHolidaysModel", "keptBy", "[I", true)
  | 26 => ("StolenHolidaysModel", "ahead", "[I", true)
  | 27 => ("StolenHolidaysModel", "against", "[I", true)
  | 28 => ("StolenHolidaysModel", "sum", "[I", true)
  | 29 => ("StolenHolidaysModel", "sumBy", "[I", true)
  | 30 => ("StolenHolidaysModel", "term", "[I", true)
  | 31 => ("StolenHolidaysModel", "termBy", "[I", true)
  | 32 => ("StolenHolidaysModel", "byNot", "[I", true)
  | 33 => ("StolenHolidaysModel", "valueOf", "[I", true)
  | 34 => ("StolenHolidaysModel", "given", "I", false)
  | 35 => ("StolenHolidaysModel", "fresh", "J", false)
  | 36 => ("StolenHolidaysModel", "lines", "[I", true)
  | 37 => ("StolenHolidaysModel", "lineWhat", "[I", true)
  | 38 => ("StolenHolidaysModel", "lineA", "[I", true)
  | 39 => ("StolenHolidaysModel", "lineB", "[I", true)
  | 40 => ("StolenHolidaysModel", "seens", "[I", true)
  | 41 => ("StolenHolidaysModel", "seenAt", "[I", true)
  | 42 => ("StolenHolidaysModel", "seenIn", "[I", true)
  | 43 => ("StolenHolidaysModel", "seenOpen", "[Z", true)
  | 44 => ("StolenHolidaysModel", "s", "[I", true)
  | 45 => ("StolenHolidaysModel", "aside", "[I", true)
  | 46 => ("StolenHolidaysModel", "before", "[I", true)
  | 47 => ("StolenHolidaysModel", "tried", "[I", true)
  | 48 => ("StolenHolidaysModel", "marked", "[I", true)
  | 49 => ("StolenHolidaysModel", "undone", "[I", true)
  | 50 => ("StolenHolidaysModel", "isLaid", "[Z", true)
  | 51 => ("StolenHolidaysModel", "done", "I", false)
  | 52 => ("StolenHolidaysModel", "greatest", "I", false)
  | 53 => ("StolenHolidaysModel", "row", "[I", true)
  | 54 => ("StolenHolidaysModel", "bestRow", "[I", true)
  | 55 => ("StolenHolidaysModel", "bestMuch", "I", false)
  | 56 => ("StolenHolidaysModel", "spreeDay", "I", false)
  | 57 => ("StolenHolidaysModel", "openIn", "[I", true)
  | _ => ("StolenHolidaysModel", "g", "J", false)
def tyX12 : Nat → FieldType := fun k => match k with
  | 0 => .int
  | 1 => .int
  | 2 => .array .int
  | 3 => .int
  | 4 => .int
  | 5 => .int
  | 6 => .int
  | 7 => .long
  | 8 => .int
  | 9 => .int
  | 10 => .array .int
  | 11 => .array .long
  | 12 => .array .long
  | 13 => .array .int
  | 14 => .array .int
  | 15 => .array .int
  | 16 => .array .int
  | 17 => .array .int
  | 18 => .array .int
  | 19 => .array .int
  | 20 => .array .int
  | 21 => .int
  | 22 => .array .int
  | 23 => .array .boolean
  | 24 => .array .int
  | 25 => .array .int
  | 26 => .array .int
  | 27 => .array .int
  | 28 => .array .int
  | 29 => .array .int
  | 30 => .array .int
  | 31 => .array .int
  | 32 => .array .int
  | 33 => .array .int
  | 34 => .int
  | 35 => .long
  | 36 => .array .int
  | 37 => .array .int
  | 38 => .array .int
  | 39 => .array .int
  | 40 => .array .int
  | 41 => .array .int
  | 42 => .array .int
  | 43 => .array .boolean
  | 44 => .array .int
  | 45 => .array .int
  | 46 => .array .int
  | 47 => .array .int
  | 48 => .array .int
  | 49 => .array .int
  | 50 => .array .boolean
  | 51 => .int
  | 52 => .int
  | 53 => .array .int
  | 54 => .array .int
  | 55 => .int
  | 56 => .int
  | 57 => .array .int
  | _ => .long
abbrev wsX120 : List Cond := u_ws RX12 TX12 59
theorem nmX12 : ∀ a, a < 59 → ∀ b, b < 59 → a ≠ b → (TX12 a).2.1 ≠ (TX12 b).2.1 := by decide +kernel
theorem tyX12_ok : ∀ k, k < 59 → parseFieldDescriptor (TX12 k).2.2.1 = some (tyX12 k) := by decide +kernel
abbrev sh_cl : List vw_C := [(RX0, TX0, 11), (RX1, TX1, 3), (RX2, TX2, 3), (RX3, TX3, 4), (RX4, TX4, 3), (RX5, TX5, 3), (RX6, TX6, 4), (RX7, TX7, 7), (RX8, TX8, 1), (RX9, TX9, 9), (RX10, TX10, 4), (RX11, TX11, 13), (RX12, TX12, 59)]
/-- the kinds of the fields: 0 int, 1 long, 2 a reference that moves, 3 boolean, 6 the cell 2, 10 and more: the cell that lies so much less 10 behind the object -/
def sh_ftl : List (List Nat) := [[0, 0, 3, 11, 12, 13, 14, 15, 16, 17, 18], [11, 12, 0], [11, 12, 0], [3, 11, 13, 17], [11, 0, 0], [6, 0, 0], [0, 11, 12, 13], [11, 12, 0, 0, 0, 0, 0], [11], [11, 0, 0, 0, 0, 0, 0, 1, 0], [0, 11, 12, 13], [11, 13, 14, 16, 18, 20, 24, 27, 30, 2, 2, 2, 2], [0, 0, 11, 0, 0, 0, 0, 1, 0, 0, 12, 13, 14, 15, 16, 17, 18, 19, 20, 21, 22, 0, 23, 24, 25, 26, 27, 28, 29, 30, 31, 32, 33, 34, 0, 1, 35, 36, 37, 38, 39, 40, 41, 42, 43, 44, 45, 46, 47, 48, 49, 0, 0, 50, 51, 0, 0, 52, 1]]
/-- the cells, in the order in which they are made: an object (its class) or an array (0 int, 1 long, 2 Mark, 3 boolean, 4 byte; its length) -/
def sh_shl : List (Nat ⊕ (Nat × Nat)) := [.inl 11, .inl 9, .inr (4, 1000), .inl 5, .inl 8, .inr (0, 45), .inl 8, .inr (0, 45), .inl 4, .inr (0, 720), .inl 6, .inr (0, 8), .inr (0, 8), .inr (3, 8), .inl 1, .inr (0, 4), .inr (0, 4), .inl 7, .inr (0, 48), .inr (0, 48), .inr (2, 4), .inl 0, .inr (1, 8), .inr (0, 8), .inr (0, 8), .inr (0, 8), .inr (1, 4), .inr (0, 4), .inr (0, 4), .inl 2, .inr (0, 1000), .inr (0, 32), .inl 0, .inr (1, 8), .inr (0, 8), .inr (0, 8), .inr (0, 8), .inr (1, 4), .inr (0, 4), .inr (0, 4), .inl 2, .inr (0, 1000), .inr (0, 32), .inl 10, .inr (0, 40), .inr (0, 40), .inr (0, 40), .inl 10, .inr (0, 40), .inr (0, 40), .inr (0, 40), .inl 3, .inl 8, .inr (0, 45), .inl 10, .inr (0, 40), .inr (0, 40), .inr (0, 40), .inl 6, .inr (0, 8), .inr (0, 8), .inr (3, 8), .inl 3, .inl 8, .inr (0, 45), .inl 10, .inr (0, 40), .inr (0, 40), .inr (0, 40), .inl 6, .inr (0, 8), .inr (0, 8), .inr (3, 8), .inl 3, .inl 8, .inr (0, 45), .inl 10, .inr (0, 40), .inr (0, 40), .inr (0, 40), .inl 6, .inr (0, 8), .inr (0, 8), .inr (3, 8), .inl 3, .inl 8, .inr (0, 45), .inl 10, .inr (0, 40), .inr (0, 40), .inr (0, 40), .inl 6, .inr (0, 8), .inr (0, 8), .inr (3, 8), .inl 12, .inr (0, 1000), .inr (0, 4), .inr (1, 16), .inr (1, 8), .inr (0, 16), .inr (0, 16), .inr (0, 16), .inr (0, 8), .inr (0, 8), .inr (0, 2), .inr (0, 2), .inr (0, 2000), .inr (0, 7), .inr (3, 7), .inr (0, 7), .inr (0, 7), .inr (0, 7), .inr (0, 7), .inr (0, 7), .inr (0, 7), .inr (0, 7), .inr (0, 7), .inr (0, 7), .inr (0, 20), .inr (0, 6), .inr (0, 240), .inr (0, 240), .inr (0, 240), .inr (0, 5), .inr (0, 40), .inr (0, 40), .inr (3, 40), .inr (0, 45), .inr (0, 45), .inr (0, 45), .inr (0, 270), .inr (0, 180), .inr (0, 720), .inr (3, 4), .inr (0, 4), .inr (0, 4), .inr (0, 124), .inr (1, 1)]
abbrev sh_nc : Nat := 139
