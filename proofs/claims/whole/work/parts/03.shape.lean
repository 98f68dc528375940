/-! The classes, the kinds of cells, and what a heap holds of them. (By program.) -/
def zN0 : String := "SoapTreaty$Congress"
def zT0 : u_T := fun k => match k with
  | 0 => ("SoapTreaty$Congress", "powers", "I", false)
  | 1 => ("SoapTreaty$Congress", "powerName", "[J", true)
  | 2 => ("SoapTreaty$Congress", "kind", "[I", true)
  | 3 => ("SoapTreaty$Congress", "water", "[I", true)
  | 4 => ("SoapTreaty$Congress", "cakes", "I", false)
  | 5 => ("SoapTreaty$Congress", "cakeName", "[J", true)
  | 6 => ("SoapTreaty$Congress", "sender", "[I", true)
  | 7 => ("SoapTreaty$Congress", "receiver", "[I", true)
  | 8 => ("SoapTreaty$Congress", "thick", "[I", true)
  | 9 => ("SoapTreaty$Congress", "hard", "[I", true)
  | 10 => ("SoapTreaty$Congress", "pebble", "[I", true)
  | 11 => ("SoapTreaty$Congress", "sliver", "I", false)
  | _ => ("SoapTreaty$Congress", "law", "LSoapTreaty$Law;", true)
def zF0 : Nat → FieldType := fun k => match k with
  | 0 => .int
  | 1 => .array .long
  | 2 => .array .int
  | 3 => .array .int
  | 4 => .int
  | 5 => .array .long
  | 6 => .array .int
  | 7 => .array .int
  | 8 => .array .int
  | 9 => .array .int
  | 10 => .array .int
  | 11 => .int
  | _ => .object "SoapTreaty$Law"
theorem zn_0 : ∀ a, a < 13 → ∀ b, b < 13 → a ≠ b → (zT0 a).2.1 ≠ (zT0 b).2.1 := by decide +kernel
theorem zf_0 : ∀ k, k < 13 → parseFieldDescriptor (zT0 k).2.2.1 = some (zF0 k) := by decide +kernel
theorem zi_0 : ∀ w ∈ u_ws zN0 zT0 13, w ∈ lw_tbl := by decide +kernel
theorem zj_0 : ∀ w ∈ u_ws zN0 zT0 13, goodWord w = true := by decide +kernel
def zN1 : String := "SoapTreaty$Law"
def zT1 : u_T := fun k => match k with
  | 0 => ("SoapTreaty$Law", "steps", "[I", true)
  | 1 => ("SoapTreaty$Law", "stack", "[I", true)
  | _ => ("SoapTreaty$Law", "length", "I", false)
def zF1 : Nat → FieldType := fun k => match k with
  | 0 => .array .int
  | 1 => .array .int
  | _ => .int
theorem zn_1 : ∀ a, a < 3 → ∀ b, b < 3 → a ≠ b → (zT1 a).2.1 ≠ (zT1 b).2.1 := by decide +kernel
theorem zf_1 : ∀ k, k < 3 → parseFieldDescriptor (zT1 k).2.2.1 = some (zF1 k) := by decide +kernel
theorem zi_1 : ∀ w ∈ u_ws zN1 zT1 3, w ∈ lw_tbl := by decide +kernel
theorem zj_1 : ∀ w ∈ u_ws zN1 zT1 3, goodWord w = true := by decide +kernel
def zN2 : String := "SoapTreaty$LawReader"
def zT2 : u_T := fun k => match k with
  | 0 => ("SoapTreaty$LawReader", "tokens", "LSoapTreaty$Tokens;", true)
  | _ => ("SoapTreaty$LawReader", "law", "LSoapTreaty$Law;", true)
def zF2 : Nat → FieldType := fun k => match k with
  | 0 => .object "SoapTreaty$Tokens"
  | _ => .object "SoapTreaty$Law"
theorem zn_2 : ∀ a, a < 2 → ∀ b, b < 2 → a ≠ b → (zT2 a).2.1 ≠ (zT2 b).2.1 := by decide +kernel
theorem zf_2 : ∀ k, k < 2 → parseFieldDescriptor (zT2 k).2.2.1 = some (zF2 k) := by decide +kernel
theorem zi_2 : ∀ w ∈ u_ws zN2 zT2 2, w ∈ lw_tbl := by decide +kernel
theorem zj_2 : ∀ w ∈ u_ws zN2 zT2 2, goodWord w = true := by decide +kernel
def zN3 : String := "SoapTreaty$Lines"
def zT3 : u_T := fun k => match k with
  | 0 => ("SoapTreaty$Lines", "size", "I", false)
  | 1 => ("SoapTreaty$Lines", "act", "[I", true)
  | 2 => ("SoapTreaty$Lines", "cake", "[I", true)
  | _ => ("SoapTreaty$Lines", "power", "[I", true)
def zF3 : Nat → FieldType := fun k => match k with
  | 0 => .int
  | 1 => .array .int
  | 2 => .array .int
  | _ => .array .int
theorem zn_3 : ∀ a, a < 4 → ∀ b, b < 4 → a ≠ b → (zT3 a).2.1 ≠ (zT3 b).2.1 := by decide +kernel
theorem zf_3 : ∀ k, k < 4 → parseFieldDescriptor (zT3 k).2.2.1 = some (zF3 k) := by decide +kernel
theorem zi_3 : ∀ w ∈ u_ws zN3 zT3 4, w ∈ lw_tbl := by decide +kernel
theorem zj_3 : ∀ w ∈ u_ws zN3 zT3 4, goodWord w = true := by decide +kernel
def zN4 : String := "SoapTreaty$Page"
def zT4 : u_T := fun k => match k with
  | 0 => ("SoapTreaty$Page", "state", "LSoapTreaty$State;", true)
  | 1 => ("SoapTreaty$Page", "lines", "LSoapTreaty$Lines;", true)
  | _ => ("SoapTreaty$Page", "seen", "LSoapTreaty$Seen;", true)
def zF4 : Nat → FieldType := fun k => match k with
  | 0 => .object "SoapTreaty$State"
  | 1 => .object "SoapTreaty$Lines"
  | _ => .object "SoapTreaty$Seen"
theorem zn_4 : ∀ a, a < 3 → ∀ b, b < 3 → a ≠ b → (zT4 a).2.1 ≠ (zT4 b).2.1 := by decide +kernel
theorem zf_4 : ∀ k, k < 3 → parseFieldDescriptor (zT4 k).2.2.1 = some (zF4 k) := by decide +kernel
theorem zi_4 : ∀ w ∈ u_ws zN4 zT4 3, w ∈ lw_tbl := by decide +kernel
theorem zj_4 : ∀ w ∈ u_ws zN4 zT4 3, goodWord w = true := by decide +kernel
def zN5 : String := "SoapTreaty$Past"
def zT5 : u_T := fun k => match k with
  | 0 => ("SoapTreaty$Past", "states", "[LSoapTreaty$State;", true)
  | 1 => ("SoapTreaty$Past", "next", "I", false)
  | _ => ("SoapTreaty$Past", "kept", "I", false)
def zF5 : Nat → FieldType := fun k => match k with
  | 0 => .array (.object "SoapTreaty$State")
  | 1 => .int
  | _ => .int
theorem zn_5 : ∀ a, a < 3 → ∀ b, b < 3 → a ≠ b → (zT5 a).2.1 ≠ (zT5 b).2.1 := by decide +kernel
theorem zf_5 : ∀ k, k < 3 → parseFieldDescriptor (zT5 k).2.2.1 = some (zF5 k) := by decide +kernel
theorem zi_5 : ∀ w ∈ u_ws zN5 zT5 3, w ∈ lw_tbl := by decide +kernel
theorem zj_5 : ∀ w ∈ u_ws zN5 zT5 3, goodWord w = true := by decide +kernel
def zN6 : String := "SoapTreaty$Reader"
def zT6 : u_T := fun k => match k with
  | 0 => ("SoapTreaty$Reader", "draft", "LSoapTreaty$Congress;", true)
  | 1 => ("SoapTreaty$Reader", "draftLines", "LSoapTreaty$Lines;", true)
  | 2 => ("SoapTreaty$Reader", "told", "LSoapTreaty$Congress;", true)
  | 3 => ("SoapTreaty$Reader", "tokens", "LSoapTreaty$Tokens;", true)
  | 4 => ("SoapTreaty$Reader", "lawReader", "LSoapTreaty$LawReader;", true)
  | 5 => ("SoapTreaty$Reader", "sliverTold", "Z", false)
  | _ => ("SoapTreaty$Reader", "wearsTold", "Z", false)
def zF6 : Nat → FieldType := fun k => match k with
  | 0 => .object "SoapTreaty$Congress"
  | 1 => .object "SoapTreaty$Lines"
  | 2 => .object "SoapTreaty$Congress"
  | 3 => .object "SoapTreaty$Tokens"
  | 4 => .object "SoapTreaty$LawReader"
  | 5 => .boolean
  | _ => .boolean
theorem zn_6 : ∀ a, a < 7 → ∀ b, b < 7 → a ≠ b → (zT6 a).2.1 ≠ (zT6 b).2.1 := by decide +kernel
theorem zf_6 : ∀ k, k < 7 → parseFieldDescriptor (zT6 k).2.2.1 = some (zF6 k) := by decide +kernel
theorem zi_6 : ∀ w ∈ u_ws zN6 zT6 7, w ∈ lw_tbl := by decide +kernel
theorem zj_6 : ∀ w ∈ u_ws zN6 zT6 7, goodWord w = true := by decide +kernel
def zN7 : String := "SoapTreaty$Seen"
def zT7 : u_T := fun k => match k with
  | 0 => ("SoapTreaty$Seen", "size", "I", false)
  | 1 => ("SoapTreaty$Seen", "cake", "[I", true)
  | 2 => ("SoapTreaty$Seen", "weeks", "[I", true)
  | _ => ("SoapTreaty$Seen", "thick", "[I", true)
def zF7 : Nat → FieldType := fun k => match k with
  | 0 => .int
  | 1 => .array .int
  | 2 => .array .int
  | _ => .array .int
theorem zn_7 : ∀ a, a < 4 → ∀ b, b < 4 → a ≠ b → (zT7 a).2.1 ≠ (zT7 b).2.1 := by decide +kernel
theorem zf_7 : ∀ k, k < 4 → parseFieldDescriptor (zT7 k).2.2.1 = some (zF7 k) := by decide +kernel
theorem zi_7 : ∀ w ∈ u_ws zN7 zT7 4, w ∈ lw_tbl := by decide +kernel
theorem zj_7 : ∀ w ∈ u_ws zN7 zT7 4, goodWord w = true := by decide +kernel
def zN8 : String := "SoapTreaty$State"
def zT8 : u_T := fun k => match k with
  | 0 => ("SoapTreaty$State", "congress", "LSoapTreaty$Congress;", true)
  | 1 => ("SoapTreaty$State", "owner", "[I", true)
  | 2 => ("SoapTreaty$State", "thick", "[I", true)
  | 3 => ("SoapTreaty$State", "used", "[I", true)
  | 4 => ("SoapTreaty$State", "hairs", "I", false)
  | 5 => ("SoapTreaty$State", "lump", "I", false)
  | _ => ("SoapTreaty$State", "week", "I", false)
def zF8 : Nat → FieldType := fun k => match k with
  | 0 => .object "SoapTreaty$Congress"
  | 1 => .array .int
  | 2 => .array .int
  | 3 => .array .int
  | 4 => .int
  | 5 => .int
  | _ => .int
theorem zn_8 : ∀ a, a < 7 → ∀ b, b < 7 → a ≠ b → (zT8 a).2.1 ≠ (zT8 b).2.1 := by decide +kernel
theorem zf_8 : ∀ k, k < 7 → parseFieldDescriptor (zT8 k).2.2.1 = some (zF8 k) := by decide +kernel
theorem zi_8 : ∀ w ∈ u_ws zN8 zT8 7, w ∈ lw_tbl := by decide +kernel
theorem zj_8 : ∀ w ∈ u_ws zN8 zT8 7, goodWord w = true := by decide +kernel
def zN9 : String := "SoapTreaty$Tape"
def zT9 : u_T := fun k => match k with
  | 0 => ("SoapTreaty$Tape", "signs", "[B", true)
  | _ => ("SoapTreaty$Tape", "length", "I", false)
def zF9 : Nat → FieldType := fun k => match k with
  | 0 => .array .byte
  | _ => .int
theorem zn_9 : ∀ a, a < 2 → ∀ b, b < 2 → a ≠ b → (zT9 a).2.1 ≠ (zT9 b).2.1 := by decide +kernel
theorem zf_9 : ∀ k, k < 2 → parseFieldDescriptor (zT9 k).2.2.1 = some (zF9 k) := by decide +kernel
theorem zi_9 : ∀ w ∈ u_ws zN9 zT9 2, w ∈ lw_tbl := by decide +kernel
theorem zj_9 : ∀ w ∈ u_ws zN9 zT9 2, goodWord w = true := by decide +kernel
def zN10 : String := "SoapTreaty$Tokens"
def zT10 : u_T := fun k => match k with
  | 0 => ("SoapTreaty$Tokens", "tape", "LSoapTreaty$Tape;", true)
  | 1 => ("SoapTreaty$Tokens", "spellings", "[J", true)
  | 2 => ("SoapTreaty$Tokens", "next", "I", false)
  | 3 => ("SoapTreaty$Tokens", "kind", "I", false)
  | 4 => ("SoapTreaty$Tokens", "place", "I", false)
  | 5 => ("SoapTreaty$Tokens", "value", "I", false)
  | 6 => ("SoapTreaty$Tokens", "spelling", "J", false)
  | _ => ("SoapTreaty$Tokens", "fault", "I", false)
def zF10 : Nat → FieldType := fun k => match k with
  | 0 => .object "SoapTreaty$Tape"
  | 1 => .array .long
  | 2 => .int
  | 3 => .int
  | 4 => .int
  | 5 => .int
  | 6 => .long
  | _ => .int
theorem zn_10 : ∀ a, a < 8 → ∀ b, b < 8 → a ≠ b → (zT10 a).2.1 ≠ (zT10 b).2.1 := by decide +kernel
theorem zf_10 : ∀ k, k < 8 → parseFieldDescriptor (zT10 k).2.2.1 = some (zF10 k) := by decide +kernel
theorem zi_10 : ∀ w ∈ u_ws zN10 zT10 8, w ∈ lw_tbl := by decide +kernel
theorem zj_10 : ∀ w ∈ u_ws zN10 zT10 8, goodWord w = true := by decide +kernel
def zN11 : String := "SoapTreaty"
def zT11 : u_T := fun k => match k with
  | 0 => ("SoapTreaty", "tape", "LSoapTreaty$Tape;", true)
  | 1 => ("SoapTreaty", "told", "LSoapTreaty$Congress;", true)
  | 2 => ("SoapTreaty", "reader", "LSoapTreaty$Reader;", true)
  | 3 => ("SoapTreaty", "page", "LSoapTreaty$Page;", true)
  | 4 => ("SoapTreaty", "marks", "[LSoapTreaty$Page;", true)
  | 5 => ("SoapTreaty", "past", "LSoapTreaty$Past;", true)
  | 6 => ("SoapTreaty", "ahead", "LSoapTreaty$State;", true)
  | 7 => ("SoapTreaty", "sightWashed", "[I", true)
  | 8 => ("SoapTreaty", "laid", "I", false)
  | _ => ("SoapTreaty", "dice", "J", false)
def zF11 : Nat → FieldType := fun k => match k with
  | 0 => .object "SoapTreaty$Tape"
  | 1 => .object "SoapTreaty$Congress"
  | 2 => .object "SoapTreaty$Reader"
  | 3 => .object "SoapTreaty$Page"
  | 4 => .array (.object "SoapTreaty$Page")
  | 5 => .object "SoapTreaty$Past"
  | 6 => .object "SoapTreaty$State"
  | 7 => .array .int
  | 8 => .int
  | _ => .long
theorem zn_11 : ∀ a, a < 10 → ∀ b, b < 10 → a ≠ b → (zT11 a).2.1 ≠ (zT11 b).2.1 := by decide +kernel
theorem zf_11 : ∀ k, k < 10 → parseFieldDescriptor (zT11 k).2.2.1 = some (zF11 k) := by decide +kernel
theorem zi_11 : ∀ w ∈ u_ws zN11 zT11 10, w ∈ lw_tbl := by decide +kernel
theorem zj_11 : ∀ w ∈ u_ws zN11 zT11 10, goodWord w = true := by decide +kernel
def zN12 : String := "SoapTreatyModel"
def zT12 : u_T := fun k => match k with
  | 0 => ("SoapTreatyModel", "thrown", "I", false)
  | 1 => ("SoapTreatyModel", "taped", "I", false)
  | 2 => ("SoapTreatyModel", "tape", "[I", true)
  | 3 => ("SoapTreatyModel", "size", "I", false)
  | 4 => ("SoapTreatyModel", "place", "I", false)
  | 5 => ("SoapTreatyModel", "begin", "I", false)
  | 6 => ("SoapTreatyModel", "token", "I", false)
  | 7 => ("SoapTreatyModel", "word", "J", false)
  | 8 => ("SoapTreatyModel", "told", "I", false)
  | 9 => ("SoapTreatyModel", "wrong", "I", false)
  | 10 => ("SoapTreatyModel", "congress", "[I", true)
  | 11 => ("SoapTreatyModel", "powerName", "[J", true)
  | 12 => ("SoapTreatyModel", "cakeName", "[J", true)
  | 13 => ("SoapTreatyModel", "kind", "[I", true)
  | 14 => ("SoapTreatyModel", "water", "[I", true)
  | 15 => ("SoapTreatyModel", "sender", "[I", true)
  | 16 => ("SoapTreatyModel", "toTold", "[I", true)
  | 17 => ("SoapTreatyModel", "thickTold", "[I", true)
  | 18 => ("SoapTreatyModel", "hard", "[I", true)
  | 19 => ("SoapTreatyModel", "pebble", "[I", true)
  | 20 => ("SoapTreatyModel", "lineFrom", "[I", true)
  | 21 => ("SoapTreatyModel", "lineTo", "[I", true)
  | 22 => ("SoapTreatyModel", "codes", "[I", true)
  | 23 => ("SoapTreatyModel", "code", "I", false)
  | 24 => ("SoapTreatyModel", "isSliver", "Z", false)
  | 25 => ("SoapTreatyModel", "opened", "[I", true)
  | 26 => ("SoapTreatyModel", "compared", "[Z", true)
  | 27 => ("SoapTreatyModel", "kept", "[I", true)
  | 28 => ("SoapTreatyModel", "keptBy", "[I", true)
  | 29 => ("SoapTreatyModel", "ahead", "[I", true)
  | 30 => ("SoapTreatyModel", "against", "[I", true)
  | 31 => ("SoapTreatyModel", "sum", "[I", true)
  | 32 => ("SoapTreatyModel", "sumBy", "[I", true)
  | 33 => ("SoapTreatyModel", "term", "[I", true)
  | 34 => ("SoapTreatyModel", "termBy", "[I", true)
  | 35 => ("SoapTreatyModel", "byNot", "[I", true)
  | 36 => ("SoapTreatyModel", "valueOf", "[I", true)
  | 37 => ("SoapTreatyModel", "given", "I", false)
  | 38 => ("SoapTreatyModel", "fresh", "J", false)
  | 39 => ("SoapTreatyModel", "lines", "[I", true)
  | 40 => ("SoapTreatyModel", "lineWhat", "[I", true)
  | 41 => ("SoapTreatyModel", "lineA", "[I", true)
  | 42 => ("SoapTreatyModel", "lineB", "[I", true)
  | 43 => ("SoapTreatyModel", "seens", "[I", true)
  | 44 => ("SoapTreatyModel", "seenCake", "[I", true)
  | 45 => ("SoapTreatyModel", "seenAt", "[I", true)
  | 46 => ("SoapTreatyModel", "seenThick", "[I", true)
  | 47 => ("SoapTreatyModel", "s", "[I", true)
  | 48 => ("SoapTreatyModel", "aside", "[I", true)
  | 49 => ("SoapTreatyModel", "before", "[I", true)
  | 50 => ("SoapTreatyModel", "marked", "[I", true)
  | 51 => ("SoapTreatyModel", "undone", "[I", true)
  | 52 => ("SoapTreatyModel", "isLaid", "[Z", true)
  | 53 => ("SoapTreatyModel", "done", "I", false)
  | 54 => ("SoapTreatyModel", "dryNow", "I", false)
  | 55 => ("SoapTreatyModel", "thickBy", "[I", true)
  | _ => ("SoapTreatyModel", "g", "J", false)
def zF12 : Nat → FieldType := fun k => match k with
  | 0 => .int
  | 1 => .int
  | 2 => .array .int
  | 3 => .int
  | 4 => .int
  | 5 => .int
  | 6 => .int
  | 7 => .long
  | 8 => .int
  | 9 => .int
  | 10 => .array .int
  | 11 => .array .long
  | 12 => .array .long
  | 13 => .array .int
  | 14 => .array .int
  | 15 => .array .int
  | 16 => .array .int
  | 17 => .array .int
  | 18 => .array .int
  | 19 => .array .int
  | 20 => .array .int
  | 21 => .array .int
  | 22 => .array .int
  | 23 => .int
  | 24 => .boolean
  | 25 => .array .int
  | 26 => .array .boolean
  | 27 => .array .int
  | 28 => .array .int
  | 29 => .array .int
  | 30 => .array .int
  | 31 => .array .int
  | 32 => .array .int
  | 33 => .array .int
  | 34 => .array .int
  | 35 => .array .int
  | 36 => .array .int
  | 37 => .int
  | 38 => .long
  | 39 => .array .int
  | 40 => .array .int
  | 41 => .array .int
  | 42 => .array .int
  | 43 => .array .int
  | 44 => .array .int
  | 45 => .array .int
  | 46 => .array .int
  | 47 => .array .int
  | 48 => .array .int
  | 49 => .array .int
  | 50 => .array .int
  | 51 => .array .int
  | 52 => .array .boolean
  | 53 => .int
  | 54 => .int
  | 55 => .array .int
  | _ => .long
theorem zn_12 : ∀ a, a < 57 → ∀ b, b < 57 → a ≠ b → (zT12 a).2.1 ≠ (zT12 b).2.1 := by decide +kernel
theorem zf_12 : ∀ k, k < 57 → parseFieldDescriptor (zT12 k).2.2.1 = some (zF12 k) := by decide +kernel
theorem zi_12 : ∀ w ∈ u_ws zN12 zT12 57, w ∈ lw_tbl := by decide +kernel
theorem zj_12 : ∀ w ∈ u_ws zN12 zT12 57, goodWord w = true := by decide +kernel
abbrev zcl : List vw_C := [(zN0, zT0, 13), (zN1, zT1, 3), (zN2, zT2, 2), (zN3, zT3, 4), (zN4, zT4, 3), (zN5, zT5, 3), (zN6, zT6, 7), (zN7, zT7, 4), (zN8, zT8, 7), (zN9, zT9, 2), (zN10, zT10, 8), (zN11, zT11, 10), (zN12, zT12, 57)]
/-- fields: 0 int, 1 long, 2 a cell (its kind; its number, none: the same), 3 boolean -/
def zfl : Nat → List (Nat × Nat × Option Nat)
  | 0 => [(0, 0, none), (2, 13, none), (2, 14, none), (2, 15, none), (0, 0, none), (2, 16, none), (2, 17, none), (2, 18, none), (2, 19, none), (2, 20, none), (2, 21, none), (0, 0, none), (2, 1, none)]
  | 1 => [(2, 22, none), (2, 23, none), (0, 0, none)]
  | 2 => [(2, 10, none), (2, 1, some 1)]
  | 3 => [(0, 0, none), (2, 24, none), (2, 25, none), (2, 26, none)]
  | 4 => [(2, 8, none), (2, 3, none), (2, 7, none)]
  | 5 => [(2, 27, none), (0, 0, none), (0, 0, none)]
  | 6 => [(2, 0, some 1), (2, 3, some 5), (2, 0, some 0), (2, 10, none), (2, 2, none), (3, 0, none), (3, 0, none)]
  | 7 => [(0, 0, none), (2, 28, none), (2, 29, none), (2, 30, none)]
  | 8 => [(2, 0, some 0), (2, 31, none), (2, 32, none), (2, 33, none), (0, 0, none), (0, 0, none), (0, 0, none)]
  | 9 => [(2, 34, none), (0, 0, none)]
  | 10 => [(2, 9, none), (2, 35, none), (0, 0, none), (0, 0, none), (0, 0, none), (0, 0, none), (1, 0, none), (0, 0, none)]
  | 11 => [(2, 9, none), (2, 0, some 0), (2, 6, none), (2, 4, some 0), (2, 36, none), (2, 5, none), (2, 8, some 21), (2, 37, none), (0, 0, none), (1, 0, none)]
  | 12 => [(0, 0, none), (0, 0, none), (2, 38, none), (0, 0, none), (0, 0, none), (0, 0, none), (0, 0, none), (1, 0, none), (0, 0, none), (0, 0, none), (2, 39, none), (2, 40, none), (2, 41, none), (2, 42, none), (2, 43, none), (2, 44, none), (2, 45, none), (2, 46, none), (2, 47, none), (2, 48, none), (2, 49, none), (2, 50, none), (2, 51, none), (0, 0, none), (3, 0, none), (2, 52, none), (2, 53, none), (2, 54, none), (2, 55, none), (2, 56, none), (2, 57, none), (2, 58, none), (2, 59, none), (2, 60, none), (2, 61, none), (2, 62, none), (2, 63, none), (0, 0, none), (1, 0, none), (2, 64, none), (2, 65, none), (2, 66, none), (2, 67, none), (2, 68, none), (2, 69, none), (2, 70, none), (2, 71, none), (2, 72, none), (2, 73, none), (2, 74, none), (2, 75, none), (2, 76, none), (2, 77, none), (0, 0, none), (0, 0, none), (2, 78, none), (1, 0, none)]
  | _ => []
def zty (K : Nat) : Nat := ([0, 0, 0, 0, 0, 0, 0, 0, 0, 0, 0, 0, 0, 2, 1, 1, 2, 1, 1, 1, 1, 1, 1, 1, 1, 1, 1, 6, 1, 1, 1, 1, 1, 1, 3, 2, 5, 1, 1, 1, 2, 2, 1, 1, 1, 1, 1, 1, 1, 1, 1, 1, 1, 4, 1, 1, 1, 1, 1, 1, 1, 1, 1, 1, 1, 1, 1, 1, 1, 1, 1, 1, 1, 1, 1, 1, 1, 4, 1, 2, 7] : List Nat).getD K 0
def zlen (K : Nat) : Nat := ([0, 0, 0, 0, 0, 0, 0, 0, 0, 0, 0, 0, 0, 5, 5, 5, 7, 7, 7, 7, 7, 7, 1000, 24, 40, 40, 40, 16, 8, 8, 8, 7, 7, 7, 1000, 27, 4, 8, 1000, 6, 10, 14, 10, 10, 14, 14, 14, 14, 14, 2, 2, 2000, 7, 7, 7, 7, 7, 7, 7, 7, 7, 7, 7, 20, 6, 240, 240, 240, 5, 40, 40, 40, 24, 24, 24, 96, 384, 4, 4704, 1, 0] : List Nat).getD K 0
def zct (K : Nat) : Nat := ([2, 2, 1, 6, 5, 1, 1, 5, 22, 1, 1, 1, 1, 2, 2, 2, 2, 2, 2, 2, 2, 2, 2, 2, 6, 6, 6, 1, 5, 5, 5, 22, 22, 22, 1, 1, 1, 1, 1, 1, 1, 1, 1, 1, 1, 1, 1, 1, 1, 1, 1, 1, 1, 1, 1, 1, 1, 1, 1, 1, 1, 1, 1, 1, 1, 1, 1, 1, 1, 1, 1, 1, 1, 1, 1, 1, 1, 1, 1, 1, 0] : List Nat).getD K 0
def zkn : Nat := 81
-- kind 0: SoapTreaty$Congress, type 0, length 0, count 2
-- kind 1: SoapTreaty$Law, type 0, length 0, count 2
-- kind 2: SoapTreaty$LawReader, type 0, length 0, count 1
-- kind 3: SoapTreaty$Lines, type 0, length 0, count 6
-- kind 4: SoapTreaty$Page, type 0, length 0, count 5
-- kind 5: SoapTreaty$Past, type 0, length 0, count 1
-- kind 6: SoapTreaty$Reader, type 0, length 0, count 1
-- kind 7: SoapTreaty$Seen, type 0, length 0, count 5
-- kind 8: SoapTreaty$State, type 0, length 0, count 22
-- kind 9: SoapTreaty$Tape, type 0, length 0, count 1
-- kind 10: SoapTreaty$Tokens, type 0, length 0, count 1
-- kind 11: SoapTreaty, type 0, length 0, count 1
-- kind 12: SoapTreatyModel, type 0, length 0, count 1
-- kind 13: SoapTreaty$Congress.powerName, type 2, length 5, count 2
-- kind 14: SoapTreaty$Congress.kind, type 1, length 5, count 2
-- kind 15: SoapTreaty$Congress.water, type 1, length 5, count 2
-- kind 16: SoapTreaty$Congress.cakeName, type 2, length 7, count 2
-- kind 17: SoapTreaty$Congress.sender, type 1, length 7, count 2
-- kind 18: SoapTreaty$Congress.receiver, type 1, length 7, count 2
-- kind 19: SoapTreaty$Congress.thick, type 1, length 7, count 2
-- kind 20: SoapTreaty$Congress.hard, type 1, length 7, count 2
-- kind 21: SoapTreaty$Congress.pebble, type 1, length 7, count 2
-- kind 22: SoapTreaty$Law.steps, type 1, length 1000, count 2
-- kind 23: SoapTreaty$Law.stack, type 1, length 24, count 2
-- kind 24: SoapTreaty$Lines.act, type 1, length 40, count 6
-- kind 25: SoapTreaty$Lines.cake, type 1, length 40, count 6
-- kind 26: SoapTreaty$Lines.power, type 1, length 40, count 6
-- kind 27: SoapTreaty$Past.states, type 6, length 16, count 1
-- kind 28: SoapTreaty$Seen.cake, type 1, length 8, count 5
-- kind 29: SoapTreaty$Seen.weeks, type 1, length 8, count 5
-- kind 30: SoapTreaty$Seen.thick, type 1, length 8, count 5
-- kind 31: SoapTreaty$State.owner, type 1, length 7, count 22
-- kind 32: SoapTreaty$State.thick, type 1, length 7, count 22
-- kind 33: SoapTreaty$State.used, type 1, length 7, count 22
-- kind 34: SoapTreaty$Tape.signs, type 3, length 1000, count 1
-- kind 35: SoapTreaty$Tokens.spellings, type 2, length 27, count 1
-- kind 36: SoapTreaty.marks, type 5, length 4, count 1
-- kind 37: SoapTreaty.sightWashed, type 1, length 8, count 1
-- kind 38: SoapTreatyModel.tape, type 1, length 1000, count 1
-- kind 39: SoapTreatyModel.congress, type 1, length 6, count 1
-- kind 40: SoapTreatyModel.powerName, type 2, length 10, count 1
-- kind 41: SoapTreatyModel.cakeName, type 2, length 14, count 1
-- kind 42: SoapTreatyModel.kind, type 1, length 10, count 1
-- kind 43: SoapTreatyModel.water, type 1, length 10, count 1
-- kind 44: SoapTreatyModel.sender, type 1, length 14, count 1
-- kind 45: SoapTreatyModel.toTold, type 1, length 14, count 1
-- kind 46: SoapTreatyModel.thickTold, type 1, length 14, count 1
-- kind 47: SoapTreatyModel.hard, type 1, length 14, count 1
-- kind 48: SoapTreatyModel.pebble, type 1, length 14, count 1
-- kind 49: SoapTreatyModel.lineFrom, type 1, length 2, count 1
-- kind 50: SoapTreatyModel.lineTo, type 1, length 2, count 1
-- kind 51: SoapTreatyModel.codes, type 1, length 2000, count 1
-- kind 52: SoapTreatyModel.opened, type 1, length 7, count 1
-- kind 53: SoapTreatyModel.compared, type 4, length 7, count 1
-- kind 54: SoapTreatyModel.kept, type 1, length 7, count 1
-- kind 55: SoapTreatyModel.keptBy, type 1, length 7, count 1
-- kind 56: SoapTreatyModel.ahead, type 1, length 7, count 1
-- kind 57: SoapTreatyModel.against, type 1, length 7, count 1
-- kind 58: SoapTreatyModel.sum, type 1, length 7, count 1
-- kind 59: SoapTreatyModel.sumBy, type 1, length 7, count 1
-- kind 60: SoapTreatyModel.term, type 1, length 7, count 1
-- kind 61: SoapTreatyModel.termBy, type 1, length 7, count 1
-- kind 62: SoapTreatyModel.byNot, type 1, length 7, count 1
-- kind 63: SoapTreatyModel.valueOf, type 1, length 20, count 1
-- kind 64: SoapTreatyModel.lines, type 1, length 6, count 1
-- kind 65: SoapTreatyModel.lineWhat, type 1, length 240, count 1
-- kind 66: SoapTreatyModel.lineA, type 1, length 240, count 1
-- kind 67: SoapTreatyModel.lineB, type 1, length 240, count 1
-- kind 68: SoapTreatyModel.seens, type 1, length 5, count 1
-- kind 69: SoapTreatyModel.seenCake, type 1, length 40, count 1
-- kind 70: SoapTreatyModel.seenAt, type 1, length 40, count 1
-- kind 71: SoapTreatyModel.seenThick, type 1, length 40, count 1
-- kind 72: SoapTreatyModel.s, type 1, length 24, count 1
-- kind 73: SoapTreatyModel.aside, type 1, length 24, count 1
-- kind 74: SoapTreatyModel.before, type 1, length 24, count 1
-- kind 75: SoapTreatyModel.marked, type 1, length 96, count 1
-- kind 76: SoapTreatyModel.undone, type 1, length 384, count 1
-- kind 77: SoapTreatyModel.isLaid, type 4, length 4, count 1
-- kind 78: SoapTreatyModel.thickBy, type 1, length 4704, count 1
-- kind 79: out, type 2, length 1, count 1
-- kind 80: script, type 7, length 0, count 0
