-- names: classes, their fields, String constants, links of nest mates
def qT0 : u_T := fun k => match k with
  | 0 => ("WaverTax$Desk", "law", "LWaverTax$Law;", false)
  | 1 => ("WaverTax$Desk", "now", "LWaverTax$Now;", false)
  | 2 => ("WaverTax$Desk", "table", "I", false)
  | _ => ("WaverTax$Desk", "third", "I", false)
def qY0 : Nat → FieldType := fun k => match k with
  | 0 => .object "WaverTax$Law"
  | 1 => .object "WaverTax$Now"
  | 2 => .int
  | _ => .int
def qT1 : u_T := fun k => match k with
  | 0 => ("WaverTax$Law", "root", "I", false)
  | 1 => ("WaverTax$Law", "third", "I", false)
  | 2 => ("WaverTax$Law", "choices", "I", false)
  | 3 => ("WaverTax$Law", "people", "I", false)
  | 4 => ("WaverTax$Law", "liked", "I", false)
  | 5 => ("WaverTax$Law", "toldFar", "[[I", true)
  | 6 => ("WaverTax$Law", "sort", "[I", true)
  | 7 => ("WaverTax$Law", "first", "[I", true)
  | 8 => ("WaverTax$Law", "toldWorth", "[[I", true)
  | 9 => ("WaverTax$Law", "likes", "[I", true)
  | 10 => ("WaverTax$Law", "reasons", "LWaverTax$Reasons;", true)
  | 11 => ("WaverTax$Law", "receipts", "LWaverTax$Receipts;", true)
  | _ => ("WaverTax$Law", "shops", "LWaverTax$Shops;", true)
def qY1 : Nat → FieldType := fun k => match k with
  | 0 => .int
  | 1 => .int
  | 2 => .int
  | 3 => .int
  | 4 => .int
  | 5 => .array (.array (.int))
  | 6 => .array (.int)
  | 7 => .array (.int)
  | 8 => .array (.array (.int))
  | 9 => .array (.int)
  | 10 => .object "WaverTax$Reasons"
  | 11 => .object "WaverTax$Receipts"
  | _ => .object "WaverTax$Shops"
def qT2 : u_T := fun k => match k with
  | 0 => ("WaverTax$Now", "hour", "I", false)
  | 1 => ("WaverTax$Now", "seed", "I", false)
  | 2 => ("WaverTax$Now", "cameBits", "I", false)
  | 3 => ("WaverTax$Now", "held", "[I", true)
  | 4 => ("WaverTax$Now", "changes", "[I", true)
  | 5 => ("WaverTax$Now", "spent", "[I", true)
  | _ => ("WaverTax$Now", "latest", "[I", true)
def qY2 : Nat → FieldType := fun k => match k with
  | 0 => .int
  | 1 => .int
  | 2 => .int
  | 3 => .array (.int)
  | 4 => .array (.int)
  | 5 => .array (.int)
  | _ => .array (.int)
def qT3 : u_T := fun k => match k with
  | 0 => ("WaverTax$Past", "kept", "[LWaverTax$Now;", true)
  | 1 => ("WaverTax$Past", "marked", "[LWaverTax$Now;", true)
  | 2 => ("WaverTax$Past", "undoable", "I", false)
  | _ => ("WaverTax$Past", "marks", "I", false)
def qY3 : Nat → FieldType := fun k => match k with
  | 0 => .array (.object "WaverTax$Now")
  | 1 => .array (.object "WaverTax$Now")
  | 2 => .int
  | _ => .int
def qT4 : u_T := fun k => match k with
  | 0 => ("WaverTax$Planner", "law", "LWaverTax$Law;", false)
  | 1 => ("WaverTax$Planner", "desk", "LWaverTax$Desk;", true)
  | 2 => ("WaverTax$Planner", "trial", "LWaverTax$Now;", true)
  | _ => ("WaverTax$Planner", "one", "I", false)
def qY4 : Nat → FieldType := fun k => match k with
  | 0 => .object "WaverTax$Law"
  | 1 => .object "WaverTax$Desk"
  | 2 => .object "WaverTax$Now"
  | _ => .int
def qT5 : u_T := fun k => match k with
  | 0 => ("WaverTax$Reader", "text", "[B", true)
  | 1 => ("WaverTax$Reader", "size", "I", false)
  | 2 => ("WaverTax$Reader", "law", "LWaverTax$Law;", false)
  | 3 => ("WaverTax$Reader", "taxTold", "Z", false)
  | 4 => ("WaverTax$Reader", "token", "I", false)
  | 5 => ("WaverTax$Reader", "start", "I", false)
  | 6 => ("WaverTax$Reader", "end", "I", false)
  | 7 => ("WaverTax$Reader", "fault", "I", false)
  | 8 => ("WaverTax$Reader", "place", "I", false)
  | 9 => ("WaverTax$Reader", "names", "I", false)
  | 10 => ("WaverTax$Reader", "nameStart", "[I", true)
  | 11 => ("WaverTax$Reader", "nameEnd", "[I", true)
  | 12 => ("WaverTax$Reader", "nameSort", "[I", true)
  | _ => ("WaverTax$Reader", "nameNumber", "[I", true)
def qY5 : Nat → FieldType := fun k => match k with
  | 0 => .array (.byte)
  | 1 => .int
  | 2 => .object "WaverTax$Law"
  | 3 => .boolean
  | 4 => .int
  | 5 => .int
  | 6 => .int
  | 7 => .int
  | 8 => .int
  | 9 => .int
  | 10 => .array (.int)
  | 11 => .array (.int)
  | 12 => .array (.int)
  | _ => .array (.int)
def qT6 : u_T := fun k => match k with
  | 0 => ("WaverTax$Reasons", "count", "I", false)
  | 1 => ("WaverTax$Reasons", "person", "[I", true)
  | 2 => ("WaverTax$Reasons", "choice", "[I", true)
  | 3 => ("WaverTax$Reasons", "hour", "[I", true)
  | 4 => ("WaverTax$Reasons", "odds", "[I", true)
  | _ => ("WaverTax$Reasons", "more", "[I", true)
def qY6 : Nat → FieldType := fun k => match k with
  | 0 => .int
  | 1 => .array (.int)
  | 2 => .array (.int)
  | 3 => .array (.int)
  | 4 => .array (.int)
  | _ => .array (.int)
def qT7 : u_T := fun k => match k with
  | 0 => ("WaverTax$Receipts", "count", "I", false)
  | 1 => ("WaverTax$Receipts", "person", "[I", true)
  | 2 => ("WaverTax$Receipts", "amount", "[I", true)
  | _ => ("WaverTax$Receipts", "hour", "[I", true)
def qY7 : Nat → FieldType := fun k => match k with
  | 0 => .int
  | 1 => .array (.int)
  | 2 => .array (.int)
  | _ => .array (.int)
def qT8 : u_T := fun k => match k with
  | 0 => ("WaverTax$Rows", "law", "LWaverTax$Law;", false)
  | 1 => ("WaverTax$Rows", "desk", "LWaverTax$Desk;", true)
  | 2 => ("WaverTax$Rows", "trial", "LWaverTax$Now;", true)
  | 3 => ("WaverTax$Rows", "one", "I", false)
  | 4 => ("WaverTax$Rows", "count", "I", false)
  | 5 => ("WaverTax$Rows", "firstRow", "[I", true)
  | 6 => ("WaverTax$Rows", "leaves", "[I", true)
  | 7 => ("WaverTax$Rows", "row", "[I", true)
  | _ => ("WaverTax$Rows", "tally", "[[I", true)
def qY8 : Nat → FieldType := fun k => match k with
  | 0 => .object "WaverTax$Law"
  | 1 => .object "WaverTax$Desk"
  | 2 => .object "WaverTax$Now"
  | 3 => .int
  | 4 => .int
  | 5 => .array (.int)
  | 6 => .array (.int)
  | 7 => .array (.int)
  | _ => .array (.array (.int))
def qT9 : u_T := fun k => match k with
  | 0 => ("WaverTax$Shops", "count", "I", false)
  | 1 => ("WaverTax$Shops", "lanes", "I", false)
  | 2 => ("WaverTax$Shops", "crowd", "[I", true)
  | _ => ("WaverTax$Shops", "near", "[I", true)
def qY9 : Nat → FieldType := fun k => match k with
  | 0 => .int
  | 1 => .int
  | 2 => .array (.int)
  | _ => .array (.int)
def qT10 : u_T := fun k => match k with
  | 0 => ("WaverTax", "tape", "[B", true)
  | 1 => ("WaverTax", "taped", "I", false)
  | 2 => ("WaverTax", "law", "LWaverTax$Law;", false)
  | 3 => ("WaverTax", "spare", "LWaverTax$Law;", false)
  | 4 => ("WaverTax", "reader", "LWaverTax$Reader;", true)
  | 5 => ("WaverTax", "lawful", "Z", false)
  | 6 => ("WaverTax", "now", "LWaverTax$Now;", true)
  | 7 => ("WaverTax", "trial", "LWaverTax$Now;", true)
  | 8 => ("WaverTax", "desk", "LWaverTax$Desk;", true)
  | 9 => ("WaverTax", "planner", "LWaverTax$Planner;", true)
  | 10 => ("WaverTax", "rows", "LWaverTax$Rows;", true)
  | 11 => ("WaverTax", "past", "LWaverTax$Past;", true)
  | 12 => ("WaverTax", "trouble", "I", false)
  | 13 => ("WaverTax", "fault", "I", false)
  | _ => ("WaverTax", "place", "I", false)
def qY10 : Nat → FieldType := fun k => match k with
  | 0 => .array (.byte)
  | 1 => .int
  | 2 => .object "WaverTax$Law"
  | 3 => .object "WaverTax$Law"
  | 4 => .object "WaverTax$Reader"
  | 5 => .boolean
  | 6 => .object "WaverTax$Now"
  | 7 => .object "WaverTax$Now"
  | 8 => .object "WaverTax$Desk"
  | 9 => .object "WaverTax$Planner"
  | 10 => .object "WaverTax$Rows"
  | 11 => .object "WaverTax$Past"
  | 12 => .int
  | 13 => .int
  | _ => .int
def qT11 : u_T := fun k => match k with
  | 0 => ("WaverTaxModel$Law", "root", "I", false)
  | 1 => ("WaverTaxModel$Law", "third", "I", false)
  | 2 => ("WaverTaxModel$Law", "choices", "I", false)
  | 3 => ("WaverTaxModel$Law", "people", "I", false)
  | 4 => ("WaverTaxModel$Law", "liked", "I", false)
  | 5 => ("WaverTaxModel$Law", "reasons", "I", false)
  | 6 => ("WaverTaxModel$Law", "receipts", "I", false)
  | 7 => ("WaverTaxModel$Law", "shops", "I", false)
  | 8 => ("WaverTaxModel$Law", "lanes", "I", false)
  | 9 => ("WaverTaxModel$Law", "names", "I", false)
  | 10 => ("WaverTaxModel$Law", "far", "[I", true)
  | 11 => ("WaverTaxModel$Law", "sort", "[I", true)
  | 12 => ("WaverTaxModel$Law", "first", "[I", true)
  | 13 => ("WaverTaxModel$Law", "likes", "[I", true)
  | 14 => ("WaverTaxModel$Law", "whose", "[I", true)
  | 15 => ("WaverTaxModel$Law", "forWhat", "[I", true)
  | 16 => ("WaverTaxModel$Law", "hour", "[I", true)
  | 17 => ("WaverTaxModel$Law", "odds", "[I", true)
  | 18 => ("WaverTaxModel$Law", "more", "[I", true)
  | 19 => ("WaverTaxModel$Law", "payer", "[I", true)
  | 20 => ("WaverTaxModel$Law", "sum", "[I", true)
  | 21 => ("WaverTaxModel$Law", "paidAt", "[I", true)
  | 22 => ("WaverTaxModel$Law", "crowd", "[I", true)
  | 23 => ("WaverTaxModel$Law", "lane", "[I", true)
  | 24 => ("WaverTaxModel$Law", "name", "[J", true)
  | 25 => ("WaverTaxModel$Law", "nameSort", "[I", true)
  | _ => ("WaverTaxModel$Law", "numberOf", "[I", true)
def qY11 : Nat → FieldType := fun k => match k with
  | 0 => .int
  | 1 => .int
  | 2 => .int
  | 3 => .int
  | 4 => .int
  | 5 => .int
  | 6 => .int
  | 7 => .int
  | 8 => .int
  | 9 => .int
  | 10 => .array (.int)
  | 11 => .array (.int)
  | 12 => .array (.int)
  | 13 => .array (.int)
  | 14 => .array (.int)
  | 15 => .array (.int)
  | 16 => .array (.int)
  | 17 => .array (.int)
  | 18 => .array (.int)
  | 19 => .array (.int)
  | 20 => .array (.int)
  | 21 => .array (.int)
  | 22 => .array (.int)
  | 23 => .array (.int)
  | 24 => .array (.long)
  | 25 => .array (.int)
  | _ => .array (.int)
def qT12 : u_T := fun k => match k with
  | 0 => ("WaverTaxModel", "thrown", "I", false)
  | 1 => ("WaverTaxModel", "trouble", "I", false)
  | 2 => ("WaverTaxModel", "where", "I", false)
  | 3 => ("WaverTaxModel", "law", "LWaverTaxModel$Law;", false)
  | 4 => ("WaverTaxModel", "read", "LWaverTaxModel$Law;", false)
  | 5 => ("WaverTaxModel", "tape", "[B", true)
  | 6 => ("WaverTaxModel", "taped", "I", false)
  | 7 => ("WaverTaxModel", "size", "I", false)
  | 8 => ("WaverTaxModel", "spot", "I", false)
  | 9 => ("WaverTaxModel", "sort", "I", false)
  | 10 => ("WaverTaxModel", "place", "I", false)
  | 11 => ("WaverTaxModel", "number", "I", false)
  | 12 => ("WaverTaxModel", "fault", "I", false)
  | 13 => ("WaverTaxModel", "wrongAt", "I", false)
  | 14 => ("WaverTaxModel", "word", "J", false)
  | 15 => ("WaverTaxModel", "v", "[I", true)
  | 16 => ("WaverTaxModel", "x", "[I", true)
  | 17 => ("WaverTaxModel", "past", "[I", true)
  | 18 => ("WaverTaxModel", "kept", "[I", true)
  | 19 => ("WaverTaxModel", "acts", "I", false)
  | 20 => ("WaverTaxModel", "marks", "I", false)
  | 21 => ("WaverTaxModel", "table", "I", false)
  | 22 => ("WaverTaxModel", "thirdNow", "I", false)
  | 23 => ("WaverTaxModel", "least", "[J", true)
  | 24 => ("WaverTaxModel", "planned", "I", false)
  | 25 => ("WaverTaxModel", "row", "[I", true)
  | 26 => ("WaverTaxModel", "firstRow", "[I", true)
  | 27 => ("WaverTaxModel", "counts", "[I", true)
  | 28 => ("WaverTaxModel", "rowsNow", "I", false)
  | 29 => ("WaverTaxModel", "askLeft", "I", false)
  | 30 => ("WaverTaxModel", "yearSum", "I", false)
  | _ => ("WaverTaxModel", "yearTurns", "I", false)
def qY12 : Nat → FieldType := fun k => match k with
  | 0 => .int
  | 1 => .int
  | 2 => .int
  | 3 => .object "WaverTaxModel$Law"
  | 4 => .object "WaverTaxModel$Law"
  | 5 => .array (.byte)
  | 6 => .int
  | 7 => .int
  | 8 => .int
  | 9 => .int
  | 10 => .int
  | 11 => .int
  | 12 => .int
  | 13 => .int
  | 14 => .long
  | 15 => .array (.int)
  | 16 => .array (.int)
  | 17 => .array (.int)
  | 18 => .array (.int)
  | 19 => .int
  | 20 => .int
  | 21 => .int
  | 22 => .int
  | 23 => .array (.long)
  | 24 => .int
  | 25 => .array (.int)
  | 26 => .array (.int)
  | 27 => .array (.int)
  | 28 => .int
  | 29 => .int
  | 30 => .int
  | _ => .int
def pj_cls : List vw_C := [("WaverTax$Desk", qT0, 4), ("WaverTax$Law", qT1, 13), ("WaverTax$Now", qT2, 7), ("WaverTax$Past", qT3, 4), ("WaverTax$Planner", qT4, 4), ("WaverTax$Reader", qT5, 14), ("WaverTax$Reasons", qT6, 6), ("WaverTax$Receipts", qT7, 4), ("WaverTax$Rows", qT8, 9), ("WaverTax$Shops", qT9, 4), ("WaverTax", qT10, 15), ("WaverTaxModel$Law", qT11, 27), ("WaverTaxModel", qT12, 32)]
abbrev PV : Type := Int32 ⊕ (Int64 ⊕ Option Nat)
def pj_new : Nat → List PV := fun c => match c with
  | 0 => [.inr (.inr none), .inr (.inr none), .inl 0, .inl 0]
  | 1 => [.inl 0, .inl 0, .inl 0, .inl 0, .inl 0, .inr (.inr none), .inr (.inr none), .inr (.inr none), .inr (.inr none), .inr (.inr none), .inr (.inr none), .inr (.inr none), .inr (.inr none)]
  | 2 => [.inl 0, .inl 0, .inl 0, .inr (.inr none), .inr (.inr none), .inr (.inr none), .inr (.inr none)]
  | 3 => [.inr (.inr none), .inr (.inr none), .inl 0, .inl 0]
  | 4 => [.inr (.inr none), .inr (.inr none), .inr (.inr none), .inl 0]
  | 5 => [.inr (.inr none), .inl 0, .inr (.inr none), .inl 0, .inl 0, .inl 0, .inl 0, .inl 0, .inl 0, .inl 0, .inr (.inr none), .inr (.inr none), .inr (.inr none), .inr (.inr none)]
  | 6 => [.inl 0, .inr (.inr none), .inr (.inr none), .inr (.inr none), .inr (.inr none), .inr (.inr none)]
  | 7 => [.inl 0, .inr (.inr none), .inr (.inr none), .inr (.inr none)]
  | 8 => [.inr (.inr none), .inr (.inr none), .inr (.inr none), .inl 0, .inl 0, .inr (.inr none), .inr (.inr none), .inr (.inr none), .inr (.inr none)]
  | 9 => [.inl 0, .inl 0, .inr (.inr none), .inr (.inr none)]
  | 10 => [.inr (.inr none), .inl 0, .inr (.inr none), .inr (.inr none), .inr (.inr none), .inl 0, .inr (.inr none), .inr (.inr none), .inr (.inr none), .inr (.inr none), .inr (.inr none), .inr (.inr none), .inl 0, .inl 0, .inl 0]
  | 11 => [.inl 0, .inl 0, .inl 0, .inl 0, .inl 0, .inl 0, .inl 0, .inl 0, .inl 0, .inl 0, .inr (.inr none), .inr (.inr none), .inr (.inr none), .inr (.inr none), .inr (.inr none), .inr (.inr none), .inr (.inr none), .inr (.inr none), .inr (.inr none), .inr (.inr none), .inr (.inr none), .inr (.inr none), .inr (.inr none), .inr (.inr none), .inr (.inr none), .inr (.inr none), .inr (.inr none)]
  | _ => [.inl 0, .inl 0, .inl 0, .inr (.inr none), .inr (.inr none), .inr (.inr none), .inl 0, .inl 0, .inl 0, .inl 0, .inl 0, .inl 0, .inl 0, .inl 0, .inr (.inl 0), .inr (.inr none), .inr (.inr none), .inr (.inr none), .inr (.inr none), .inl 0, .inl 0, .inl 0, .inl 0, .inr (.inr none), .inl 0, .inr (.inr none), .inr (.inr none), .inr (.inr none), .inl 0, .inl 0, .inl 0, .inl 0]
theorem qn0 : ∀ a, a < 4 → ∀ b, b < 4 → a ≠ b → (qT0 a).2.1 ≠ (qT0 b).2.1 := by decide +kernel
theorem qy0 : ∀ k, k < 4 → parseFieldDescriptor (qT0 k).2.2.1 = some (qY0 k) := by decide +kernel
theorem qn1 : ∀ a, a < 13 → ∀ b, b < 13 → a ≠ b → (qT1 a).2.1 ≠ (qT1 b).2.1 := by decide +kernel
theorem qy1 : ∀ k, k < 13 → parseFieldDescriptor (qT1 k).2.2.1 = some (qY1 k) := by decide +kernel
theorem qn2 : ∀ a, a < 7 → ∀ b, b < 7 → a ≠ b → (qT2 a).2.1 ≠ (qT2 b).2.1 := by decide +kernel
theorem qy2 : ∀ k, k < 7 → parseFieldDescriptor (qT2 k).2.2.1 = some (qY2 k) := by decide +kernel
theorem qn3 : ∀ a, a < 4 → ∀ b, b < 4 → a ≠ b → (qT3 a).2.1 ≠ (qT3 b).2.1 := by decide +kernel
theorem qy3 : ∀ k, k < 4 → parseFieldDescriptor (qT3 k).2.2.1 = some (qY3 k) := by decide +kernel
theorem qn4 : ∀ a, a < 4 → ∀ b, b < 4 → a ≠ b → (qT4 a).2.1 ≠ (qT4 b).2.1 := by decide +kernel
theorem qy4 : ∀ k, k < 4 → parseFieldDescriptor (qT4 k).2.2.1 = some (qY4 k) := by decide +kernel
theorem qn5 : ∀ a, a < 14 → ∀ b, b < 14 → a ≠ b → (qT5 a).2.1 ≠ (qT5 b).2.1 := by decide +kernel
theorem qy5 : ∀ k, k < 14 → parseFieldDescriptor (qT5 k).2.2.1 = some (qY5 k) := by decide +kernel
theorem qn6 : ∀ a, a < 6 → ∀ b, b < 6 → a ≠ b → (qT6 a).2.1 ≠ (qT6 b).2.1 := by decide +kernel
theorem qy6 : ∀ k, k < 6 → parseFieldDescriptor (qT6 k).2.2.1 = some (qY6 k) := by decide +kernel
theorem qn7 : ∀ a, a < 4 → ∀ b, b < 4 → a ≠ b → (qT7 a).2.1 ≠ (qT7 b).2.1 := by decide +kernel
theorem qy7 : ∀ k, k < 4 → parseFieldDescriptor (qT7 k).2.2.1 = some (qY7 k) := by decide +kernel
theorem qn8 : ∀ a, a < 9 → ∀ b, b < 9 → a ≠ b → (qT8 a).2.1 ≠ (qT8 b).2.1 := by decide +kernel
theorem qy8 : ∀ k, k < 9 → parseFieldDescriptor (qT8 k).2.2.1 = some (qY8 k) := by decide +kernel
theorem qn9 : ∀ a, a < 4 → ∀ b, b < 4 → a ≠ b → (qT9 a).2.1 ≠ (qT9 b).2.1 := by decide +kernel
theorem qy9 : ∀ k, k < 4 → parseFieldDescriptor (qT9 k).2.2.1 = some (qY9 k) := by decide +kernel
theorem qn10 : ∀ a, a < 15 → ∀ b, b < 15 → a ≠ b → (qT10 a).2.1 ≠ (qT10 b).2.1 := by decide +kernel
theorem qy10 : ∀ k, k < 15 → parseFieldDescriptor (qT10 k).2.2.1 = some (qY10 k) := by decide +kernel
theorem qn11 : ∀ a, a < 27 → ∀ b, b < 27 → a ≠ b → (qT11 a).2.1 ≠ (qT11 b).2.1 := by decide +kernel
theorem qy11 : ∀ k, k < 27 → parseFieldDescriptor (qT11 k).2.2.1 = some (qY11 k) := by decide +kernel
theorem qn12 : ∀ a, a < 32 → ∀ b, b < 32 → a ≠ b → (qT12 a).2.1 ≠ (qT12 b).2.1 := by decide +kernel
theorem qy12 : ∀ k, k < 32 → parseFieldDescriptor (qT12 k).2.2.1 = some (qY12 k) := by decide +kernel
def pj_ws : List Cond := lw_tbl.filter goodWord
theorem pj_mem {w : Cond} (i : Nat) (h : lw_tbl[i]? = some w) (hg : goodWord w = true) : w ∈ pj_ws := List.mem_filter.mpr ⟨List.mem_of_getElem? h, hg⟩
theorem pj_good : ∀ w ∈ pj_ws, w ∈ pj_ws ∧ ((w.onTables && w.keeps) = true ∨ ∃ ty, w = .arrayClass ty) := fun w h => ⟨h, good_of_word (List.mem_filter.mp h).2⟩
theorem ql0 : ∀ w ∈ u_ws "WaverTax$Desk" qT0 4, w ∈ pj_ws := by
  show ∀ w ∈ [u_lay "WaverTax$Desk" qT0 0, u_lay "WaverTax$Desk" qT0 1, u_lay "WaverTax$Desk" qT0 2, u_lay "WaverTax$Desk" qT0 3], w ∈ pj_ws
  exact List.forall_mem_cons.mpr ⟨pj_mem 460 (by decide +kernel) rfl, List.forall_mem_cons.mpr ⟨pj_mem 462 (by decide +kernel) rfl, List.forall_mem_cons.mpr ⟨pj_mem 464 (by decide +kernel) rfl, List.forall_mem_cons.mpr ⟨pj_mem 466 (by decide +kernel) rfl, fun _ h => absurd h List.not_mem_nil⟩⟩⟩⟩
theorem ql1 : ∀ w ∈ u_ws "WaverTax$Law" qT1 13, w ∈ pj_ws := by
  show ∀ w ∈ [u_lay "WaverTax$Law" qT1 0, u_lay "WaverTax$Law" qT1 1, u_lay "WaverTax$Law" qT1 2, u_lay "WaverTax$Law" qT1 3, u_lay "WaverTax$Law" qT1 4, u_lay "WaverTax$Law" qT1 5, u_lay "WaverTax$Law" qT1 6, u_lay "WaverTax$Law" qT1 7, u_lay "WaverTax$Law" qT1 8, u_lay "WaverTax$Law" qT1 9, u_lay "WaverTax$Law" qT1 10, u_lay "WaverTax$Law" qT1 11, u_lay "WaverTax$Law" qT1 12], w ∈ pj_ws
  exact List.forall_mem_cons.mpr ⟨pj_mem 324 (by decide +kernel) rfl, List.forall_mem_cons.mpr ⟨pj_mem 326 (by decide +kernel) rfl, List.forall_mem_cons.mpr ⟨pj_mem 328 (by decide +kernel) rfl, List.forall_mem_cons.mpr ⟨pj_mem 330 (by decide +kernel) rfl, List.forall_mem_cons.mpr ⟨pj_mem 332 (by decide +kernel) rfl, List.forall_mem_cons.mpr ⟨pj_mem 334 (by decide +kernel) rfl, List.forall_mem_cons.mpr ⟨pj_mem 336 (by decide +kernel) rfl, List.forall_mem_cons.mpr ⟨pj_mem 338 (by decide +kernel) rfl, List.forall_mem_cons.mpr ⟨pj_mem 340 (by decide +kernel) rfl, List.forall_mem_cons.mpr ⟨pj_mem 342 (by decide +kernel) rfl, List.forall_mem_cons.mpr ⟨pj_mem 344 (by decide +kernel) rfl, List.forall_mem_cons.mpr ⟨pj_mem 346 (by decide +kernel) rfl, List.forall_mem_cons.mpr ⟨pj_mem 348 (by decide +kernel) rfl, fun _ h => absurd h List.not_mem_nil⟩⟩⟩⟩⟩⟩⟩⟩⟩⟩⟩⟩⟩
theorem ql2 : ∀ w ∈ u_ws "WaverTax$Now" qT2 7, w ∈ pj_ws := by
  show ∀ w ∈ [u_lay "WaverTax$Now" qT2 0, u_lay "WaverTax$Now" qT2 1, u_lay "WaverTax$Now" qT2 2, u_lay "WaverTax$Now" qT2 3, u_lay "WaverTax$Now" qT2 4, u_lay "WaverTax$Now" qT2 5, u_lay "WaverTax$Now" qT2 6], w ∈ pj_ws
  exact List.forall_mem_cons.mpr ⟨pj_mem 433 (by decide +kernel) rfl, List.forall_mem_cons.mpr ⟨pj_mem 435 (by decide +kernel) rfl, List.forall_mem_cons.mpr ⟨pj_mem 437 (by decide +kernel) rfl, List.forall_mem_cons.mpr ⟨pj_mem 439 (by decide +kernel) rfl, List.forall_mem_cons.mpr ⟨pj_mem 441 (by decide +kernel) rfl, List.forall_mem_cons.mpr ⟨pj_mem 443 (by decide +kernel) rfl, List.forall_mem_cons.mpr ⟨pj_mem 445 (by decide +kernel) rfl, fun _ h => absurd h List.not_mem_nil⟩⟩⟩⟩⟩⟩⟩
theorem ql3 : ∀ w ∈ u_ws "WaverTax$Past" qT3 4, w ∈ pj_ws := by
  show ∀ w ∈ [u_lay "WaverTax$Past" qT3 0, u_lay "WaverTax$Past" qT3 1, u_lay "WaverTax$Past" qT3 2, u_lay "WaverTax$Past" qT3 3], w ∈ pj_ws
  exact List.forall_mem_cons.mpr ⟨pj_mem 541 (by decide +kernel) rfl, List.forall_mem_cons.mpr ⟨pj_mem 543 (by decide +kernel) rfl, List.forall_mem_cons.mpr ⟨pj_mem 545 (by decide +kernel) rfl, List.forall_mem_cons.mpr ⟨pj_mem 547 (by decide +kernel) rfl, fun _ h => absurd h List.not_mem_nil⟩⟩⟩⟩
theorem ql4 : ∀ w ∈ u_ws "WaverTax$Planner" qT4 4, w ∈ pj_ws := by
  show ∀ w ∈ [u_lay "WaverTax$Planner" qT4 0, u_lay "WaverTax$Planner" qT4 1, u_lay "WaverTax$Planner" qT4 2, u_lay "WaverTax$Planner" qT4 3], w ∈ pj_ws
  exact List.forall_mem_cons.mpr ⟨pj_mem 479 (by decide +kernel) rfl, List.forall_mem_cons.mpr ⟨pj_mem 481 (by decide +kernel) rfl, List.forall_mem_cons.mpr ⟨pj_mem 483 (by decide +kernel) rfl, List.forall_mem_cons.mpr ⟨pj_mem 485 (by decide +kernel) rfl, fun _ h => absurd h List.not_mem_nil⟩⟩⟩⟩
theorem ql5 : ∀ w ∈ u_ws "WaverTax$Reader" qT5 14, w ∈ pj_ws := by
  show ∀ w ∈ [u_lay "WaverTax$Reader" qT5 0, u_lay "WaverTax$Reader" qT5 1, u_lay "WaverTax$Reader" qT5 2, u_lay "WaverTax$Reader" qT5 3, u_lay "WaverTax$Reader" qT5 4, u_lay "WaverTax$Reader" qT5 5, u_lay "WaverTax$Reader" qT5 6, u_lay "WaverTax$Reader" qT5 7, u_lay "WaverTax$Reader" qT5 8, u_lay "WaverTax$Reader" qT5 9, u_lay "WaverTax$Reader" qT5 10, u_lay "WaverTax$Reader" qT5 11, u_lay "WaverTax$Reader" qT5 12, u_lay "WaverTax$Reader" qT5 13], w ∈ pj_ws
  exact List.forall_mem_cons.mpr ⟨pj_mem 372 (by decide +kernel) rfl, List.forall_mem_cons.mpr ⟨pj_mem 374 (by decide +kernel) rfl, List.forall_mem_cons.mpr ⟨pj_mem 376 (by decide +kernel) rfl, List.forall_mem_cons.mpr ⟨pj_mem 378 (by decide +kernel) rfl, List.forall_mem_cons.mpr ⟨pj_mem 380 (by decide +kernel) rfl, List.forall_mem_cons.mpr ⟨pj_mem 382 (by decide +kernel) rfl, List.forall_mem_cons.mpr ⟨pj_mem 384 (by decide +kernel) rfl, List.forall_mem_cons.mpr ⟨pj_mem 386 (by decide +kernel) rfl, List.forall_mem_cons.mpr ⟨pj_mem 388 (by decide +kernel) rfl, List.forall_mem_cons.mpr ⟨pj_mem 390 (by decide +kernel) rfl, List.forall_mem_cons.mpr ⟨pj_mem 392 (by decide +kernel) rfl, List.forall_mem_cons.mpr ⟨pj_mem 394 (by decide +kernel) rfl, List.forall_mem_cons.mpr ⟨pj_mem 396 (by decide +kernel) rfl, List.forall_mem_cons.mpr ⟨pj_mem 398 (by decide +kernel) rfl, fun _ h => absurd h List.not_mem_nil⟩⟩⟩⟩⟩⟩⟩⟩⟩⟩⟩⟩⟩⟩
theorem ql6 : ∀ w ∈ u_ws "WaverTax$Reasons" qT6 6, w ∈ pj_ws := by
  show ∀ w ∈ [u_lay "WaverTax$Reasons" qT6 0, u_lay "WaverTax$Reasons" qT6 1, u_lay "WaverTax$Reasons" qT6 2, u_lay "WaverTax$Reasons" qT6 3, u_lay "WaverTax$Reasons" qT6 4, u_lay "WaverTax$Reasons" qT6 5], w ∈ pj_ws
  exact List.forall_mem_cons.mpr ⟨pj_mem 204 (by decide +kernel) rfl, List.forall_mem_cons.mpr ⟨pj_mem 206 (by decide +kernel) rfl, List.forall_mem_cons.mpr ⟨pj_mem 208 (by decide +kernel) rfl, List.forall_mem_cons.mpr ⟨pj_mem 210 (by decide +kernel) rfl, List.forall_mem_cons.mpr ⟨pj_mem 212 (by decide +kernel) rfl, List.forall_mem_cons.mpr ⟨pj_mem 214 (by decide +kernel) rfl, fun _ h => absurd h List.not_mem_nil⟩⟩⟩⟩⟩⟩
theorem ql7 : ∀ w ∈ u_ws "WaverTax$Receipts" qT7 4, w ∈ pj_ws := by
  show ∀ w ∈ [u_lay "WaverTax$Receipts" qT7 0, u_lay "WaverTax$Receipts" qT7 1, u_lay "WaverTax$Receipts" qT7 2, u_lay "WaverTax$Receipts" qT7 3], w ∈ pj_ws
  exact List.forall_mem_cons.mpr ⟨pj_mem 240 (by decide +kernel) rfl, List.forall_mem_cons.mpr ⟨pj_mem 242 (by decide +kernel) rfl, List.forall_mem_cons.mpr ⟨pj_mem 244 (by decide +kernel) rfl, List.forall_mem_cons.mpr ⟨pj_mem 246 (by decide +kernel) rfl, fun _ h => absurd h List.not_mem_nil⟩⟩⟩⟩
theorem ql8 : ∀ w ∈ u_ws "WaverTax$Rows" qT8 9, w ∈ pj_ws := by
  show ∀ w ∈ [u_lay "WaverTax$Rows" qT8 0, u_lay "WaverTax$Rows" qT8 1, u_lay "WaverTax$Rows" qT8 2, u_lay "WaverTax$Rows" qT8 3, u_lay "WaverTax$Rows" qT8 4, u_lay "WaverTax$Rows" qT8 5, u_lay "WaverTax$Rows" qT8 6, u_lay "WaverTax$Rows" qT8 7, u_lay "WaverTax$Rows" qT8 8], w ∈ pj_ws
  exact List.forall_mem_cons.mpr ⟨pj_mem 507 (by decide +kernel) rfl, List.forall_mem_cons.mpr ⟨pj_mem 509 (by decide +kernel) rfl, List.forall_mem_cons.mpr ⟨pj_mem 511 (by decide +kernel) rfl, List.forall_mem_cons.mpr ⟨pj_mem 513 (by decide +kernel) rfl, List.forall_mem_cons.mpr ⟨pj_mem 515 (by decide +kernel) rfl, List.forall_mem_cons.mpr ⟨pj_mem 517 (by decide +kernel) rfl, List.forall_mem_cons.mpr ⟨pj_mem 519 (by decide +kernel) rfl, List.forall_mem_cons.mpr ⟨pj_mem 521 (by decide +kernel) rfl, List.forall_mem_cons.mpr ⟨pj_mem 523 (by decide +kernel) rfl, fun _ h => absurd h List.not_mem_nil⟩⟩⟩⟩⟩⟩⟩⟩⟩
theorem ql9 : ∀ w ∈ u_ws "WaverTax$Shops" qT9 4, w ∈ pj_ws := by
  show ∀ w ∈ [u_lay "WaverTax$Shops" qT9 0, u_lay "WaverTax$Shops" qT9 1, u_lay "WaverTax$Shops" qT9 2, u_lay "WaverTax$Shops" qT9 3], w ∈ pj_ws
  exact List.forall_mem_cons.mpr ⟨pj_mem 265 (by decide +kernel) rfl, List.forall_mem_cons.mpr ⟨pj_mem 267 (by decide +kernel) rfl, List.forall_mem_cons.mpr ⟨pj_mem 269 (by decide +kernel) rfl, List.forall_mem_cons.mpr ⟨pj_mem 271 (by decide +kernel) rfl, fun _ h => absurd h List.not_mem_nil⟩⟩⟩⟩
theorem ql10 : ∀ w ∈ u_ws "WaverTax" qT10 15, w ∈ pj_ws := by
  show ∀ w ∈ [u_lay "WaverTax" qT10 0, u_lay "WaverTax" qT10 1, u_lay "WaverTax" qT10 2, u_lay "WaverTax" qT10 3, u_lay "WaverTax" qT10 4, u_lay "WaverTax" qT10 5, u_lay "WaverTax" qT10 6, u_lay "WaverTax" qT10 7, u_lay "WaverTax" qT10 8, u_lay "WaverTax" qT10 9, u_lay "WaverTax" qT10 10, u_lay "WaverTax" qT10 11, u_lay "WaverTax" qT10 12, u_lay "WaverTax" qT10 13, u_lay "WaverTax" qT10 14], w ∈ pj_ws
  exact List.forall_mem_cons.mpr ⟨pj_mem 565 (by decide +kernel) rfl, List.forall_mem_cons.mpr ⟨pj_mem 567 (by decide +kernel) rfl, List.forall_mem_cons.mpr ⟨pj_mem 569 (by decide +kernel) rfl, List.forall_mem_cons.mpr ⟨pj_mem 571 (by decide +kernel) rfl, List.forall_mem_cons.mpr ⟨pj_mem 573 (by decide +kernel) rfl, List.forall_mem_cons.mpr ⟨pj_mem 575 (by decide +kernel) rfl, List.forall_mem_cons.mpr ⟨pj_mem 577 (by decide +kernel) rfl, List.forall_mem_cons.mpr ⟨pj_mem 579 (by decide +kernel) rfl, List.forall_mem_cons.mpr ⟨pj_mem 581 (by decide +kernel) rfl, List.forall_mem_cons.mpr ⟨pj_mem 583 (by decide +kernel) rfl, List.forall_mem_cons.mpr ⟨pj_mem 585 (by decide +kernel) rfl, List.forall_mem_cons.mpr ⟨pj_mem 587 (by decide +kernel) rfl, List.forall_mem_cons.mpr ⟨pj_mem 589 (by decide +kernel) rfl, List.forall_mem_cons.mpr ⟨pj_mem 591 (by decide +kernel) rfl, List.forall_mem_cons.mpr ⟨pj_mem 593 (by decide +kernel) rfl, fun _ h => absurd h List.not_mem_nil⟩⟩⟩⟩⟩⟩⟩⟩⟩⟩⟩⟩⟩⟩⟩
theorem ql11 : ∀ w ∈ u_ws "WaverTaxModel$Law" qT11 27, w ∈ pj_ws := by
  show ∀ w ∈ [u_lay "WaverTaxModel$Law" qT11 0, u_lay "WaverTaxModel$Law" qT11 1, u_lay "WaverTaxModel$Law" qT11 2, u_lay "WaverTaxModel$Law" qT11 3, u_lay "WaverTaxModel$Law" qT11 4, u_lay "WaverTaxModel$Law" qT11 5, u_lay "WaverTaxModel$Law" qT11 6, u_lay "WaverTaxModel$Law" qT11 7, u_lay "WaverTaxModel$Law" qT11 8, u_lay "WaverTaxModel$Law" qT11 9, u_lay "WaverTaxModel$Law" qT11 10, u_lay "WaverTaxModel$Law" qT11 11, u_lay "WaverTaxModel$Law" qT11 12, u_lay "WaverTaxModel$Law" qT11 13, u_lay "WaverTaxModel$Law" qT11 14, u_lay "WaverTaxModel$Law" qT11 15, u_lay "WaverTaxModel$Law" qT11 16, u_lay "WaverTaxModel$Law" qT11 17, u_lay "WaverTaxModel$Law" qT11 18, u_lay "WaverTaxModel$Law" qT11 19, u_lay "WaverTaxModel$Law" qT11 20, u_lay "WaverTaxModel$Law" qT11 21, u_lay "WaverTaxModel$Law" qT11 22, u_lay "WaverTaxModel$Law" qT11 23, u_lay "WaverTaxModel$Law" qT11 24, u_lay "WaverTaxModel$Law" qT11 25, u_lay "WaverTaxModel$Law" qT11 26], w ∈ pj_ws
  exact List.forall_mem_cons.mpr ⟨pj_mem 1554 (by decide +kernel) rfl, List.forall_mem_cons.mpr ⟨pj_mem 1556 (by decide +kernel) rfl, List.forall_mem_cons.mpr ⟨pj_mem 1558 (by decide +kernel) rfl, List.forall_mem_cons.mpr ⟨pj_mem 1560 (by decide +kernel) rfl, List.forall_mem_cons.mpr ⟨pj_mem 1562 (by decide +kernel) rfl, List.forall_mem_cons.mpr ⟨pj_mem 1564 (by decide +kernel) rfl, List.forall_mem_cons.mpr ⟨pj_mem 1566 (by decide +kernel) rfl, List.forall_mem_cons.mpr ⟨pj_mem 1568 (by decide +kernel) rfl, List.forall_mem_cons.mpr ⟨pj_mem 1570 (by decide +kernel) rfl, List.forall_mem_cons.mpr ⟨pj_mem 1572 (by decide +kernel) rfl, List.forall_mem_cons.mpr ⟨pj_mem 1574 (by decide +kernel) rfl, List.forall_mem_cons.mpr ⟨pj_mem 1576 (by decide +kernel) rfl, List.forall_mem_cons.mpr ⟨pj_mem 1578 (by decide +kernel) rfl, List.forall_mem_cons.mpr ⟨pj_mem 1580 (by decide +kernel) rfl, List.forall_mem_cons.mpr ⟨pj_mem 1582 (by decide +kernel) rfl, List.forall_mem_cons.mpr ⟨pj_mem 1584 (by decide +kernel) rfl, List.forall_mem_cons.mpr ⟨pj_mem 1586 (by decide +kernel) rfl, List.forall_mem_cons.mpr ⟨pj_mem 1588 (by decide +kernel) rfl, List.forall_mem_cons.mpr ⟨pj_mem 1590 (by decide +kernel) rfl, List.forall_mem_cons.mpr ⟨pj_mem 1592 (by decide +kernel) rfl, List.forall_mem_cons.mpr ⟨pj_mem 1594 (by decide +kernel) rfl, List.forall_mem_cons.mpr ⟨pj_mem 1596 (by decide +kernel) rfl, List.forall_mem_cons.mpr ⟨pj_mem 1598 (by decide +kernel) rfl, List.forall_mem_cons.mpr ⟨pj_mem 1600 (by decide +kernel) rfl, List.forall_mem_cons.mpr ⟨pj_mem 1602 (by decide +kernel) rfl, List.forall_mem_cons.mpr ⟨pj_mem 1604 (by decide +kernel) rfl, List.forall_mem_cons.mpr ⟨pj_mem 1606 (by decide +kernel) rfl, fun _ h => absurd h List.not_mem_nil⟩⟩⟩⟩⟩⟩⟩⟩⟩⟩⟩⟩⟩⟩⟩⟩⟩⟩⟩⟩⟩⟩⟩⟩⟩⟩⟩
theorem ql12 : ∀ w ∈ u_ws "WaverTaxModel" qT12 32, w ∈ pj_ws := by
  show ∀ w ∈ [u_lay "WaverTaxModel" qT12 0, u_lay "WaverTaxModel" qT12 1, u_lay "WaverTaxModel" qT12 2, u_lay "WaverTaxModel" qT12 3, u_lay "WaverTaxModel" qT12 4, u_lay "WaverTaxModel" qT12 5, u_lay "WaverTaxModel" qT12 6, u_lay "WaverTaxModel" qT12 7, u_lay "WaverTaxModel" qT12 8, u_lay "WaverTaxModel" qT12 9, u_lay "WaverTaxModel" qT12 10, u_lay "WaverTaxModel" qT12 11, u_lay "WaverTaxModel" qT12 12, u_lay "WaverTaxModel" qT12 13, u_lay "WaverTaxModel" qT12 14, u_lay "WaverTaxModel" qT12 15, u_lay "WaverTaxModel" qT12 16, u_lay "WaverTaxModel" qT12 17, u_lay "WaverTaxModel" qT12 18, u_lay "WaverTaxModel" qT12 19, u_lay "WaverTaxModel" qT12 20, u_lay "WaverTaxModel" qT12 21, u_lay "WaverTaxModel" qT12 22, u_lay "WaverTaxModel" qT12 23, u_lay "WaverTaxModel" qT12 24, u_lay "WaverTaxModel" qT12 25, u_lay "WaverTaxModel" qT12 26, u_lay "WaverTaxModel" qT12 27, u_lay "WaverTaxModel" qT12 28, u_lay "WaverTaxModel" qT12 29, u_lay "WaverTaxModel" qT12 30, u_lay "WaverTaxModel" qT12 31], w ∈ pj_ws
  exact List.forall_mem_cons.mpr ⟨pj_mem 1419 (by decide +kernel) rfl, List.forall_mem_cons.mpr ⟨pj_mem 1421 (by decide +kernel) rfl, List.forall_mem_cons.mpr ⟨pj_mem 1423 (by decide +kernel) rfl, List.forall_mem_cons.mpr ⟨pj_mem 1425 (by decide +kernel) rfl, List.forall_mem_cons.mpr ⟨pj_mem 1427 (by decide +kernel) rfl, List.forall_mem_cons.mpr ⟨pj_mem 1429 (by decide +kernel) rfl, List.forall_mem_cons.mpr ⟨pj_mem 1431 (by decide +kernel) rfl, List.forall_mem_cons.mpr ⟨pj_mem 1433 (by decide +kernel) rfl, List.forall_mem_cons.mpr ⟨pj_mem 1435 (by decide +kernel) rfl, List.forall_mem_cons.mpr ⟨pj_mem 1437 (by decide +kernel) rfl, List.forall_mem_cons.mpr ⟨pj_mem 1439 (by decide +kernel) rfl, List.forall_mem_cons.mpr ⟨pj_mem 1441 (by decide +kernel) rfl, List.forall_mem_cons.mpr ⟨pj_mem 1443 (by decide +kernel) rfl, List.forall_mem_cons.mpr ⟨pj_mem 1445 (by decide +kernel) rfl, List.forall_mem_cons.mpr ⟨pj_mem 1447 (by decide +kernel) rfl, List.forall_mem_cons.mpr ⟨pj_mem 1449 (by decide +kernel) rfl, List.forall_mem_cons.mpr ⟨pj_mem 1451 (by decide +kernel) rfl, List.forall_mem_cons.mpr ⟨pj_mem 1453 (by decide +kernel) rfl, List.forall_mem_cons.mpr ⟨pj_mem 1455 (by decide +kernel) rfl, List.forall_mem_cons.mpr ⟨pj_mem 1457 (by decide +kernel) rfl, List.forall_mem_cons.mpr ⟨pj_mem 1459 (by decide +kernel) rfl, List.forall_mem_cons.mpr ⟨pj_mem 1461 (by decide +kernel) rfl, List.forall_mem_cons.mpr ⟨pj_mem 1463 (by decide +kernel) rfl, List.forall_mem_cons.mpr ⟨pj_mem 1465 (by decide +kernel) rfl, List.forall_mem_cons.mpr ⟨pj_mem 1467 (by decide +kernel) rfl, List.forall_mem_cons.mpr ⟨pj_mem 1469 (by decide +kernel) rfl, List.forall_mem_cons.mpr ⟨pj_mem 1471 (by decide +kernel) rfl, List.forall_mem_cons.mpr ⟨pj_mem 1473 (by decide +kernel) rfl, List.forall_mem_cons.mpr ⟨pj_mem 1475 (by decide +kernel) rfl, List.forall_mem_cons.mpr ⟨pj_mem 1477 (by decide +kernel) rfl, List.forall_mem_cons.mpr ⟨pj_mem 1479 (by decide +kernel) rfl, List.forall_mem_cons.mpr ⟨pj_mem 1481 (by decide +kernel) rfl, fun _ h => absurd h List.not_mem_nil⟩⟩⟩⟩⟩⟩⟩⟩⟩⟩⟩⟩⟩⟩⟩⟩⟩⟩⟩⟩⟩⟩⟩⟩⟩⟩⟩⟩⟩⟩⟩⟩
def st_refs : List (String × Nat × String × Nat) := [("WaverTax$Reader", 123, "tax", 0), ("WaverTax$Reader", 129, "choice", 1), ("WaverTax$Reader", 131, "far", 2), ("WaverTax$Reader", 133, "person", 3), ("WaverTax$Reader", 135, "likes", 4), ("WaverTax$Reader", 137, "reason", 5), ("WaverTax$Reader", 139, "paid", 6), ("WaverTax$Reader", 141, "shop", 7), ("WaverTax$Reader", 143, "lane", 8), ("WaverTax$Reader", 186, "root", 9), ("WaverTax$Reader", 197, "third", 10), ("WaverTax$Reader", 212, "by", 11), ("WaverTax$Reader", 225, "plain", 12), ("WaverTax$Reader", 227, "mad", 13), ("WaverTax$Reader", 229, "child", 14), ("WaverTax$Reader", 231, "proud", 15), ("WaverTax$Reader", 217, "holds", 16), ("WaverTax$Reader", 235, "worth", 17), ("WaverTax$Reader", 240, "at", 18), ("WaverTax$Reader", 242, "odds", 19), ("WaverTax$Reader", 244, "more", 20), ("WaverTax$Reader", 257, "hour", 21), ("WaverTax$Reader", 266, "crowd", 22), ("WaverTax", 377, "no such person holds what he held first", 23), ("WaverTaxModel", 142, "tax", 0), ("WaverTaxModel", 228, "root", 9), ("WaverTaxModel", 233, "third", 10), ("WaverTaxModel", 144, "choice", 1), ("WaverTaxModel", 146, "far", 2), ("WaverTaxModel", 148, "person", 3), ("WaverTaxModel", 150, "likes", 4), ("WaverTaxModel", 152, "reason", 5), ("WaverTaxModel", 154, "paid", 6), ("WaverTaxModel", 156, "shop", 7), ("WaverTaxModel", 158, "lane", 8), ("WaverTaxModel", 253, "by", 11), ("WaverTaxModel", 258, "plain", 12), ("WaverTaxModel", 260, "mad", 13), ("WaverTaxModel", 262, "child", 14), ("WaverTaxModel", 264, "proud", 15), ("WaverTaxModel", 266, "holds", 16), ("WaverTaxModel", 278, "worth", 17), ("WaverTaxModel", 283, "at", 18), ("WaverTaxModel", 285, "odds", 19), ("WaverTaxModel", 287, "more", 20), ("WaverTaxModel", 305, "hour", 21), ("WaverTaxModel", 321, "crowd", 22)]
def st_len : List Nat := [3, 6, 3, 6, 5, 6, 4, 4, 4, 4, 5, 2, 5, 3, 5, 5, 5, 5, 2, 4, 4, 4, 5, 39]
def st_byt : List (List Int32) := [[116, 97, 120], [99, 104, 111, 105, 99, 101], [102, 97, 114], [112, 101, 114, 115, 111, 110], [108, 105, 107, 101, 115], [114, 101, 97, 115, 111, 110], [112, 97, 105, 100], [115, 104, 111, 112], [108, 97, 110, 101], [114, 111, 111, 116], [116, 104, 105, 114, 100], [98, 121], [112, 108, 97, 105, 110], [109, 97, 100], [99, 104, 105, 108, 100], [112, 114, 111, 117, 100], [104, 111, 108, 100, 115], [119, 111, 114, 116, 104], [97, 116], [111, 100, 100, 115], [109, 111, 114, 101], [104, 111, 117, 114], [99, 114, 111, 119, 100], [110, 111, 32, 115, 117, 99, 104, 32, 112, 101, 114, 115, 111, 110, 32, 104, 111, 108, 100, 115, 32, 119, 104, 97, 116, 32, 104, 101, 32, 104, 101, 108, 100, 32, 102, 105, 114, 115, 116]]
def pj_nest : List Cond := [(Jvm.Cond.methodLinkNest "WaverTax" (19 : Nat) ({ cls := "WaverTax$Law", name := "<init>", desc := "()V" } : Jvm.MethodName) "WaverTax"), (Jvm.Cond.methodLinkNest "WaverTax$Law" (47 : Nat) ({ cls := "WaverTax$Reasons", name := "<init>", desc := "()V" } : Jvm.MethodName) "WaverTax"), (Jvm.Cond.methodLinkNest "WaverTax$Law" (54 : Nat) ({ cls := "WaverTax$Receipts", name := "<init>", desc := "()V" } : Jvm.MethodName) "WaverTax"), (Jvm.Cond.methodLinkNest "WaverTax$Law" (61 : Nat) ({ cls := "WaverTax$Shops", name := "<init>", desc := "()V" } : Jvm.MethodName) "WaverTax"), (Jvm.Cond.methodLinkNest "WaverTax" (42 : Nat) ({ cls := "WaverTax$Now", name := "<init>", desc := "()V" } : Jvm.MethodName) "WaverTax"), (Jvm.Cond.methodLinkNest "WaverTax$Past" (27 : Nat) ({ cls := "WaverTax$Now", name := "<init>", desc := "()V" } : Jvm.MethodName) "WaverTax"), (Jvm.Cond.methodLinkNest "WaverTax" (203 : Nat) ({ cls := "WaverTax$Planner", name := "best", desc := "(I)J" } : Jvm.MethodName) "WaverTax"), (Jvm.Cond.methodLinkNest "WaverTax" (221 : Nat) ({ cls := "WaverTax$Planner", name := "by", desc := "(II)J" } : Jvm.MethodName) "WaverTax"), (Jvm.Cond.fieldLinkNest "WaverTaxModel" (164 : Nat) "WaverTaxModel$Law" "root" "I" "WaverTaxModel"), (Jvm.Cond.fieldLinkNest "WaverTaxModel" (235 : Nat) "WaverTaxModel$Law" "third" "I" "WaverTaxModel"), (Jvm.Cond.fieldLinkNest "WaverTaxModel" (198 : Nat) "WaverTaxModel$Law" "choices" "I" "WaverTaxModel"), (Jvm.Cond.fieldLinkNest "WaverTaxModel" (255 : Nat) "WaverTaxModel$Law" "people" "I" "WaverTaxModel"), (Jvm.Cond.fieldLinkNest "WaverTaxModel" (273 : Nat) "WaverTaxModel$Law" "liked" "I" "WaverTaxModel"), (Jvm.Cond.fieldLinkNest "WaverTaxModel" (280 : Nat) "WaverTaxModel$Law" "reasons" "I" "WaverTaxModel"), (Jvm.Cond.fieldLinkNest "WaverTaxModel" (302 : Nat) "WaverTaxModel$Law" "receipts" "I" "WaverTaxModel"), (Jvm.Cond.fieldLinkNest "WaverTaxModel" (318 : Nat) "WaverTaxModel$Law" "shops" "I" "WaverTaxModel"), (Jvm.Cond.fieldLinkNest "WaverTaxModel" (327 : Nat) "WaverTaxModel$Law" "lanes" "I" "WaverTaxModel"), (Jvm.Cond.fieldLinkNest "WaverTaxModel" (180 : Nat) "WaverTaxModel$Law" "names" "I" "WaverTaxModel"), (Jvm.Cond.fieldLinkNest "WaverTaxModel" (251 : Nat) "WaverTaxModel$Law" "far" "[I" "WaverTaxModel"), (Jvm.Cond.fieldLinkNest "WaverTaxModel" (268 : Nat) "WaverTaxModel$Law" "sort" "[I" "WaverTaxModel"), (Jvm.Cond.fieldLinkNest "WaverTaxModel" (270 : Nat) "WaverTaxModel$Law" "first" "[I" "WaverTaxModel"), (Jvm.Cond.fieldLinkNest "WaverTaxModel" (276 : Nat) "WaverTaxModel$Law" "likes" "[I" "WaverTaxModel"), (Jvm.Cond.fieldLinkNest "WaverTaxModel" (289 : Nat) "WaverTaxModel$Law" "whose" "[I" "WaverTaxModel"), (Jvm.Cond.fieldLinkNest "WaverTaxModel" (292 : Nat) "WaverTaxModel$Law" "forWhat" "[I" "WaverTaxModel"), (Jvm.Cond.fieldLinkNest "WaverTaxModel" (295 : Nat) "WaverTaxModel$Law" "hour" "[I" "WaverTaxModel"), (Jvm.Cond.fieldLinkNest "WaverTaxModel" (298 : Nat) "WaverTaxModel$Law" "odds" "[I" "WaverTaxModel"), (Jvm.Cond.fieldLinkNest "WaverTaxModel" (300 : Nat) "WaverTaxModel$Law" "more" "[I" "WaverTaxModel"), (Jvm.Cond.fieldLinkNest "WaverTaxModel" (309 : Nat) "WaverTaxModel$Law" "payer" "[I" "WaverTaxModel"), (Jvm.Cond.fieldLinkNest "WaverTaxModel" (312 : Nat) "WaverTaxModel$Law" "sum" "[I" "WaverTaxModel"), (Jvm.Cond.fieldLinkNest "WaverTaxModel" (315 : Nat) "WaverTaxModel$Law" "paidAt" "[I" "WaverTaxModel"), (Jvm.Cond.fieldLinkNest "WaverTaxModel" (323 : Nat) "WaverTaxModel$Law" "crowd" "[I" "WaverTaxModel"), (Jvm.Cond.fieldLinkNest "WaverTaxModel" (325 : Nat) "WaverTaxModel$Law" "lane" "[I" "WaverTaxModel"), (Jvm.Cond.fieldLinkNest "WaverTaxModel" (177 : Nat) "WaverTaxModel$Law" "name" "[J" "WaverTaxModel"), (Jvm.Cond.fieldLinkNest "WaverTaxModel" (183 : Nat) "WaverTaxModel$Law" "nameSort" "[I" "WaverTaxModel"), (Jvm.Cond.fieldLinkNest "WaverTaxModel" (186 : Nat) "WaverTaxModel$Law" "numberOf" "[I" "WaverTaxModel")]
