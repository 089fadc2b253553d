/-! WORDS: what the tables say, the good words of lw_tbl; and that each word that the small machine needs is among them. -/
def gB : List Cond := lw_tbl.filter goodWord
theorem j_inB {w : Cond} {i : Nat} (h : lw_tbl[i]? = some w) (hg : goodWord w = true) : w ∈ gB := List.mem_filter.mpr ⟨List.mem_of_getElem? h, hg⟩
theorem gB_good : ∀ w ∈ gB, goodWord w = true := fun _ h => (List.mem_filter.mp h).2
def cT_0 : u_T := fun k => match k with
  | 0 => ("ClickOrders$Forms", "sorts", "[I", true)
  | 1 => ("ClickOrders$Forms", "things", "[I", true)
  | 2 => ("ClickOrders$Forms", "lines", "[I", true)
  | 3 => ("ClickOrders$Forms", "prices", "[I", true)
  | 4 => ("ClickOrders$Forms", "bars", "[I", true)
  | 5 => ("ClickOrders$Forms", "count", "I", false)
  | 6 => ("ClickOrders$Forms", "on", "I", false)
  | 7 => ("ClickOrders$Forms", "latest", "I", false)
  | 8 => ("ClickOrders$Forms", "fresh", "I", false)
  | 9 => ("ClickOrders$Forms", "ranks", "[I", true)
  | 10 => ("ClickOrders$Forms", "works", "[J", true)
  | _ => ("ClickOrders$Forms", "worksKept", "I", false)
def cY_0 : Nat → FieldType := fun k => match k with
  | 0 => .array .int
  | 1 => .array .int
  | 2 => .array .int
  | 3 => .array .int
  | 4 => .array .int
  | 5 => .int
  | 6 => .int
  | 7 => .int
  | 8 => .int
  | 9 => .array .int
  | 10 => .array .long
  | _ => .int
theorem cN_0 : ∀ a, a < 12 → ∀ b, b < 12 → a ≠ b → (cT_0 a).2.1 ≠ (cT_0 b).2.1 := by decide +kernel
theorem cP_0 : ∀ k, k < 12 → parseFieldDescriptor (cT_0 k).2.2.1 = some (cY_0 k) := by decide +kernel
theorem cL_0 : ∀ w ∈ u_ws "ClickOrders$Forms" cT_0 12, w ∈ lw_tbl := by decide +kernel
theorem cG_0 : (u_ws "ClickOrders$Forms" cT_0 12).all goodWord = true := by decide +kernel
theorem cB_0 : ∀ w ∈ u_ws "ClickOrders$Forms" cT_0 12, w ∈ gB := fun w h => List.mem_filter.mpr ⟨cL_0 w h, List.all_eq_true.mp cG_0 w h⟩
def cT_1 : u_T := fun k => match k with
  | 0 => ("ClickOrders$Hand", "forms", "LClickOrders$Forms;", true)
  | 1 => ("ClickOrders$Hand", "stack", "[I", true)
  | 2 => ("ClickOrders$Hand", "program", "LClickOrders$Program;", false)
  | 3 => ("ClickOrders$Hand", "reads", "I", false)
  | 4 => ("ClickOrders$Hand", "writes", "I", false)
  | 5 => ("ClickOrders$Hand", "stale", "I", false)
  | 6 => ("ClickOrders$Hand", "losses", "I", false)
  | 7 => ("ClickOrders$Hand", "got", "I", false)
  | 8 => ("ClickOrders$Hand", "number", "I", false)
  | _ => ("ClickOrders$Hand", "top", "I", false)
def cY_1 : Nat → FieldType := fun k => match k with
  | 0 => .object "ClickOrders$Forms"
  | 1 => .array .int
  | 2 => .object "ClickOrders$Program"
  | 3 => .int
  | 4 => .int
  | 5 => .int
  | 6 => .int
  | 7 => .int
  | 8 => .int
  | _ => .int
theorem cN_1 : ∀ a, a < 10 → ∀ b, b < 10 → a ≠ b → (cT_1 a).2.1 ≠ (cT_1 b).2.1 := by decide +kernel
theorem cP_1 : ∀ k, k < 10 → parseFieldDescriptor (cT_1 k).2.2.1 = some (cY_1 k) := by decide +kernel
theorem cL_1 : ∀ w ∈ u_ws "ClickOrders$Hand" cT_1 10, w ∈ lw_tbl := by decide +kernel
theorem cG_1 : (u_ws "ClickOrders$Hand" cT_1 10).all goodWord = true := by decide +kernel
theorem cB_1 : ∀ w ∈ u_ws "ClickOrders$Hand" cT_1 10, w ∈ gB := fun w h => List.mem_filter.mpr ⟨cL_1 w h, List.all_eq_true.mp cG_1 w h⟩
def cT_2 : u_T := fun k => match k with
  | 0 => ("ClickOrders$Met", "size", "I", false)
  | 1 => ("ClickOrders$Met", "cells", "[I", true)
  | 2 => ("ClickOrders$Met", "table", "[I", true)
  | 3 => ("ClickOrders$Met", "slots", "[I", true)
  | 4 => ("ClickOrders$Met", "slot", "I", false)
  | _ => ("ClickOrders$Met", "used", "I", false)
def cY_2 : Nat → FieldType := fun k => match k with
  | 0 => .int
  | 1 => .array .int
  | 2 => .array .int
  | 3 => .array .int
  | 4 => .int
  | _ => .int
theorem cN_2 : ∀ a, a < 6 → ∀ b, b < 6 → a ≠ b → (cT_2 a).2.1 ≠ (cT_2 b).2.1 := by decide +kernel
theorem cP_2 : ∀ k, k < 6 → parseFieldDescriptor (cT_2 k).2.2.1 = some (cY_2 k) := by decide +kernel
theorem cL_2 : ∀ w ∈ u_ws "ClickOrders$Met" cT_2 6, w ∈ lw_tbl := by decide +kernel
theorem cG_2 : (u_ws "ClickOrders$Met" cT_2 6).all goodWord = true := by decide +kernel
theorem cB_2 : ∀ w ∈ u_ws "ClickOrders$Met" cT_2 6, w ∈ gB := fun w h => List.mem_filter.mpr ⟨cL_2 w h, List.all_eq_true.mp cG_2 w h⟩
def cT_3 : u_T := fun k => match k with
  | _ => ("ClickOrders$Page", "cells", "[I", true)
def cY_3 : Nat → FieldType := fun k => match k with
  | _ => .array .int
theorem cN_3 : ∀ a, a < 1 → ∀ b, b < 1 → a ≠ b → (cT_3 a).2.1 ≠ (cT_3 b).2.1 := by decide +kernel
theorem cP_3 : ∀ k, k < 1 → parseFieldDescriptor (cT_3 k).2.2.1 = some (cY_3 k) := by decide +kernel
theorem cL_3 : ∀ w ∈ u_ws "ClickOrders$Page" cT_3 1, w ∈ lw_tbl := by decide +kernel
theorem cG_3 : (u_ws "ClickOrders$Page" cT_3 1).all goodWord = true := by decide +kernel
theorem cB_3 : ∀ w ∈ u_ws "ClickOrders$Page" cT_3 1, w ∈ gB := fun w h => List.mem_filter.mpr ⟨cL_3 w h, List.all_eq_true.mp cG_3 w h⟩
def cT_4 : u_T := fun k => match k with
  | 0 => ("ClickOrders$Pair", "pages", "[LClickOrders$Page;", true)
  | 1 => ("ClickOrders$Pair", "losses", "I", false)
  | 2 => ("ClickOrders$Pair", "hand", "LClickOrders$Hand;", true)
  | 3 => ("ClickOrders$Pair", "stale", "[I", true)
  | 4 => ("ClickOrders$Pair", "fewest", "I", false)
  | _ => ("ClickOrders$Pair", "tried", "I", false)
def cY_4 : Nat → FieldType := fun k => match k with
  | 0 => .array (.object "ClickOrders$Page")
  | 1 => .int
  | 2 => .object "ClickOrders$Hand"
  | 3 => .array .int
  | 4 => .int
  | _ => .int
theorem cN_4 : ∀ a, a < 6 → ∀ b, b < 6 → a ≠ b → (cT_4 a).2.1 ≠ (cT_4 b).2.1 := by decide +kernel
theorem cP_4 : ∀ k, k < 6 → parseFieldDescriptor (cT_4 k).2.2.1 = some (cY_4 k) := by decide +kernel
theorem cL_4 : ∀ w ∈ u_ws "ClickOrders$Pair" cT_4 6, w ∈ lw_tbl := by decide +kernel
theorem cG_4 : (u_ws "ClickOrders$Pair" cT_4 6).all goodWord = true := by decide +kernel
theorem cB_4 : ∀ w ∈ u_ws "ClickOrders$Pair" cT_4 6, w ∈ gB := fun w h => List.mem_filter.mpr ⟨cL_4 w h, List.all_eq_true.mp cG_4 w h⟩
def cT_5 : u_T := fun k => match k with
  | 0 => ("ClickOrders$Program", "orders", "[I", true)
  | 1 => ("ClickOrders$Program", "marks", "[I", true)
  | 2 => ("ClickOrders$Program", "entries", "[I", true)
  | 3 => ("ClickOrders$Program", "length", "I", false)
  | 4 => ("ClickOrders$Program", "steps", "I", false)
  | 5 => ("ClickOrders$Program", "handlers", "I", false)
  | 6 => ("ClickOrders$Program", "asked", "I", false)
  | 7 => ("ClickOrders$Program", "harm", "I", false)
  | _ => ("ClickOrders$Program", "place", "I", false)
def cY_5 : Nat → FieldType := fun k => match k with
  | 0 => .array .int
  | 1 => .array .int
  | 2 => .array .int
  | 3 => .int
  | 4 => .int
  | 5 => .int
  | 6 => .int
  | 7 => .int
  | _ => .int
theorem cN_5 : ∀ a, a < 9 → ∀ b, b < 9 → a ≠ b → (cT_5 a).2.1 ≠ (cT_5 b).2.1 := by decide +kernel
theorem cP_5 : ∀ k, k < 9 → parseFieldDescriptor (cT_5 k).2.2.1 = some (cY_5 k) := by decide +kernel
theorem cL_5 : ∀ w ∈ u_ws "ClickOrders$Program" cT_5 9, w ∈ lw_tbl := by decide +kernel
theorem cG_5 : (u_ws "ClickOrders$Program" cT_5 9).all goodWord = true := by decide +kernel
theorem cB_5 : ∀ w ∈ u_ws "ClickOrders$Program" cT_5 9, w ∈ gB := fun w h => List.mem_filter.mpr ⟨cL_5 w h, List.all_eq_true.mp cG_5 w h⟩
def cT_6 : u_T := fun k => match k with
  | 0 => ("ClickOrders$Reader", "text", "[I", true)
  | 1 => ("ClickOrders$Reader", "length", "I", false)
  | 2 => ("ClickOrders$Reader", "cursor", "I", false)
  | 3 => ("ClickOrders$Reader", "open", "I", false)
  | 4 => ("ClickOrders$Reader", "kind", "I", false)
  | 5 => ("ClickOrders$Reader", "out", "LClickOrders$Program;", false)
  | _ => ("ClickOrders$Reader", "place", "I", false)
def cY_6 : Nat → FieldType := fun k => match k with
  | 0 => .array .int
  | 1 => .int
  | 2 => .int
  | 3 => .int
  | 4 => .int
  | 5 => .object "ClickOrders$Program"
  | _ => .int
theorem cN_6 : ∀ a, a < 7 → ∀ b, b < 7 → a ≠ b → (cT_6 a).2.1 ≠ (cT_6 b).2.1 := by decide +kernel
theorem cP_6 : ∀ k, k < 7 → parseFieldDescriptor (cT_6 k).2.2.1 = some (cY_6 k) := by decide +kernel
theorem cL_6 : ∀ w ∈ u_ws "ClickOrders$Reader" cT_6 7, w ∈ lw_tbl := by decide +kernel
theorem cG_6 : (u_ws "ClickOrders$Reader" cT_6 7).all goodWord = true := by decide +kernel
theorem cB_6 : ∀ w ∈ u_ws "ClickOrders$Reader" cT_6 7, w ∈ gB := fun w h => List.mem_filter.mpr ⟨cL_6 w h, List.all_eq_true.mp cG_6 w h⟩
def cT_7 : u_T := fun k => match k with
  | 0 => ("ClickOrders$Row", "codes", "[I", true)
  | 1 => ("ClickOrders$Row", "count", "I", false)
  | 2 => ("ClickOrders$Row", "hand", "LClickOrders$Hand;", true)
  | _ => ("ClickOrders$Row", "page", "LClickOrders$Page;", true)
def cY_7 : Nat → FieldType := fun k => match k with
  | 0 => .array .int
  | 1 => .int
  | 2 => .object "ClickOrders$Hand"
  | _ => .object "ClickOrders$Page"
theorem cN_7 : ∀ a, a < 4 → ∀ b, b < 4 → a ≠ b → (cT_7 a).2.1 ≠ (cT_7 b).2.1 := by decide +kernel
theorem cP_7 : ∀ k, k < 4 → parseFieldDescriptor (cT_7 k).2.2.1 = some (cY_7 k) := by decide +kernel
theorem cL_7 : ∀ w ∈ u_ws "ClickOrders$Row" cT_7 4, w ∈ lw_tbl := by decide +kernel
theorem cG_7 : (u_ws "ClickOrders$Row" cT_7 4).all goodWord = true := by decide +kernel
theorem cB_7 : ∀ w ∈ u_ws "ClickOrders$Row" cT_7 4, w ∈ gB := fun w h => List.mem_filter.mpr ⟨cL_7 w h, List.all_eq_true.mp cG_7 w h⟩
def cT_8 : u_T := fun k => match k with
  | 0 => ("ClickOrders$Search", "found", "I", false)
  | 1 => ("ClickOrders$Search", "spent", "Z", false)
  | 2 => ("ClickOrders$Search", "hand", "LClickOrders$Hand;", true)
  | 3 => ("ClickOrders$Search", "met", "LClickOrders$Met;", true)
  | 4 => ("ClickOrders$Search", "from", "LClickOrders$Page;", true)
  | 5 => ("ClickOrders$Search", "page", "LClickOrders$Page;", true)
  | 6 => ("ClickOrders$Search", "loose", "[LClickOrders$Page;", true)
  | 7 => ("ClickOrders$Search", "parents", "[I", true)
  | 8 => ("ClickOrders$Search", "codes", "[I", true)
  | 9 => ("ClickOrders$Search", "next", "[I", true)
  | 10 => ("ClickOrders$Search", "isSpread", "[Z", true)
  | 11 => ("ClickOrders$Search", "near", "[I", true)
  | 12 => ("ClickOrders$Search", "tried", "[I", true)
  | 13 => ("ClickOrders$Search", "first", "I", false)
  | 14 => ("ClickOrders$Search", "most", "I", false)
  | 15 => ("ClickOrders$Search", "isWhole", "Z", false)
  | 16 => ("ClickOrders$Search", "rowsKey", "I", false)
  | 17 => ("ClickOrders$Search", "badRow", "[I", true)
  | _ => ("ClickOrders$Search", "badLength", "I", false)
def cY_8 : Nat → FieldType := fun k => match k with
  | 0 => .int
  | 1 => .boolean
  | 2 => .object "ClickOrders$Hand"
  | 3 => .object "ClickOrders$Met"
  | 4 => .object "ClickOrders$Page"
  | 5 => .object "ClickOrders$Page"
  | 6 => .array (.object "ClickOrders$Page")
  | 7 => .array .int
  | 8 => .array .int
  | 9 => .array .int
  | 10 => .array .boolean
  | 11 => .array .int
  | 12 => .array .int
  | 13 => .int
  | 14 => .int
  | 15 => .boolean
  | 16 => .int
  | 17 => .array .int
  | _ => .int
theorem cN_8 : ∀ a, a < 19 → ∀ b, b < 19 → a ≠ b → (cT_8 a).2.1 ≠ (cT_8 b).2.1 := by decide +kernel
theorem cP_8 : ∀ k, k < 19 → parseFieldDescriptor (cT_8 k).2.2.1 = some (cY_8 k) := by decide +kernel
theorem cL_8 : ∀ w ∈ u_ws "ClickOrders$Search" cT_8 19, w ∈ lw_tbl := by decide +kernel
theorem cG_8 : (u_ws "ClickOrders$Search" cT_8 19).all goodWord = true := by decide +kernel
theorem cB_8 : ∀ w ∈ u_ws "ClickOrders$Search" cT_8 19, w ∈ gB := fun w h => List.mem_filter.mpr ⟨cL_8 w h, List.all_eq_true.mp cG_8 w h⟩
def cT_9 : u_T := fun k => match k with
  | 0 => ("ClickOrders$Track", "page", "LClickOrders$Page;", true)
  | 1 => ("ClickOrders$Track", "codes", "[I", true)
  | 2 => ("ClickOrders$Track", "begetters", "[I", true)
  | 3 => ("ClickOrders$Track", "reads", "[I", true)
  | 4 => ("ClickOrders$Track", "writes", "[I", true)
  | 5 => ("ClickOrders$Track", "count", "I", false)
  | 6 => ("ClickOrders$Track", "hand", "LClickOrders$Hand;", true)
  | 7 => ("ClickOrders$Track", "other", "LClickOrders$Page;", true)
  | 8 => ("ClickOrders$Track", "ahead", "[J", true)
  | 9 => ("ClickOrders$Track", "free", "[I", true)
  | 10 => ("ClickOrders$Track", "shown", "[I", true)
  | 11 => ("ClickOrders$Track", "otherShown", "[I", true)
  | 12 => ("ClickOrders$Track", "otherCount", "I", false)
  | 13 => ("ClickOrders$Track", "tally", "[I", true)
  | _ => ("ClickOrders$Track", "isTallied", "Z", false)
def cY_9 : Nat → FieldType := fun k => match k with
  | 0 => .object "ClickOrders$Page"
  | 1 => .array .int
  | 2 => .array .int
  | 3 => .array .int
  | 4 => .array .int
  | 5 => .int
  | 6 => .object "ClickOrders$Hand"
  | 7 => .object "ClickOrders$Page"
  | 8 => .array .long
  | 9 => .array .int
  | 10 => .array .int
  | 11 => .array .int
  | 12 => .int
  | 13 => .array .int
  | _ => .boolean
theorem cN_9 : ∀ a, a < 15 → ∀ b, b < 15 → a ≠ b → (cT_9 a).2.1 ≠ (cT_9 b).2.1 := by decide +kernel
theorem cP_9 : ∀ k, k < 15 → parseFieldDescriptor (cT_9 k).2.2.1 = some (cY_9 k) := by decide +kernel
theorem cL_9 : ∀ w ∈ u_ws "ClickOrders$Track" cT_9 15, w ∈ lw_tbl := by decide +kernel
theorem cG_9 : (u_ws "ClickOrders$Track" cT_9 15).all goodWord = true := by decide +kernel
theorem cB_9 : ∀ w ∈ u_ws "ClickOrders$Track" cT_9 15, w ∈ gB := fun w h => List.mem_filter.mpr ⟨cL_9 w h, List.all_eq_true.mp cG_9 w h⟩
def cT_10 : u_T := fun k => match k with
  | 0 => ("ClickOrders", "tape", "[I", true)
  | 1 => ("ClickOrders", "forms", "LClickOrders$Forms;", true)
  | 2 => ("ClickOrders", "present", "LClickOrders$Program;", false)
  | 3 => ("ClickOrders", "old", "LClickOrders$Program;", false)
  | 4 => ("ClickOrders", "spare", "LClickOrders$Program;", false)
  | 5 => ("ClickOrders", "reader", "LClickOrders$Reader;", true)
  | 6 => ("ClickOrders", "hand", "LClickOrders$Hand;", true)
  | 7 => ("ClickOrders", "track", "LClickOrders$Track;", true)
  | 8 => ("ClickOrders", "search", "LClickOrders$Search;", true)
  | 9 => ("ClickOrders", "pair", "LClickOrders$Pair;", true)
  | 10 => ("ClickOrders", "row", "LClickOrders$Row;", true)
  | 11 => ("ClickOrders", "taped", "I", false)
  | 12 => ("ClickOrders", "faultPlace", "I", false)
  | 13 => ("ClickOrders", "setKey", "I", false)
  | _ => ("ClickOrders", "safeSet", "I", false)
def cY_10 : Nat → FieldType := fun k => match k with
  | 0 => .array .int
  | 1 => .object "ClickOrders$Forms"
  | 2 => .object "ClickOrders$Program"
  | 3 => .object "ClickOrders$Program"
  | 4 => .object "ClickOrders$Program"
  | 5 => .object "ClickOrders$Reader"
  | 6 => .object "ClickOrders$Hand"
  | 7 => .object "ClickOrders$Track"
  | 8 => .object "ClickOrders$Search"
  | 9 => .object "ClickOrders$Pair"
  | 10 => .object "ClickOrders$Row"
  | 11 => .int
  | 12 => .int
  | 13 => .int
  | _ => .int
theorem cN_10 : ∀ a, a < 15 → ∀ b, b < 15 → a ≠ b → (cT_10 a).2.1 ≠ (cT_10 b).2.1 := by decide +kernel
theorem cP_10 : ∀ k, k < 15 → parseFieldDescriptor (cT_10 k).2.2.1 = some (cY_10 k) := by decide +kernel
theorem cL_10 : ∀ w ∈ u_ws "ClickOrders" cT_10 15, w ∈ lw_tbl := by decide +kernel
theorem cG_10 : (u_ws "ClickOrders" cT_10 15).all goodWord = true := by decide +kernel
theorem cB_10 : ∀ w ∈ u_ws "ClickOrders" cT_10 15, w ∈ gB := fun w h => List.mem_filter.mpr ⟨cL_10 w h, List.all_eq_true.mp cG_10 w h⟩
def cT_11 : u_T := fun k => match k with
  | 0 => ("ClickOrdersModel", "thrown", "I", false)
  | 1 => ("ClickOrdersModel", "tape", "I", false)
  | 2 => ("ClickOrdersModel", "place", "I", false)
  | 3 => ("ClickOrdersModel", "size", "I", false)
  | 4 => ("ClickOrdersModel", "which", "I", false)
  | 5 => ("ClickOrdersModel", "at", "I", false)
  | 6 => ("ClickOrdersModel", "open", "I", false)
  | 7 => ("ClickOrdersModel", "fault", "I", false)
  | 8 => ("ClickOrdersModel", "faultAt", "I", false)
  | 9 => ("ClickOrdersModel", "fed", "[I", true)
  | 10 => ("ClickOrdersModel", "text", "[[I", true)
  | 11 => ("ClickOrdersModel", "handler", "[[I", true)
  | 12 => ("ClickOrdersModel", "textSize", "[I", true)
  | 13 => ("ClickOrdersModel", "steps", "[I", true)
  | 14 => ("ClickOrdersModel", "harmAt", "[I", true)
  | 15 => ("ClickOrdersModel", "placeAt", "[I", true)
  | 16 => ("ClickOrdersModel", "program", "I", false)
  | 17 => ("ClickOrdersModel", "foundSteps", "I", false)
  | 18 => ("ClickOrdersModel", "foundHarm", "I", false)
  | 19 => ("ClickOrdersModel", "foundPlace", "I", false)
  | 20 => ("ClickOrdersModel", "foundHandler", "[I", true)
  | 21 => ("ClickOrdersModel", "page", "[I", true)
  | 22 => ("ClickOrdersModel", "isDoing", "Z", false)
  | 23 => ("ClickOrdersModel", "isLogged", "Z", false)
  | 24 => ("ClickOrdersModel", "isEnded", "Z", false)
  | 25 => ("ClickOrdersModel", "got", "I", false)
  | 26 => ("ClickOrdersModel", "self", "I", false)
  | 27 => ("ClickOrdersModel", "readBits", "I", false)
  | 28 => ("ClickOrdersModel", "writeBits", "I", false)
  | 29 => ("ClickOrdersModel", "window", "I", false)
  | 30 => ("ClickOrdersModel", "runPage", "[I", true)
  | 31 => ("ClickOrdersModel", "many", "I", false)
  | 32 => ("ClickOrdersModel", "code", "[I", true)
  | 33 => ("ClickOrdersModel", "begot", "[I", true)
  | 34 => ("ClickOrdersModel", "reads", "[I", true)
  | 35 => ("ClickOrdersModel", "writes", "[I", true)
  | 36 => ("ClickOrdersModel", "states", "[[I", true)
  | 37 => ("ClickOrdersModel", "isOrdered", "[[Z", true)
  | 38 => ("ClickOrdersModel", "forms", "I", false)
  | 39 => ("ClickOrdersModel", "sort", "[I", true)
  | 40 => ("ClickOrdersModel", "formThing", "[I", true)
  | 41 => ("ClickOrdersModel", "formLine", "[I", true)
  | 42 => ("ClickOrdersModel", "price", "[I", true)
  | 43 => ("ClickOrdersModel", "isOn", "[Z", true)
  | 44 => ("ClickOrdersModel", "met", "[[I", true)
  | 45 => ("ClickOrdersModel", "from", "[I", true)
  | 46 => ("ClickOrdersModel", "by", "[I", true)
  | 47 => ("ClickOrdersModel", "deep", "[I", true)
  | 48 => ("ClickOrdersModel", "metMany", "I", false)
  | 49 => ("ClickOrdersModel", "spoiltAt", "I", false)
  | 50 => ("ClickOrdersModel", "isSpent", "Z", false)
  | 51 => ("ClickOrdersModel", "toldMany", "I", false)
  | 52 => ("ClickOrdersModel", "told", "[I", true)
  | 53 => ("ClickOrdersModel", "row", "[I", true)
  | 54 => ("ClickOrdersModel", "windowPage", "[[I", true)
  | 55 => ("ClickOrdersModel", "saver", "[I", true)
  | 56 => ("ClickOrdersModel", "isAsked", "[[Z", true)
  | 57 => ("ClickOrdersModel", "lostWords", "I", false)
  | 58 => ("ClickOrdersModel", "keptWindows", "[[I", true)
  | _ => ("ClickOrdersModel", "reached", "[[I", true)
def cY_11 : Nat → FieldType := fun k => match k with
  | 0 => .int
  | 1 => .int
  | 2 => .int
  | 3 => .int
  | 4 => .int
  | 5 => .int
  | 6 => .int
  | 7 => .int
  | 8 => .int
  | 9 => .array .int
  | 10 => .array (.array .int)
  | 11 => .array (.array .int)
  | 12 => .array .int
  | 13 => .array .int
  | 14 => .array .int
  | 15 => .array .int
  | 16 => .int
  | 17 => .int
  | 18 => .int
  | 19 => .int
  | 20 => .array .int
  | 21 => .array .int
  | 22 => .boolean
  | 23 => .boolean
  | 24 => .boolean
  | 25 => .int
  | 26 => .int
  | 27 => .int
  | 28 => .int
  | 29 => .int
  | 30 => .array .int
  | 31 => .int
  | 32 => .array .int
  | 33 => .array .int
  | 34 => .array .int
  | 35 => .array .int
  | 36 => .array (.array .int)
  | 37 => .array (.array .boolean)
  | 38 => .int
  | 39 => .array .int
  | 40 => .array .int
  | 41 => .array .int
  | 42 => .array .int
  | 43 => .array .boolean
  | 44 => .array (.array .int)
  | 45 => .array .int
  | 46 => .array .int
  | 47 => .array .int
  | 48 => .int
  | 49 => .int
  | 50 => .boolean
  | 51 => .int
  | 52 => .array .int
  | 53 => .array .int
  | 54 => .array (.array .int)
  | 55 => .array .int
  | 56 => .array (.array .boolean)
  | 57 => .int
  | 58 => .array (.array .int)
  | _ => .array (.array .int)
theorem cN_11 : ∀ a, a < 60 → ∀ b, b < 60 → a ≠ b → (cT_11 a).2.1 ≠ (cT_11 b).2.1 := by decide +kernel
theorem cP_11 : ∀ k, k < 60 → parseFieldDescriptor (cT_11 k).2.2.1 = some (cY_11 k) := by decide +kernel
theorem cL_11 : ∀ w ∈ u_ws "ClickOrdersModel" cT_11 60, w ∈ lw_tbl := by decide +kernel
theorem cG_11 : (u_ws "ClickOrdersModel" cT_11 60).all goodWord = true := by decide +kernel
theorem cB_11 : ∀ w ∈ u_ws "ClickOrdersModel" cT_11 60, w ∈ gB := fun w h => List.mem_filter.mpr ⟨cL_11 w h, List.all_eq_true.mp cG_11 w h⟩
def gcl : List vw_C := [("ClickOrders$Forms", cT_0, 12), ("ClickOrders$Hand", cT_1, 10), ("ClickOrders$Met", cT_2, 6), ("ClickOrders$Page", cT_3, 1), ("ClickOrders$Pair", cT_4, 6), ("ClickOrders$Program", cT_5, 9), ("ClickOrders$Reader", cT_6, 7), ("ClickOrders$Row", cT_7, 4), ("ClickOrders$Search", cT_8, 19), ("ClickOrders$Track", cT_9, 15), ("ClickOrders", cT_10, 15), ("ClickOrdersModel", cT_11, 60)]
abbrev jMz : Type := MethodName × ByteArray × Nat × Option FieldType
def r_meL : List (Nat × jMz) := [(2, (⟨"ClickOrdersModel", "thrown", "()I"⟩ : MethodName), prog_13_method_2_code, 1, (some .int)), (3, (⟨"ClickOrdersModel", "bad", "(ZI)Z"⟩ : MethodName), prog_13_method_3_code, 3, (some .boolean)), (4, (⟨"ClickOrdersModel", "in", "(III)Z"⟩ : MethodName), prog_13_method_4_code, 3, (some .boolean)), (5, (⟨"ClickOrdersModel", "feed", "(IIIII)I"⟩ : MethodName), prog_13_method_5_code, 8, (some .int)), (6, (⟨"ClickOrdersModel", "byteAt", "(I)I"⟩ : MethodName), prog_13_method_6_code, 2, (some .int)), (7, (⟨"ClickOrdersModel", "blanks", "()V"⟩ : MethodName), prog_13_method_7_code, 1, none), (8, (⟨"ClickOrdersModel", "wrong", "(II)V"⟩ : MethodName), prog_13_method_8_code, 3, none), (9, (⟨"ClickOrdersModel", "isDigit", "(I)Z"⟩ : MethodName), prog_13_method_9_code, 1, (some .boolean)), (10, (⟨"ClickOrdersModel", "isSmall", "(I)Z"⟩ : MethodName), prog_13_method_10_code, 1, (some .boolean)), (11, (⟨"ClickOrdersModel", "wordHere", "()I"⟩ : MethodName), prog_13_method_11_code, 3, (some .int)), (12, (⟨"ClickOrdersModel", "word", "(IIIIII)I"⟩ : MethodName), prog_13_method_12_code, 7, (some .int)), (13, (⟨"ClickOrdersModel", "isWord", "(IIIIII)Z"⟩ : MethodName), prog_13_method_13_code, 7, (some .boolean)), (14, (⟨"ClickOrdersModel", "skipWord", "()V"⟩ : MethodName), prog_13_method_14_code, 1, none), (15, (⟨"ClickOrdersModel", "sign", "(I)V"⟩ : MethodName), prog_13_method_15_code, 2, none), (16, (⟨"ClickOrdersModel", "digits", "(I)I"⟩ : MethodName), prog_13_method_16_code, 4, (some .int)), (17, (⟨"ClickOrdersModel", "digit", "(I)I"⟩ : MethodName), prog_13_method_17_code, 4, (some .int)), (18, (⟨"ClickOrdersModel", "opens", "(I)V"⟩ : MethodName), prog_13_method_18_code, 2, none), (19, (⟨"ClickOrdersModel", "letterHere", "()I"⟩ : MethodName), prog_13_method_19_code, 2, (some .int)), (20, (⟨"ClickOrdersModel", "nameOf", "(I)I"⟩ : MethodName), prog_13_method_20_code, 2, (some .int)), (21, (⟨"ClickOrdersModel", "farOf", "(I)I"⟩ : MethodName), prog_13_method_21_code, 2, (some .int)), (22, (⟨"ClickOrdersModel", "unit", "()I"⟩ : MethodName), prog_13_method_22_code, 6, (some .int)), (23, (⟨"ClickOrdersModel", "product", "()I"⟩ : MethodName), prog_13_method_23_code, 4, (some .int)), (24, (⟨"ClickOrdersModel", "sum", "()I"⟩ : MethodName), prog_13_method_24_code, 4, (some .int)), (25, (⟨"ClickOrdersModel", "test", "()Z"⟩ : MethodName), prog_13_method_25_code, 4, (some .boolean)), (26, (⟨"ClickOrdersModel", "ands", "()Z"⟩ : MethodName), prog_13_method_26_code, 3, (some .boolean)), (27, (⟨"ClickOrdersModel", "ors", "()Z"⟩ : MethodName), prog_13_method_27_code, 3, (some .boolean)), (28, (⟨"ClickOrdersModel", "stepHere", "()I"⟩ : MethodName), prog_13_method_28_code, 1, (some .int)), (29, (⟨"ClickOrdersModel", "doStep", "()V"⟩ : MethodName), prog_13_method_29_code, 5, none), (30, (⟨"ClickOrdersModel", "ifStep", "()V"⟩ : MethodName), prog_13_method_30_code, 3, none), (31, (⟨"ClickOrdersModel", "names", "(II)V"⟩ : MethodName), prog_13_method_31_code, 3, none), (32, (⟨"ClickOrdersModel", "things", "(II)V"⟩ : MethodName), prog_13_method_32_code, 3, none), (33, (⟨"ClickOrdersModel", "fails", "()V"⟩ : MethodName), prog_13_method_33_code, 1, none), (34, (⟨"ClickOrdersModel", "clocks", "(II)V"⟩ : MethodName), prog_13_method_34_code, 4, none), (35, (⟨"ClickOrdersModel", "isForm", "(II)Z"⟩ : MethodName), prog_13_method_35_code, 4, (some .boolean)), (36, (⟨"ClickOrdersModel", "empties", "(I)V"⟩ : MethodName), prog_13_method_36_code, 3, none), (37, (⟨"ClickOrdersModel", "asks", "(II)V"⟩ : MethodName), prog_13_method_37_code, 4, none), (38, (⟨"ClickOrdersModel", "stops", "(I)V"⟩ : MethodName), prog_13_method_38_code, 2, none), (39, (⟨"ClickOrdersModel", "saves", "(II)V"⟩ : MethodName), prog_13_method_39_code, 3, none), (40, (⟨"ClickOrdersModel", "eventHere", "()I"⟩ : MethodName), prog_13_method_40_code, 1, (some .int)), (41, (⟨"ClickOrdersModel", "part", "()V"⟩ : MethodName), prog_13_method_41_code, 4, none), (42, (⟨"ClickOrdersModel", "program", "(I)I"⟩ : MethodName), prog_13_method_42_code, 3, (some .int)), (43, (⟨"ClickOrdersModel", "takesOver", "(I)V"⟩ : MethodName), prog_13_method_43_code, 3, none), (44, (⟨"ClickOrdersModel", "fault", "()I"⟩ : MethodName), prog_13_method_44_code, 1, (some .int)), (45, (⟨"ClickOrdersModel", "goesTo", "(I)V"⟩ : MethodName), prog_13_method_45_code, 2, none), (46, (⟨"ClickOrdersModel", "runs", "(I)V"⟩ : MethodName), prog_13_method_46_code, 3, none), (47, (⟨"ClickOrdersModel", "holdsAt", "(IZ)Z"⟩ : MethodName), prog_13_method_47_code, 3, (some .boolean)), (48, (⟨"ClickOrdersModel", "beginsPage", "()V"⟩ : MethodName), prog_13_method_48_code, 2, none), (49, (⟨"ClickOrdersModel", "beginsAnew", "()V"⟩ : MethodName), prog_13_method_49_code, 2, none), (50, (⟨"ClickOrdersModel", "canCome", "(I)Z"⟩ : MethodName), prog_13_method_50_code, 3, (some .boolean)), (51, (⟨"ClickOrdersModel", "nextClock", "()I"⟩ : MethodName), prog_13_method_51_code, 3, (some .int)), (52, (⟨"ClickOrdersModel", "happens", "(II)I"⟩ : MethodName), prog_13_method_52_code, 8, (some .int)), (53, (⟨"ClickOrdersModel", "takesClock", "(I)V"⟩ : MethodName), prog_13_method_53_code, 4, none), (54, (⟨"ClickOrdersModel", "takesAnswer", "(I)V"⟩ : MethodName), prog_13_method_54_code, 4, none), (55, (⟨"ClickOrdersModel", "loads", "([I)V"⟩ : MethodName), prog_13_method_55_code, 3, none), (56, (⟨"ClickOrdersModel", "keeps", "([I)V"⟩ : MethodName), prog_13_method_56_code, 3, none), (57, (⟨"ClickOrdersModel", "isSpoiltPage", "()Z"⟩ : MethodName), prog_13_method_57_code, 2, (some .boolean)), (58, (⟨"ClickOrdersModel", "beginRun", "()V"⟩ : MethodName), prog_13_method_58_code, 2, none), (59, (⟨"ClickOrdersModel", "begin", "()I"⟩ : MethodName), prog_13_method_59_code, 2, (some .int)), (60, (⟨"ClickOrdersModel", "can", "(I)Z"⟩ : MethodName), prog_13_method_60_code, 2, (some .boolean)), (61, (⟨"ClickOrdersModel", "come", "(I)I"⟩ : MethodName), prog_13_method_61_code, 3, (some .int)), (62, (⟨"ClickOrdersModel", "name", "(I)I"⟩ : MethodName), prog_13_method_62_code, 2, (some .int)), (63, (⟨"ClickOrdersModel", "thing", "(I)I"⟩ : MethodName), prog_13_method_63_code, 2, (some .int)), (64, (⟨"ClickOrdersModel", "far", "(I)I"⟩ : MethodName), prog_13_method_64_code, 2, (some .int)), (65, (⟨"ClickOrdersModel", "line", "(II)I"⟩ : MethodName), prog_13_method_65_code, 3, (some .int)), (66, (⟨"ClickOrdersModel", "clock", "(I)I"⟩ : MethodName), prog_13_method_66_code, 5, (some .int)), (67, (⟨"ClickOrdersModel", "failed", "()Z"⟩ : MethodName), prog_13_method_67_code, 1, (some .boolean)), (68, (⟨"ClickOrdersModel", "spoilt", "()Z"⟩ : MethodName), prog_13_method_68_code, 1, (some .boolean)), (69, (⟨"ClickOrdersModel", "isHappening", "(I)Z"⟩ : MethodName), prog_13_method_69_code, 2, (some .boolean)), (70, (⟨"ClickOrdersModel", "happening", "(II)I"⟩ : MethodName), prog_13_method_70_code, 3, (some .int)), (71, (⟨"ClickOrdersModel", "mayPress", "(II)Z"⟩ : MethodName), prog_13_method_71_code, 3, (some .boolean)), (72, (⟨"ClickOrdersModel", "findOrder", "()V"⟩ : MethodName), prog_13_method_72_code, 5, none), (73, (⟨"ClickOrdersModel", "ordered", "(II)Z"⟩ : MethodName), prog_13_method_73_code, 3, (some .boolean)), (74, (⟨"ClickOrdersModel", "items", "(II)I"⟩ : MethodName), prog_13_method_74_code, 5, (some .int)), (75, (⟨"ClickOrdersModel", "kth", "(IZ)I"⟩ : MethodName), prog_13_method_75_code, 6, (some .int)), (76, (⟨"ClickOrdersModel", "crossings", "()I"⟩ : MethodName), prog_13_method_76_code, 1, (some .int)), (77, (⟨"ClickOrdersModel", "crossing", "(I)I"⟩ : MethodName), prog_13_method_77_code, 2, (some .int)), (78, (⟨"ClickOrdersModel", "why", "(II)I"⟩ : MethodName), prog_13_method_78_code, 5, (some .int)), (79, (⟨"ClickOrdersModel", "again", "(I)Z"⟩ : MethodName), prog_13_method_79_code, 2, (some .boolean)), (80, (⟨"ClickOrdersModel", "isState", "()Z"⟩ : MethodName), prog_13_method_80_code, 4, (some .boolean)), (81, (⟨"ClickOrdersModel", "turned", "(II)I"⟩ : MethodName), prog_13_method_81_code, 9, (some .int)), (82, (⟨"ClickOrdersModel", "puts", "(II)I"⟩ : MethodName), prog_13_method_82_code, 3, (some .int)), (83, (⟨"ClickOrdersModel", "turn", "(II)I"⟩ : MethodName), prog_13_method_83_code, 3, (some .int)), (84, (⟨"ClickOrdersModel", "sorts", "(I)I"⟩ : MethodName), prog_13_method_84_code, 5, (some .int)), (85, (⟨"ClickOrdersModel", "metBefore", "()I"⟩ : MethodName), prog_13_method_85_code, 4, (some .int)), (86, (⟨"ClickOrdersModel", "meets", "(II)V"⟩ : MethodName), prog_13_method_86_code, 3, none), (87, (⟨"ClickOrdersModel", "explore", "(IIZ)V"⟩ : MethodName), prog_13_method_87_code, 6, none), (88, (⟨"ClickOrdersModel", "isSearch", "(II)Z"⟩ : MethodName), prog_13_method_88_code, 3, (some .boolean)), (89, (⟨"ClickOrdersModel", "worst", "(II)I"⟩ : MethodName), prog_13_method_89_code, 3, (some .int)), (90, (⟨"ClickOrdersModel", "step", "(III)I"⟩ : MethodName), prog_13_method_90_code, 5, (some .int)), (91, (⟨"ClickOrdersModel", "pages", "(II)I"⟩ : MethodName), prog_13_method_91_code, 3, (some .int)), (92, (⟨"ClickOrdersModel", "reaches", "(II)Z"⟩ : MethodName), prog_13_method_92_code, 4, (some .boolean)), (93, (⟨"ClickOrdersModel", "stuckOnes", "(I)I"⟩ : MethodName), prog_13_method_93_code, 5, (some .int)), (94, (⟨"ClickOrdersModel", "stuck", "(III)I"⟩ : MethodName), prog_13_method_94_code, 4, (some .int)), (95, (⟨"ClickOrdersModel", "tell", "(I)I"⟩ : MethodName), prog_13_method_95_code, 2, (some .int)), (96, (⟨"ClickOrdersModel", "clear", "()I"⟩ : MethodName), prog_13_method_96_code, 2, (some .int)), (97, (⟨"ClickOrdersModel", "record", "()I"⟩ : MethodName), prog_13_method_97_code, 2, (some .int)), (98, (⟨"ClickOrdersModel", "spoils", "(I)Z"⟩ : MethodName), prog_13_method_98_code, 3, (some .boolean)), (99, (⟨"ClickOrdersModel", "cut", "()I"⟩ : MethodName), prog_13_method_99_code, 4, (some .int)), (100, (⟨"ClickOrdersModel", "told", "(I)I"⟩ : MethodName), prog_13_method_100_code, 2, (some .int)), (101, (⟨"ClickOrdersModel", "form", "(IIII)I"⟩ : MethodName), prog_13_method_101_code, 5, (some .int)), (102, (⟨"ClickOrdersModel", "use", "(IZ)Z"⟩ : MethodName), prog_13_method_102_code, 4, (some .boolean)), (103, (⟨"ClickOrdersModel", "turnsOn", "(I)V"⟩ : MethodName), prog_13_method_103_code, 3, none), (104, (⟨"ClickOrdersModel", "isSafe", "(III)Z"⟩ : MethodName), prog_13_method_104_code, 5, (some .boolean)), (105, (⟨"ClickOrdersModel", "priceOf", "(I)I"⟩ : MethodName), prog_13_method_105_code, 4, (some .int)), (106, (⟨"ClickOrdersModel", "ones", "(I)I"⟩ : MethodName), prog_13_method_106_code, 3, (some .int)), (107, (⟨"ClickOrdersModel", "isAhead", "(II)Z"⟩ : MethodName), prog_13_method_107_code, 4, (some .boolean)), (108, (⟨"ClickOrdersModel", "cheapest", "(IIII)I"⟩ : MethodName), prog_13_method_108_code, 8, (some .int)), (109, (⟨"ClickOrdersModel", "beginWindows", "()V"⟩ : MethodName), prog_13_method_109_code, 2, none), (110, (⟨"ClickOrdersModel", "comesTo", "(II)Z"⟩ : MethodName), prog_13_method_110_code, 4, (some .boolean)), (111, (⟨"ClickOrdersModel", "windows", "()I"⟩ : MethodName), prog_13_method_111_code, 2, (some .int)), (112, (⟨"ClickOrdersModel", "comes", "(II)I"⟩ : MethodName), prog_13_method_112_code, 3, (some .int)), (113, (⟨"ClickOrdersModel", "shows", "(II)I"⟩ : MethodName), prog_13_method_113_code, 3, (some .int)), (114, (⟨"ClickOrdersModel", "keepsWindows", "(I)V"⟩ : MethodName), prog_13_method_114_code, 3, none), (115, (⟨"ClickOrdersModel", "loadsWindows", "(I)V"⟩ : MethodName), prog_13_method_115_code, 3, none), (116, (⟨"ClickOrdersModel", "loses", "(II)Z"⟩ : MethodName), prog_13_method_116_code, 6, (some .boolean)), (117, (⟨"ClickOrdersModel", "lost", "(I)I"⟩ : MethodName), prog_13_method_117_code, 4, (some .int)), (118, (⟨"ClickOrdersModel", "newer", "(II)I"⟩ : MethodName), prog_13_method_118_code, 4, (some .int)), (119, (⟨"ClickOrdersModel", "count", "(I)I"⟩ : MethodName), prog_13_method_119_code, 5, (some .int))]
theorem bw_2172 : Jvm.Cond.code ({ cls := "ClickOrdersModel", name := "thrown", desc := "()I" } : Jvm.MethodName) prog_13_method_2_code (1 : Nat) (some Jvm.ClassFile.FieldType.int) ∈ gB := j_inB (i := 2172) (by decide +kernel) (by decide +kernel)
theorem bw_148 : Jvm.Cond.initialized "ClickOrdersModel" ∈ gB := j_inB (i := 148) (by decide +kernel) (by decide +kernel)
theorem bw_2170 : Jvm.Cond.instanceMethod ({ cls := "ClickOrdersModel", name := "thrown", desc := "()I" } : Jvm.MethodName) ∈ gB := j_inB (i := 2170) (by decide +kernel) (by decide +kernel)
theorem bw_2171 : Jvm.Cond.selects "ClickOrdersModel" ({ cls := "ClickOrdersModel", name := "thrown", desc := "()I" } : Jvm.MethodName) ({ cls := "ClickOrdersModel", name := "thrown", desc := "()I" } : Jvm.MethodName) ∈ gB := j_inB (i := 2171) (by decide +kernel) (by decide +kernel)
theorem bw_2184 : Jvm.Cond.code ({ cls := "ClickOrdersModel", name := "bad", desc := "(ZI)Z" } : Jvm.MethodName) prog_13_method_3_code (3 : Nat) (some Jvm.ClassFile.FieldType.boolean) ∈ gB := j_inB (i := 2184) (by decide +kernel) (by decide +kernel)
theorem bw_2183 : Jvm.Cond.instanceMethod ({ cls := "ClickOrdersModel", name := "bad", desc := "(ZI)Z" } : Jvm.MethodName) ∈ gB := j_inB (i := 2183) (by decide +kernel) (by decide +kernel)
theorem bw_97 : Jvm.Cond.selects "ClickOrdersModel" ({ cls := "ClickOrdersModel", name := "bad", desc := "(ZI)Z" } : Jvm.MethodName) ({ cls := "ClickOrdersModel", name := "bad", desc := "(ZI)Z" } : Jvm.MethodName) ∈ gB := j_inB (i := 97) (by decide +kernel) (by decide +kernel)
theorem bw_1837 : Jvm.Cond.code ({ cls := "ClickOrdersModel", name := "in", desc := "(III)Z" } : Jvm.MethodName) prog_13_method_4_code (3 : Nat) (some Jvm.ClassFile.FieldType.boolean) ∈ gB := j_inB (i := 1837) (by decide +kernel) (by decide +kernel)
theorem bw_1836 : Jvm.Cond.static ({ cls := "ClickOrdersModel", name := "in", desc := "(III)Z" } : Jvm.MethodName) ∈ gB := j_inB (i := 1836) (by decide +kernel) (by decide +kernel)
theorem bw_2176 : Jvm.Cond.code ({ cls := "ClickOrdersModel", name := "feed", desc := "(IIIII)I" } : Jvm.MethodName) prog_13_method_5_code (8 : Nat) (some Jvm.ClassFile.FieldType.int) ∈ gB := j_inB (i := 2176) (by decide +kernel) (by decide +kernel)
theorem bw_2174 : Jvm.Cond.instanceMethod ({ cls := "ClickOrdersModel", name := "feed", desc := "(IIIII)I" } : Jvm.MethodName) ∈ gB := j_inB (i := 2174) (by decide +kernel) (by decide +kernel)
theorem bw_2175 : Jvm.Cond.selects "ClickOrdersModel" ({ cls := "ClickOrdersModel", name := "feed", desc := "(IIIII)I" } : Jvm.MethodName) ({ cls := "ClickOrdersModel", name := "feed", desc := "(IIIII)I" } : Jvm.MethodName) ∈ gB := j_inB (i := 2175) (by decide +kernel) (by decide +kernel)
theorem bw_1853 : Jvm.Cond.code ({ cls := "ClickOrdersModel", name := "byteAt", desc := "(I)I" } : Jvm.MethodName) prog_13_method_6_code (2 : Nat) (some Jvm.ClassFile.FieldType.int) ∈ gB := j_inB (i := 1853) (by decide +kernel) (by decide +kernel)
theorem bw_1852 : Jvm.Cond.instanceMethod ({ cls := "ClickOrdersModel", name := "byteAt", desc := "(I)I" } : Jvm.MethodName) ∈ gB := j_inB (i := 1852) (by decide +kernel) (by decide +kernel)
theorem bw_65 : Jvm.Cond.selects "ClickOrdersModel" ({ cls := "ClickOrdersModel", name := "byteAt", desc := "(I)I" } : Jvm.MethodName) ({ cls := "ClickOrdersModel", name := "byteAt", desc := "(I)I" } : Jvm.MethodName) ∈ gB := j_inB (i := 65) (by decide +kernel) (by decide +kernel)
theorem bw_1849 : Jvm.Cond.code ({ cls := "ClickOrdersModel", name := "blanks", desc := "()V" } : Jvm.MethodName) prog_13_method_7_code (1 : Nat) (Option.none : Option Jvm.ClassFile.FieldType) ∈ gB := j_inB (i := 1849) (by decide +kernel) (by decide +kernel)
theorem bw_1848 : Jvm.Cond.instanceMethod ({ cls := "ClickOrdersModel", name := "blanks", desc := "()V" } : Jvm.MethodName) ∈ gB := j_inB (i := 1848) (by decide +kernel) (by decide +kernel)
theorem bw_64 : Jvm.Cond.selects "ClickOrdersModel" ({ cls := "ClickOrdersModel", name := "blanks", desc := "()V" } : Jvm.MethodName) ({ cls := "ClickOrdersModel", name := "blanks", desc := "()V" } : Jvm.MethodName) ∈ gB := j_inB (i := 64) (by decide +kernel) (by decide +kernel)
theorem bw_1883 : Jvm.Cond.code ({ cls := "ClickOrdersModel", name := "wrong", desc := "(II)V" } : Jvm.MethodName) prog_13_method_8_code (3 : Nat) (Option.none : Option Jvm.ClassFile.FieldType) ∈ gB := j_inB (i := 1883) (by decide +kernel) (by decide +kernel)
theorem bw_1882 : Jvm.Cond.instanceMethod ({ cls := "ClickOrdersModel", name := "wrong", desc := "(II)V" } : Jvm.MethodName) ∈ gB := j_inB (i := 1882) (by decide +kernel) (by decide +kernel)
theorem bw_71 : Jvm.Cond.selects "ClickOrdersModel" ({ cls := "ClickOrdersModel", name := "wrong", desc := "(II)V" } : Jvm.MethodName) ({ cls := "ClickOrdersModel", name := "wrong", desc := "(II)V" } : Jvm.MethodName) ∈ gB := j_inB (i := 71) (by decide +kernel) (by decide +kernel)
theorem bw_1926 : Jvm.Cond.code ({ cls := "ClickOrdersModel", name := "isDigit", desc := "(I)Z" } : Jvm.MethodName) prog_13_method_9_code (1 : Nat) (some Jvm.ClassFile.FieldType.boolean) ∈ gB := j_inB (i := 1926) (by decide +kernel) (by decide +kernel)
theorem bw_1925 : Jvm.Cond.static ({ cls := "ClickOrdersModel", name := "isDigit", desc := "(I)Z" } : Jvm.MethodName) ∈ gB := j_inB (i := 1925) (by decide +kernel) (by decide +kernel)
theorem bw_1868 : Jvm.Cond.code ({ cls := "ClickOrdersModel", name := "isSmall", desc := "(I)Z" } : Jvm.MethodName) prog_13_method_10_code (1 : Nat) (some Jvm.ClassFile.FieldType.boolean) ∈ gB := j_inB (i := 1868) (by decide +kernel) (by decide +kernel)
theorem bw_1867 : Jvm.Cond.static ({ cls := "ClickOrdersModel", name := "isSmall", desc := "(I)Z" } : Jvm.MethodName) ∈ gB := j_inB (i := 1867) (by decide +kernel) (by decide +kernel)
theorem bw_1876 : Jvm.Cond.code ({ cls := "ClickOrdersModel", name := "wordHere", desc := "()I" } : Jvm.MethodName) prog_13_method_11_code (3 : Nat) (some Jvm.ClassFile.FieldType.int) ∈ gB := j_inB (i := 1876) (by decide +kernel) (by decide +kernel)
theorem bw_1875 : Jvm.Cond.instanceMethod ({ cls := "ClickOrdersModel", name := "wordHere", desc := "()I" } : Jvm.MethodName) ∈ gB := j_inB (i := 1875) (by decide +kernel) (by decide +kernel)
theorem bw_70 : Jvm.Cond.selects "ClickOrdersModel" ({ cls := "ClickOrdersModel", name := "wordHere", desc := "()I" } : Jvm.MethodName) ({ cls := "ClickOrdersModel", name := "wordHere", desc := "()I" } : Jvm.MethodName) ∈ gB := j_inB (i := 70) (by decide +kernel) (by decide +kernel)
theorem bw_1879 : Jvm.Cond.code ({ cls := "ClickOrdersModel", name := "word", desc := "(IIIIII)I" } : Jvm.MethodName) prog_13_method_12_code (7 : Nat) (some Jvm.ClassFile.FieldType.int) ∈ gB := j_inB (i := 1879) (by decide +kernel) (by decide +kernel)
theorem bw_1878 : Jvm.Cond.static ({ cls := "ClickOrdersModel", name := "word", desc := "(IIIIII)I" } : Jvm.MethodName) ∈ gB := j_inB (i := 1878) (by decide +kernel) (by decide +kernel)
theorem bw_1872 : Jvm.Cond.code ({ cls := "ClickOrdersModel", name := "isWord", desc := "(IIIIII)Z" } : Jvm.MethodName) prog_13_method_13_code (7 : Nat) (some Jvm.ClassFile.FieldType.boolean) ∈ gB := j_inB (i := 1872) (by decide +kernel) (by decide +kernel)
theorem bw_1871 : Jvm.Cond.instanceMethod ({ cls := "ClickOrdersModel", name := "isWord", desc := "(IIIIII)Z" } : Jvm.MethodName) ∈ gB := j_inB (i := 1871) (by decide +kernel) (by decide +kernel)
theorem bw_69 : Jvm.Cond.selects "ClickOrdersModel" ({ cls := "ClickOrdersModel", name := "isWord", desc := "(IIIIII)Z" } : Jvm.MethodName) ({ cls := "ClickOrdersModel", name := "isWord", desc := "(IIIIII)Z" } : Jvm.MethodName) ∈ gB := j_inB (i := 69) (by decide +kernel) (by decide +kernel)
theorem bw_1891 : Jvm.Cond.code ({ cls := "ClickOrdersModel", name := "skipWord", desc := "()V" } : Jvm.MethodName) prog_13_method_14_code (1 : Nat) (Option.none : Option Jvm.ClassFile.FieldType) ∈ gB := j_inB (i := 1891) (by decide +kernel) (by decide +kernel)
theorem bw_1890 : Jvm.Cond.instanceMethod ({ cls := "ClickOrdersModel", name := "skipWord", desc := "()V" } : Jvm.MethodName) ∈ gB := j_inB (i := 1890) (by decide +kernel) (by decide +kernel)
theorem bw_73 : Jvm.Cond.selects "ClickOrdersModel" ({ cls := "ClickOrdersModel", name := "skipWord", desc := "()V" } : Jvm.MethodName) ({ cls := "ClickOrdersModel", name := "skipWord", desc := "()V" } : Jvm.MethodName) ∈ gB := j_inB (i := 73) (by decide +kernel) (by decide +kernel)
theorem bw_1911 : Jvm.Cond.code ({ cls := "ClickOrdersModel", name := "sign", desc := "(I)V" } : Jvm.MethodName) prog_13_method_15_code (2 : Nat) (Option.none : Option Jvm.ClassFile.FieldType) ∈ gB := j_inB (i := 1911) (by decide +kernel) (by decide +kernel)
theorem bw_1910 : Jvm.Cond.instanceMethod ({ cls := "ClickOrdersModel", name := "sign", desc := "(I)V" } : Jvm.MethodName) ∈ gB := j_inB (i := 1910) (by decide +kernel) (by decide +kernel)
theorem bw_78 : Jvm.Cond.selects "ClickOrdersModel" ({ cls := "ClickOrdersModel", name := "sign", desc := "(I)V" } : Jvm.MethodName) ({ cls := "ClickOrdersModel", name := "sign", desc := "(I)V" } : Jvm.MethodName) ∈ gB := j_inB (i := 78) (by decide +kernel) (by decide +kernel)
theorem bw_1930 : Jvm.Cond.code ({ cls := "ClickOrdersModel", name := "digits", desc := "(I)I" } : Jvm.MethodName) prog_13_method_16_code (4 : Nat) (some Jvm.ClassFile.FieldType.int) ∈ gB := j_inB (i := 1930) (by decide +kernel) (by decide +kernel)
theorem bw_1929 : Jvm.Cond.instanceMethod ({ cls := "ClickOrdersModel", name := "digits", desc := "(I)I" } : Jvm.MethodName) ∈ gB := j_inB (i := 1929) (by decide +kernel) (by decide +kernel)
theorem bw_82 : Jvm.Cond.selects "ClickOrdersModel" ({ cls := "ClickOrdersModel", name := "digits", desc := "(I)I" } : Jvm.MethodName) ({ cls := "ClickOrdersModel", name := "digits", desc := "(I)I" } : Jvm.MethodName) ∈ gB := j_inB (i := 82) (by decide +kernel) (by decide +kernel)
theorem bw_1939 : Jvm.Cond.code ({ cls := "ClickOrdersModel", name := "digit", desc := "(I)I" } : Jvm.MethodName) prog_13_method_17_code (4 : Nat) (some Jvm.ClassFile.FieldType.int) ∈ gB := j_inB (i := 1939) (by decide +kernel) (by decide +kernel)
theorem bw_1938 : Jvm.Cond.instanceMethod ({ cls := "ClickOrdersModel", name := "digit", desc := "(I)I" } : Jvm.MethodName) ∈ gB := j_inB (i := 1938) (by decide +kernel) (by decide +kernel)
theorem bw_84 : Jvm.Cond.selects "ClickOrdersModel" ({ cls := "ClickOrdersModel", name := "digit", desc := "(I)I" } : Jvm.MethodName) ({ cls := "ClickOrdersModel", name := "digit", desc := "(I)I" } : Jvm.MethodName) ∈ gB := j_inB (i := 84) (by decide +kernel) (by decide +kernel)
theorem bw_1907 : Jvm.Cond.code ({ cls := "ClickOrdersModel", name := "opens", desc := "(I)V" } : Jvm.MethodName) prog_13_method_18_code (2 : Nat) (Option.none : Option Jvm.ClassFile.FieldType) ∈ gB := j_inB (i := 1907) (by decide +kernel) (by decide +kernel)
theorem bw_1906 : Jvm.Cond.instanceMethod ({ cls := "ClickOrdersModel", name := "opens", desc := "(I)V" } : Jvm.MethodName) ∈ gB := j_inB (i := 1906) (by decide +kernel) (by decide +kernel)
theorem bw_77 : Jvm.Cond.selects "ClickOrdersModel" ({ cls := "ClickOrdersModel", name := "opens", desc := "(I)V" } : Jvm.MethodName) ({ cls := "ClickOrdersModel", name := "opens", desc := "(I)V" } : Jvm.MethodName) ∈ gB := j_inB (i := 77) (by decide +kernel) (by decide +kernel)
theorem bw_1865 : Jvm.Cond.code ({ cls := "ClickOrdersModel", name := "letterHere", desc := "()I" } : Jvm.MethodName) prog_13_method_19_code (2 : Nat) (some Jvm.ClassFile.FieldType.int) ∈ gB := j_inB (i := 1865) (by decide +kernel) (by decide +kernel)
theorem bw_1864 : Jvm.Cond.instanceMethod ({ cls := "ClickOrdersModel", name := "letterHere", desc := "()I" } : Jvm.MethodName) ∈ gB := j_inB (i := 1864) (by decide +kernel) (by decide +kernel)
theorem bw_68 : Jvm.Cond.selects "ClickOrdersModel" ({ cls := "ClickOrdersModel", name := "letterHere", desc := "()I" } : Jvm.MethodName) ({ cls := "ClickOrdersModel", name := "letterHere", desc := "()I" } : Jvm.MethodName) ∈ gB := j_inB (i := 68) (by decide +kernel) (by decide +kernel)
theorem bw_1935 : Jvm.Cond.code ({ cls := "ClickOrdersModel", name := "nameOf", desc := "(I)I" } : Jvm.MethodName) prog_13_method_20_code (2 : Nat) (some Jvm.ClassFile.FieldType.int) ∈ gB := j_inB (i := 1935) (by decide +kernel) (by decide +kernel)
theorem bw_1934 : Jvm.Cond.instanceMethod ({ cls := "ClickOrdersModel", name := "nameOf", desc := "(I)I" } : Jvm.MethodName) ∈ gB := j_inB (i := 1934) (by decide +kernel) (by decide +kernel)
theorem bw_83 : Jvm.Cond.selects "ClickOrdersModel" ({ cls := "ClickOrdersModel", name := "nameOf", desc := "(I)I" } : Jvm.MethodName) ({ cls := "ClickOrdersModel", name := "nameOf", desc := "(I)I" } : Jvm.MethodName) ∈ gB := j_inB (i := 83) (by decide +kernel) (by decide +kernel)
theorem bw_1943 : Jvm.Cond.code ({ cls := "ClickOrdersModel", name := "farOf", desc := "(I)I" } : Jvm.MethodName) prog_13_method_21_code (2 : Nat) (some Jvm.ClassFile.FieldType.int) ∈ gB := j_inB (i := 1943) (by decide +kernel) (by decide +kernel)
theorem bw_1942 : Jvm.Cond.instanceMethod ({ cls := "ClickOrdersModel", name := "farOf", desc := "(I)I" } : Jvm.MethodName) ∈ gB := j_inB (i := 1942) (by decide +kernel) (by decide +kernel)
theorem bw_85 : Jvm.Cond.selects "ClickOrdersModel" ({ cls := "ClickOrdersModel", name := "farOf", desc := "(I)I" } : Jvm.MethodName) ({ cls := "ClickOrdersModel", name := "farOf", desc := "(I)I" } : Jvm.MethodName) ∈ gB := j_inB (i := 85) (by decide +kernel) (by decide +kernel)
theorem bw_1923 : Jvm.Cond.code ({ cls := "ClickOrdersModel", name := "unit", desc := "()I" } : Jvm.MethodName) prog_13_method_22_code (6 : Nat) (some Jvm.ClassFile.FieldType.int) ∈ gB := j_inB (i := 1923) (by decide +kernel) (by decide +kernel)
theorem bw_1922 : Jvm.Cond.instanceMethod ({ cls := "ClickOrdersModel", name := "unit", desc := "()I" } : Jvm.MethodName) ∈ gB := j_inB (i := 1922) (by decide +kernel) (by decide +kernel)
theorem bw_81 : Jvm.Cond.selects "ClickOrdersModel" ({ cls := "ClickOrdersModel", name := "unit", desc := "()I" } : Jvm.MethodName) ({ cls := "ClickOrdersModel", name := "unit", desc := "()I" } : Jvm.MethodName) ∈ gB := j_inB (i := 81) (by decide +kernel) (by decide +kernel)
theorem bw_1919 : Jvm.Cond.code ({ cls := "ClickOrdersModel", name := "product", desc := "()I" } : Jvm.MethodName) prog_13_method_23_code (4 : Nat) (some Jvm.ClassFile.FieldType.int) ∈ gB := j_inB (i := 1919) (by decide +kernel) (by decide +kernel)
theorem bw_1918 : Jvm.Cond.instanceMethod ({ cls := "ClickOrdersModel", name := "product", desc := "()I" } : Jvm.MethodName) ∈ gB := j_inB (i := 1918) (by decide +kernel) (by decide +kernel)
theorem bw_80 : Jvm.Cond.selects "ClickOrdersModel" ({ cls := "ClickOrdersModel", name := "product", desc := "()I" } : Jvm.MethodName) ({ cls := "ClickOrdersModel", name := "product", desc := "()I" } : Jvm.MethodName) ∈ gB := j_inB (i := 80) (by decide +kernel) (by decide +kernel)
theorem bw_1915 : Jvm.Cond.code ({ cls := "ClickOrdersModel", name := "sum", desc := "()I" } : Jvm.MethodName) prog_13_method_24_code (4 : Nat) (some Jvm.ClassFile.FieldType.int) ∈ gB := j_inB (i := 1915) (by decide +kernel) (by decide +kernel)
theorem bw_1914 : Jvm.Cond.instanceMethod ({ cls := "ClickOrdersModel", name := "sum", desc := "()I" } : Jvm.MethodName) ∈ gB := j_inB (i := 1914) (by decide +kernel) (by decide +kernel)
theorem bw_79 : Jvm.Cond.selects "ClickOrdersModel" ({ cls := "ClickOrdersModel", name := "sum", desc := "()I" } : Jvm.MethodName) ({ cls := "ClickOrdersModel", name := "sum", desc := "()I" } : Jvm.MethodName) ∈ gB := j_inB (i := 79) (by decide +kernel) (by decide +kernel)
theorem bw_1903 : Jvm.Cond.code ({ cls := "ClickOrdersModel", name := "test", desc := "()Z" } : Jvm.MethodName) prog_13_method_25_code (4 : Nat) (some Jvm.ClassFile.FieldType.boolean) ∈ gB := j_inB (i := 1903) (by decide +kernel) (by decide +kernel)
theorem bw_1902 : Jvm.Cond.instanceMethod ({ cls := "ClickOrdersModel", name := "test", desc := "()Z" } : Jvm.MethodName) ∈ gB := j_inB (i := 1902) (by decide +kernel) (by decide +kernel)
theorem bw_76 : Jvm.Cond.selects "ClickOrdersModel" ({ cls := "ClickOrdersModel", name := "test", desc := "()Z" } : Jvm.MethodName) ({ cls := "ClickOrdersModel", name := "test", desc := "()Z" } : Jvm.MethodName) ∈ gB := j_inB (i := 76) (by decide +kernel) (by decide +kernel)
theorem bw_1899 : Jvm.Cond.code ({ cls := "ClickOrdersModel", name := "ands", desc := "()Z" } : Jvm.MethodName) prog_13_method_26_code (3 : Nat) (some Jvm.ClassFile.FieldType.boolean) ∈ gB := j_inB (i := 1899) (by decide +kernel) (by decide +kernel)
theorem bw_1898 : Jvm.Cond.instanceMethod ({ cls := "ClickOrdersModel", name := "ands", desc := "()Z" } : Jvm.MethodName) ∈ gB := j_inB (i := 1898) (by decide +kernel) (by decide +kernel)
theorem bw_75 : Jvm.Cond.selects "ClickOrdersModel" ({ cls := "ClickOrdersModel", name := "ands", desc := "()Z" } : Jvm.MethodName) ({ cls := "ClickOrdersModel", name := "ands", desc := "()Z" } : Jvm.MethodName) ∈ gB := j_inB (i := 75) (by decide +kernel) (by decide +kernel)
theorem bw_1895 : Jvm.Cond.code ({ cls := "ClickOrdersModel", name := "ors", desc := "()Z" } : Jvm.MethodName) prog_13_method_27_code (3 : Nat) (some Jvm.ClassFile.FieldType.boolean) ∈ gB := j_inB (i := 1895) (by decide +kernel) (by decide +kernel)
theorem bw_1894 : Jvm.Cond.instanceMethod ({ cls := "ClickOrdersModel", name := "ors", desc := "()Z" } : Jvm.MethodName) ∈ gB := j_inB (i := 1894) (by decide +kernel) (by decide +kernel)
theorem bw_74 : Jvm.Cond.selects "ClickOrdersModel" ({ cls := "ClickOrdersModel", name := "ors", desc := "()Z" } : Jvm.MethodName) ({ cls := "ClickOrdersModel", name := "ors", desc := "()Z" } : Jvm.MethodName) ∈ gB := j_inB (i := 74) (by decide +kernel) (by decide +kernel)
theorem bw_1861 : Jvm.Cond.code ({ cls := "ClickOrdersModel", name := "stepHere", desc := "()I" } : Jvm.MethodName) prog_13_method_28_code (1 : Nat) (some Jvm.ClassFile.FieldType.int) ∈ gB := j_inB (i := 1861) (by decide +kernel) (by decide +kernel)
theorem bw_1860 : Jvm.Cond.instanceMethod ({ cls := "ClickOrdersModel", name := "stepHere", desc := "()I" } : Jvm.MethodName) ∈ gB := j_inB (i := 1860) (by decide +kernel) (by decide +kernel)
theorem bw_67 : Jvm.Cond.selects "ClickOrdersModel" ({ cls := "ClickOrdersModel", name := "stepHere", desc := "()I" } : Jvm.MethodName) ({ cls := "ClickOrdersModel", name := "stepHere", desc := "()I" } : Jvm.MethodName) ∈ gB := j_inB (i := 67) (by decide +kernel) (by decide +kernel)
theorem bw_1857 : Jvm.Cond.code ({ cls := "ClickOrdersModel", name := "doStep", desc := "()V" } : Jvm.MethodName) prog_13_method_29_code (5 : Nat) (Option.none : Option Jvm.ClassFile.FieldType) ∈ gB := j_inB (i := 1857) (by decide +kernel) (by decide +kernel)
theorem bw_1856 : Jvm.Cond.instanceMethod ({ cls := "ClickOrdersModel", name := "doStep", desc := "()V" } : Jvm.MethodName) ∈ gB := j_inB (i := 1856) (by decide +kernel) (by decide +kernel)
theorem bw_66 : Jvm.Cond.selects "ClickOrdersModel" ({ cls := "ClickOrdersModel", name := "doStep", desc := "()V" } : Jvm.MethodName) ({ cls := "ClickOrdersModel", name := "doStep", desc := "()V" } : Jvm.MethodName) ∈ gB := j_inB (i := 66) (by decide +kernel) (by decide +kernel)
theorem bw_1887 : Jvm.Cond.code ({ cls := "ClickOrdersModel", name := "ifStep", desc := "()V" } : Jvm.MethodName) prog_13_method_30_code (3 : Nat) (Option.none : Option Jvm.ClassFile.FieldType) ∈ gB := j_inB (i := 1887) (by decide +kernel) (by decide +kernel)
theorem bw_1886 : Jvm.Cond.instanceMethod ({ cls := "ClickOrdersModel", name := "ifStep", desc := "()V" } : Jvm.MethodName) ∈ gB := j_inB (i := 1886) (by decide +kernel) (by decide +kernel)
theorem bw_72 : Jvm.Cond.selects "ClickOrdersModel" ({ cls := "ClickOrdersModel", name := "ifStep", desc := "()V" } : Jvm.MethodName) ({ cls := "ClickOrdersModel", name := "ifStep", desc := "()V" } : Jvm.MethodName) ∈ gB := j_inB (i := 72) (by decide +kernel) (by decide +kernel)
theorem bw_1947 : Jvm.Cond.code ({ cls := "ClickOrdersModel", name := "names", desc := "(II)V" } : Jvm.MethodName) prog_13_method_31_code (3 : Nat) (Option.none : Option Jvm.ClassFile.FieldType) ∈ gB := j_inB (i := 1947) (by decide +kernel) (by decide +kernel)
theorem bw_1946 : Jvm.Cond.instanceMethod ({ cls := "ClickOrdersModel", name := "names", desc := "(II)V" } : Jvm.MethodName) ∈ gB := j_inB (i := 1946) (by decide +kernel) (by decide +kernel)
theorem bw_86 : Jvm.Cond.selects "ClickOrdersModel" ({ cls := "ClickOrdersModel", name := "names", desc := "(II)V" } : Jvm.MethodName) ({ cls := "ClickOrdersModel", name := "names", desc := "(II)V" } : Jvm.MethodName) ∈ gB := j_inB (i := 86) (by decide +kernel) (by decide +kernel)
theorem bw_1951 : Jvm.Cond.code ({ cls := "ClickOrdersModel", name := "things", desc := "(II)V" } : Jvm.MethodName) prog_13_method_32_code (3 : Nat) (Option.none : Option Jvm.ClassFile.FieldType) ∈ gB := j_inB (i := 1951) (by decide +kernel) (by decide +kernel)
theorem bw_1950 : Jvm.Cond.instanceMethod ({ cls := "ClickOrdersModel", name := "things", desc := "(II)V" } : Jvm.MethodName) ∈ gB := j_inB (i := 1950) (by decide +kernel) (by decide +kernel)
theorem bw_87 : Jvm.Cond.selects "ClickOrdersModel" ({ cls := "ClickOrdersModel", name := "things", desc := "(II)V" } : Jvm.MethodName) ({ cls := "ClickOrdersModel", name := "things", desc := "(II)V" } : Jvm.MethodName) ∈ gB := j_inB (i := 87) (by decide +kernel) (by decide +kernel)
theorem bw_1959 : Jvm.Cond.code ({ cls := "ClickOrdersModel", name := "fails", desc := "()V" } : Jvm.MethodName) prog_13_method_33_code (1 : Nat) (Option.none : Option Jvm.ClassFile.FieldType) ∈ gB := j_inB (i := 1959) (by decide +kernel) (by decide +kernel)
theorem bw_1958 : Jvm.Cond.instanceMethod ({ cls := "ClickOrdersModel", name := "fails", desc := "()V" } : Jvm.MethodName) ∈ gB := j_inB (i := 1958) (by decide +kernel) (by decide +kernel)
theorem bw_89 : Jvm.Cond.selects "ClickOrdersModel" ({ cls := "ClickOrdersModel", name := "fails", desc := "()V" } : Jvm.MethodName) ({ cls := "ClickOrdersModel", name := "fails", desc := "()V" } : Jvm.MethodName) ∈ gB := j_inB (i := 89) (by decide +kernel) (by decide +kernel)
theorem bw_1955 : Jvm.Cond.code ({ cls := "ClickOrdersModel", name := "clocks", desc := "(II)V" } : Jvm.MethodName) prog_13_method_34_code (4 : Nat) (Option.none : Option Jvm.ClassFile.FieldType) ∈ gB := j_inB (i := 1955) (by decide +kernel) (by decide +kernel)
theorem bw_1954 : Jvm.Cond.instanceMethod ({ cls := "ClickOrdersModel", name := "clocks", desc := "(II)V" } : Jvm.MethodName) ∈ gB := j_inB (i := 1954) (by decide +kernel) (by decide +kernel)
theorem bw_88 : Jvm.Cond.selects "ClickOrdersModel" ({ cls := "ClickOrdersModel", name := "clocks", desc := "(II)V" } : Jvm.MethodName) ({ cls := "ClickOrdersModel", name := "clocks", desc := "(II)V" } : Jvm.MethodName) ∈ gB := j_inB (i := 88) (by decide +kernel) (by decide +kernel)
theorem bw_1967 : Jvm.Cond.code ({ cls := "ClickOrdersModel", name := "isForm", desc := "(II)Z" } : Jvm.MethodName) prog_13_method_35_code (4 : Nat) (some Jvm.ClassFile.FieldType.boolean) ∈ gB := j_inB (i := 1967) (by decide +kernel) (by decide +kernel)
theorem bw_1966 : Jvm.Cond.instanceMethod ({ cls := "ClickOrdersModel", name := "isForm", desc := "(II)Z" } : Jvm.MethodName) ∈ gB := j_inB (i := 1966) (by decide +kernel) (by decide +kernel)
theorem bw_91 : Jvm.Cond.selects "ClickOrdersModel" ({ cls := "ClickOrdersModel", name := "isForm", desc := "(II)Z" } : Jvm.MethodName) ({ cls := "ClickOrdersModel", name := "isForm", desc := "(II)Z" } : Jvm.MethodName) ∈ gB := j_inB (i := 91) (by decide +kernel) (by decide +kernel)
theorem bw_1971 : Jvm.Cond.code ({ cls := "ClickOrdersModel", name := "empties", desc := "(I)V" } : Jvm.MethodName) prog_13_method_36_code (3 : Nat) (Option.none : Option Jvm.ClassFile.FieldType) ∈ gB := j_inB (i := 1971) (by decide +kernel) (by decide +kernel)
theorem bw_1970 : Jvm.Cond.instanceMethod ({ cls := "ClickOrdersModel", name := "empties", desc := "(I)V" } : Jvm.MethodName) ∈ gB := j_inB (i := 1970) (by decide +kernel) (by decide +kernel)
theorem bw_92 : Jvm.Cond.selects "ClickOrdersModel" ({ cls := "ClickOrdersModel", name := "empties", desc := "(I)V" } : Jvm.MethodName) ({ cls := "ClickOrdersModel", name := "empties", desc := "(I)V" } : Jvm.MethodName) ∈ gB := j_inB (i := 92) (by decide +kernel) (by decide +kernel)
theorem bw_1963 : Jvm.Cond.code ({ cls := "ClickOrdersModel", name := "asks", desc := "(II)V" } : Jvm.MethodName) prog_13_method_37_code (4 : Nat) (Option.none : Option Jvm.ClassFile.FieldType) ∈ gB := j_inB (i := 1963) (by decide +kernel) (by decide +kernel)
theorem bw_1962 : Jvm.Cond.instanceMethod ({ cls := "ClickOrdersModel", name := "asks", desc := "(II)V" } : Jvm.MethodName) ∈ gB := j_inB (i := 1962) (by decide +kernel) (by decide +kernel)
theorem bw_90 : Jvm.Cond.selects "ClickOrdersModel" ({ cls := "ClickOrdersModel", name := "asks", desc := "(II)V" } : Jvm.MethodName) ({ cls := "ClickOrdersModel", name := "asks", desc := "(II)V" } : Jvm.MethodName) ∈ gB := j_inB (i := 90) (by decide +kernel) (by decide +kernel)
theorem bw_1975 : Jvm.Cond.code ({ cls := "ClickOrdersModel", name := "stops", desc := "(I)V" } : Jvm.MethodName) prog_13_method_38_code (2 : Nat) (Option.none : Option Jvm.ClassFile.FieldType) ∈ gB := j_inB (i := 1975) (by decide +kernel) (by decide +kernel)
theorem bw_1974 : Jvm.Cond.instanceMethod ({ cls := "ClickOrdersModel", name := "stops", desc := "(I)V" } : Jvm.MethodName) ∈ gB := j_inB (i := 1974) (by decide +kernel) (by decide +kernel)
theorem bw_93 : Jvm.Cond.selects "ClickOrdersModel" ({ cls := "ClickOrdersModel", name := "stops", desc := "(I)V" } : Jvm.MethodName) ({ cls := "ClickOrdersModel", name := "stops", desc := "(I)V" } : Jvm.MethodName) ∈ gB := j_inB (i := 93) (by decide +kernel) (by decide +kernel)
theorem bw_1979 : Jvm.Cond.code ({ cls := "ClickOrdersModel", name := "saves", desc := "(II)V" } : Jvm.MethodName) prog_13_method_39_code (3 : Nat) (Option.none : Option Jvm.ClassFile.FieldType) ∈ gB := j_inB (i := 1979) (by decide +kernel) (by decide +kernel)
theorem bw_1978 : Jvm.Cond.instanceMethod ({ cls := "ClickOrdersModel", name := "saves", desc := "(II)V" } : Jvm.MethodName) ∈ gB := j_inB (i := 1978) (by decide +kernel) (by decide +kernel)
theorem bw_94 : Jvm.Cond.selects "ClickOrdersModel" ({ cls := "ClickOrdersModel", name := "saves", desc := "(II)V" } : Jvm.MethodName) ({ cls := "ClickOrdersModel", name := "saves", desc := "(II)V" } : Jvm.MethodName) ∈ gB := j_inB (i := 94) (by decide +kernel) (by decide +kernel)
theorem bw_2192 : Jvm.Cond.code ({ cls := "ClickOrdersModel", name := "eventHere", desc := "()I" } : Jvm.MethodName) prog_13_method_40_code (1 : Nat) (some Jvm.ClassFile.FieldType.int) ∈ gB := j_inB (i := 2192) (by decide +kernel) (by decide +kernel)
theorem bw_2191 : Jvm.Cond.instanceMethod ({ cls := "ClickOrdersModel", name := "eventHere", desc := "()I" } : Jvm.MethodName) ∈ gB := j_inB (i := 2191) (by decide +kernel) (by decide +kernel)
theorem bw_99 : Jvm.Cond.selects "ClickOrdersModel" ({ cls := "ClickOrdersModel", name := "eventHere", desc := "()I" } : Jvm.MethodName) ({ cls := "ClickOrdersModel", name := "eventHere", desc := "()I" } : Jvm.MethodName) ∈ gB := j_inB (i := 99) (by decide +kernel) (by decide +kernel)
theorem bw_2188 : Jvm.Cond.code ({ cls := "ClickOrdersModel", name := "part", desc := "()V" } : Jvm.MethodName) prog_13_method_41_code (4 : Nat) (Option.none : Option Jvm.ClassFile.FieldType) ∈ gB := j_inB (i := 2188) (by decide +kernel) (by decide +kernel)
theorem bw_2187 : Jvm.Cond.instanceMethod ({ cls := "ClickOrdersModel", name := "part", desc := "()V" } : Jvm.MethodName) ∈ gB := j_inB (i := 2187) (by decide +kernel) (by decide +kernel)
theorem bw_98 : Jvm.Cond.selects "ClickOrdersModel" ({ cls := "ClickOrdersModel", name := "part", desc := "()V" } : Jvm.MethodName) ({ cls := "ClickOrdersModel", name := "part", desc := "()V" } : Jvm.MethodName) ∈ gB := j_inB (i := 98) (by decide +kernel) (by decide +kernel)
theorem bw_2180 : Jvm.Cond.code ({ cls := "ClickOrdersModel", name := "program", desc := "(I)I" } : Jvm.MethodName) prog_13_method_42_code (3 : Nat) (some Jvm.ClassFile.FieldType.int) ∈ gB := j_inB (i := 2180) (by decide +kernel) (by decide +kernel)
theorem bw_2178 : Jvm.Cond.instanceMethod ({ cls := "ClickOrdersModel", name := "program", desc := "(I)I" } : Jvm.MethodName) ∈ gB := j_inB (i := 2178) (by decide +kernel) (by decide +kernel)
theorem bw_2179 : Jvm.Cond.selects "ClickOrdersModel" ({ cls := "ClickOrdersModel", name := "program", desc := "(I)I" } : Jvm.MethodName) ({ cls := "ClickOrdersModel", name := "program", desc := "(I)I" } : Jvm.MethodName) ∈ gB := j_inB (i := 2179) (by decide +kernel) (by decide +kernel)
theorem bw_2196 : Jvm.Cond.code ({ cls := "ClickOrdersModel", name := "takesOver", desc := "(I)V" } : Jvm.MethodName) prog_13_method_43_code (3 : Nat) (Option.none : Option Jvm.ClassFile.FieldType) ∈ gB := j_inB (i := 2196) (by decide +kernel) (by decide +kernel)
theorem bw_2195 : Jvm.Cond.instanceMethod ({ cls := "ClickOrdersModel", name := "takesOver", desc := "(I)V" } : Jvm.MethodName) ∈ gB := j_inB (i := 2195) (by decide +kernel) (by decide +kernel)
theorem bw_100 : Jvm.Cond.selects "ClickOrdersModel" ({ cls := "ClickOrdersModel", name := "takesOver", desc := "(I)V" } : Jvm.MethodName) ({ cls := "ClickOrdersModel", name := "takesOver", desc := "(I)V" } : Jvm.MethodName) ∈ gB := j_inB (i := 100) (by decide +kernel) (by decide +kernel)
theorem bw_2200 : Jvm.Cond.code ({ cls := "ClickOrdersModel", name := "fault", desc := "()I" } : Jvm.MethodName) prog_13_method_44_code (1 : Nat) (some Jvm.ClassFile.FieldType.int) ∈ gB := j_inB (i := 2200) (by decide +kernel) (by decide +kernel)
theorem bw_2198 : Jvm.Cond.instanceMethod ({ cls := "ClickOrdersModel", name := "fault", desc := "()I" } : Jvm.MethodName) ∈ gB := j_inB (i := 2198) (by decide +kernel) (by decide +kernel)
theorem bw_2199 : Jvm.Cond.selects "ClickOrdersModel" ({ cls := "ClickOrdersModel", name := "fault", desc := "()I" } : Jvm.MethodName) ({ cls := "ClickOrdersModel", name := "fault", desc := "()I" } : Jvm.MethodName) ∈ gB := j_inB (i := 2199) (by decide +kernel) (by decide +kernel)
theorem bw_1845 : Jvm.Cond.code ({ cls := "ClickOrdersModel", name := "goesTo", desc := "(I)V" } : Jvm.MethodName) prog_13_method_45_code (2 : Nat) (Option.none : Option Jvm.ClassFile.FieldType) ∈ gB := j_inB (i := 1845) (by decide +kernel) (by decide +kernel)
theorem bw_1844 : Jvm.Cond.instanceMethod ({ cls := "ClickOrdersModel", name := "goesTo", desc := "(I)V" } : Jvm.MethodName) ∈ gB := j_inB (i := 1844) (by decide +kernel) (by decide +kernel)
theorem bw_63 : Jvm.Cond.selects "ClickOrdersModel" ({ cls := "ClickOrdersModel", name := "goesTo", desc := "(I)V" } : Jvm.MethodName) ({ cls := "ClickOrdersModel", name := "goesTo", desc := "(I)V" } : Jvm.MethodName) ∈ gB := j_inB (i := 63) (by decide +kernel) (by decide +kernel)
theorem bw_1841 : Jvm.Cond.code ({ cls := "ClickOrdersModel", name := "runs", desc := "(I)V" } : Jvm.MethodName) prog_13_method_46_code (3 : Nat) (Option.none : Option Jvm.ClassFile.FieldType) ∈ gB := j_inB (i := 1841) (by decide +kernel) (by decide +kernel)
theorem bw_1840 : Jvm.Cond.instanceMethod ({ cls := "ClickOrdersModel", name := "runs", desc := "(I)V" } : Jvm.MethodName) ∈ gB := j_inB (i := 1840) (by decide +kernel) (by decide +kernel)
theorem bw_62 : Jvm.Cond.selects "ClickOrdersModel" ({ cls := "ClickOrdersModel", name := "runs", desc := "(I)V" } : Jvm.MethodName) ({ cls := "ClickOrdersModel", name := "runs", desc := "(I)V" } : Jvm.MethodName) ∈ gB := j_inB (i := 62) (by decide +kernel) (by decide +kernel)
theorem bw_2273 : Jvm.Cond.code ({ cls := "ClickOrdersModel", name := "holdsAt", desc := "(IZ)Z" } : Jvm.MethodName) prog_13_method_47_code (3 : Nat) (some Jvm.ClassFile.FieldType.boolean) ∈ gB := j_inB (i := 2273) (by decide +kernel) (by decide +kernel)
theorem bw_2272 : Jvm.Cond.instanceMethod ({ cls := "ClickOrdersModel", name := "holdsAt", desc := "(IZ)Z" } : Jvm.MethodName) ∈ gB := j_inB (i := 2272) (by decide +kernel) (by decide +kernel)
theorem bw_108 : Jvm.Cond.selects "ClickOrdersModel" ({ cls := "ClickOrdersModel", name := "holdsAt", desc := "(IZ)Z" } : Jvm.MethodName) ({ cls := "ClickOrdersModel", name := "holdsAt", desc := "(IZ)Z" } : Jvm.MethodName) ∈ gB := j_inB (i := 108) (by decide +kernel) (by decide +kernel)
theorem bw_1834 : Jvm.Cond.code ({ cls := "ClickOrdersModel", name := "beginsPage", desc := "()V" } : Jvm.MethodName) prog_13_method_48_code (2 : Nat) (Option.none : Option Jvm.ClassFile.FieldType) ∈ gB := j_inB (i := 1834) (by decide +kernel) (by decide +kernel)
theorem bw_1833 : Jvm.Cond.instanceMethod ({ cls := "ClickOrdersModel", name := "beginsPage", desc := "()V" } : Jvm.MethodName) ∈ gB := j_inB (i := 1833) (by decide +kernel) (by decide +kernel)
theorem bw_61 : Jvm.Cond.selects "ClickOrdersModel" ({ cls := "ClickOrdersModel", name := "beginsPage", desc := "()V" } : Jvm.MethodName) ({ cls := "ClickOrdersModel", name := "beginsPage", desc := "()V" } : Jvm.MethodName) ∈ gB := j_inB (i := 61) (by decide +kernel) (by decide +kernel)
theorem bw_1830 : Jvm.Cond.code ({ cls := "ClickOrdersModel", name := "beginsAnew", desc := "()V" } : Jvm.MethodName) prog_13_method_49_code (2 : Nat) (Option.none : Option Jvm.ClassFile.FieldType) ∈ gB := j_inB (i := 1830) (by decide +kernel) (by decide +kernel)
theorem bw_1829 : Jvm.Cond.instanceMethod ({ cls := "ClickOrdersModel", name := "beginsAnew", desc := "()V" } : Jvm.MethodName) ∈ gB := j_inB (i := 1829) (by decide +kernel) (by decide +kernel)
theorem bw_60 : Jvm.Cond.selects "ClickOrdersModel" ({ cls := "ClickOrdersModel", name := "beginsAnew", desc := "()V" } : Jvm.MethodName) ({ cls := "ClickOrdersModel", name := "beginsAnew", desc := "()V" } : Jvm.MethodName) ∈ gB := j_inB (i := 60) (by decide +kernel) (by decide +kernel)
theorem bw_2216 : Jvm.Cond.code ({ cls := "ClickOrdersModel", name := "canCome", desc := "(I)Z" } : Jvm.MethodName) prog_13_method_50_code (3 : Nat) (some Jvm.ClassFile.FieldType.boolean) ∈ gB := j_inB (i := 2216) (by decide +kernel) (by decide +kernel)
theorem bw_2215 : Jvm.Cond.instanceMethod ({ cls := "ClickOrdersModel", name := "canCome", desc := "(I)Z" } : Jvm.MethodName) ∈ gB := j_inB (i := 2215) (by decide +kernel) (by decide +kernel)
theorem bw_102 : Jvm.Cond.selects "ClickOrdersModel" ({ cls := "ClickOrdersModel", name := "canCome", desc := "(I)Z" } : Jvm.MethodName) ({ cls := "ClickOrdersModel", name := "canCome", desc := "(I)Z" } : Jvm.MethodName) ∈ gB := j_inB (i := 102) (by decide +kernel) (by decide +kernel)
theorem bw_2228 : Jvm.Cond.code ({ cls := "ClickOrdersModel", name := "nextClock", desc := "()I" } : Jvm.MethodName) prog_13_method_51_code (3 : Nat) (some Jvm.ClassFile.FieldType.int) ∈ gB := j_inB (i := 2228) (by decide +kernel) (by decide +kernel)
theorem bw_2227 : Jvm.Cond.instanceMethod ({ cls := "ClickOrdersModel", name := "nextClock", desc := "()I" } : Jvm.MethodName) ∈ gB := j_inB (i := 2227) (by decide +kernel) (by decide +kernel)
theorem bw_104 : Jvm.Cond.selects "ClickOrdersModel" ({ cls := "ClickOrdersModel", name := "nextClock", desc := "()I" } : Jvm.MethodName) ({ cls := "ClickOrdersModel", name := "nextClock", desc := "()I" } : Jvm.MethodName) ∈ gB := j_inB (i := 104) (by decide +kernel) (by decide +kernel)
theorem bw_2224 : Jvm.Cond.code ({ cls := "ClickOrdersModel", name := "happens", desc := "(II)I" } : Jvm.MethodName) prog_13_method_52_code (8 : Nat) (some Jvm.ClassFile.FieldType.int) ∈ gB := j_inB (i := 2224) (by decide +kernel) (by decide +kernel)
theorem bw_2223 : Jvm.Cond.instanceMethod ({ cls := "ClickOrdersModel", name := "happens", desc := "(II)I" } : Jvm.MethodName) ∈ gB := j_inB (i := 2223) (by decide +kernel) (by decide +kernel)
theorem bw_103 : Jvm.Cond.selects "ClickOrdersModel" ({ cls := "ClickOrdersModel", name := "happens", desc := "(II)I" } : Jvm.MethodName) ({ cls := "ClickOrdersModel", name := "happens", desc := "(II)I" } : Jvm.MethodName) ∈ gB := j_inB (i := 103) (by decide +kernel) (by decide +kernel)
theorem bw_2232 : Jvm.Cond.code ({ cls := "ClickOrdersModel", name := "takesClock", desc := "(I)V" } : Jvm.MethodName) prog_13_method_53_code (4 : Nat) (Option.none : Option Jvm.ClassFile.FieldType) ∈ gB := j_inB (i := 2232) (by decide +kernel) (by decide +kernel)
theorem bw_2231 : Jvm.Cond.instanceMethod ({ cls := "ClickOrdersModel", name := "takesClock", desc := "(I)V" } : Jvm.MethodName) ∈ gB := j_inB (i := 2231) (by decide +kernel) (by decide +kernel)
theorem bw_105 : Jvm.Cond.selects "ClickOrdersModel" ({ cls := "ClickOrdersModel", name := "takesClock", desc := "(I)V" } : Jvm.MethodName) ({ cls := "ClickOrdersModel", name := "takesClock", desc := "(I)V" } : Jvm.MethodName) ∈ gB := j_inB (i := 105) (by decide +kernel) (by decide +kernel)
theorem bw_2236 : Jvm.Cond.code ({ cls := "ClickOrdersModel", name := "takesAnswer", desc := "(I)V" } : Jvm.MethodName) prog_13_method_54_code (4 : Nat) (Option.none : Option Jvm.ClassFile.FieldType) ∈ gB := j_inB (i := 2236) (by decide +kernel) (by decide +kernel)
theorem bw_2235 : Jvm.Cond.instanceMethod ({ cls := "ClickOrdersModel", name := "takesAnswer", desc := "(I)V" } : Jvm.MethodName) ∈ gB := j_inB (i := 2235) (by decide +kernel) (by decide +kernel)
theorem bw_106 : Jvm.Cond.selects "ClickOrdersModel" ({ cls := "ClickOrdersModel", name := "takesAnswer", desc := "(I)V" } : Jvm.MethodName) ({ cls := "ClickOrdersModel", name := "takesAnswer", desc := "(I)V" } : Jvm.MethodName) ∈ gB := j_inB (i := 106) (by decide +kernel) (by decide +kernel)
theorem bw_2212 : Jvm.Cond.code ({ cls := "ClickOrdersModel", name := "loads", desc := "([I)V" } : Jvm.MethodName) prog_13_method_55_code (3 : Nat) (Option.none : Option Jvm.ClassFile.FieldType) ∈ gB := j_inB (i := 2212) (by decide +kernel) (by decide +kernel)
theorem bw_2211 : Jvm.Cond.instanceMethod ({ cls := "ClickOrdersModel", name := "loads", desc := "([I)V" } : Jvm.MethodName) ∈ gB := j_inB (i := 2211) (by decide +kernel) (by decide +kernel)
theorem bw_101 : Jvm.Cond.selects "ClickOrdersModel" ({ cls := "ClickOrdersModel", name := "loads", desc := "([I)V" } : Jvm.MethodName) ({ cls := "ClickOrdersModel", name := "loads", desc := "([I)V" } : Jvm.MethodName) ∈ gB := j_inB (i := 101) (by decide +kernel) (by decide +kernel)
theorem bw_1983 : Jvm.Cond.code ({ cls := "ClickOrdersModel", name := "keeps", desc := "([I)V" } : Jvm.MethodName) prog_13_method_56_code (3 : Nat) (Option.none : Option Jvm.ClassFile.FieldType) ∈ gB := j_inB (i := 1983) (by decide +kernel) (by decide +kernel)
theorem bw_1982 : Jvm.Cond.instanceMethod ({ cls := "ClickOrdersModel", name := "keeps", desc := "([I)V" } : Jvm.MethodName) ∈ gB := j_inB (i := 1982) (by decide +kernel) (by decide +kernel)
theorem bw_95 : Jvm.Cond.selects "ClickOrdersModel" ({ cls := "ClickOrdersModel", name := "keeps", desc := "([I)V" } : Jvm.MethodName) ({ cls := "ClickOrdersModel", name := "keeps", desc := "([I)V" } : Jvm.MethodName) ∈ gB := j_inB (i := 95) (by decide +kernel) (by decide +kernel)
theorem bw_2269 : Jvm.Cond.code ({ cls := "ClickOrdersModel", name := "isSpoiltPage", desc := "()Z" } : Jvm.MethodName) prog_13_method_57_code (2 : Nat) (some Jvm.ClassFile.FieldType.boolean) ∈ gB := j_inB (i := 2269) (by decide +kernel) (by decide +kernel)
theorem bw_2268 : Jvm.Cond.instanceMethod ({ cls := "ClickOrdersModel", name := "isSpoiltPage", desc := "()Z" } : Jvm.MethodName) ∈ gB := j_inB (i := 2268) (by decide +kernel) (by decide +kernel)
theorem bw_107 : Jvm.Cond.selects "ClickOrdersModel" ({ cls := "ClickOrdersModel", name := "isSpoiltPage", desc := "()Z" } : Jvm.MethodName) ({ cls := "ClickOrdersModel", name := "isSpoiltPage", desc := "()Z" } : Jvm.MethodName) ∈ gB := j_inB (i := 107) (by decide +kernel) (by decide +kernel)
theorem bw_1826 : Jvm.Cond.code ({ cls := "ClickOrdersModel", name := "beginRun", desc := "()V" } : Jvm.MethodName) prog_13_method_58_code (2 : Nat) (Option.none : Option Jvm.ClassFile.FieldType) ∈ gB := j_inB (i := 1826) (by decide +kernel) (by decide +kernel)
theorem bw_1825 : Jvm.Cond.instanceMethod ({ cls := "ClickOrdersModel", name := "beginRun", desc := "()V" } : Jvm.MethodName) ∈ gB := j_inB (i := 1825) (by decide +kernel) (by decide +kernel)
theorem bw_59 : Jvm.Cond.selects "ClickOrdersModel" ({ cls := "ClickOrdersModel", name := "beginRun", desc := "()V" } : Jvm.MethodName) ({ cls := "ClickOrdersModel", name := "beginRun", desc := "()V" } : Jvm.MethodName) ∈ gB := j_inB (i := 59) (by decide +kernel) (by decide +kernel)
theorem bw_2204 : Jvm.Cond.code ({ cls := "ClickOrdersModel", name := "begin", desc := "()I" } : Jvm.MethodName) prog_13_method_59_code (2 : Nat) (some Jvm.ClassFile.FieldType.int) ∈ gB := j_inB (i := 2204) (by decide +kernel) (by decide +kernel)
theorem bw_2202 : Jvm.Cond.instanceMethod ({ cls := "ClickOrdersModel", name := "begin", desc := "()I" } : Jvm.MethodName) ∈ gB := j_inB (i := 2202) (by decide +kernel) (by decide +kernel)
theorem bw_2203 : Jvm.Cond.selects "ClickOrdersModel" ({ cls := "ClickOrdersModel", name := "begin", desc := "()I" } : Jvm.MethodName) ({ cls := "ClickOrdersModel", name := "begin", desc := "()I" } : Jvm.MethodName) ∈ gB := j_inB (i := 2203) (by decide +kernel) (by decide +kernel)
theorem bw_2208 : Jvm.Cond.code ({ cls := "ClickOrdersModel", name := "can", desc := "(I)Z" } : Jvm.MethodName) prog_13_method_60_code (2 : Nat) (some Jvm.ClassFile.FieldType.boolean) ∈ gB := j_inB (i := 2208) (by decide +kernel) (by decide +kernel)
theorem bw_2206 : Jvm.Cond.instanceMethod ({ cls := "ClickOrdersModel", name := "can", desc := "(I)Z" } : Jvm.MethodName) ∈ gB := j_inB (i := 2206) (by decide +kernel) (by decide +kernel)
theorem bw_2207 : Jvm.Cond.selects "ClickOrdersModel" ({ cls := "ClickOrdersModel", name := "can", desc := "(I)Z" } : Jvm.MethodName) ({ cls := "ClickOrdersModel", name := "can", desc := "(I)Z" } : Jvm.MethodName) ∈ gB := j_inB (i := 2207) (by decide +kernel) (by decide +kernel)
theorem bw_2220 : Jvm.Cond.code ({ cls := "ClickOrdersModel", name := "come", desc := "(I)I" } : Jvm.MethodName) prog_13_method_61_code (3 : Nat) (some Jvm.ClassFile.FieldType.int) ∈ gB := j_inB (i := 2220) (by decide +kernel) (by decide +kernel)
theorem bw_2218 : Jvm.Cond.instanceMethod ({ cls := "ClickOrdersModel", name := "come", desc := "(I)I" } : Jvm.MethodName) ∈ gB := j_inB (i := 2218) (by decide +kernel) (by decide +kernel)
theorem bw_2219 : Jvm.Cond.selects "ClickOrdersModel" ({ cls := "ClickOrdersModel", name := "come", desc := "(I)I" } : Jvm.MethodName) ({ cls := "ClickOrdersModel", name := "come", desc := "(I)I" } : Jvm.MethodName) ∈ gB := j_inB (i := 2219) (by decide +kernel) (by decide +kernel)
theorem bw_2240 : Jvm.Cond.code ({ cls := "ClickOrdersModel", name := "name", desc := "(I)I" } : Jvm.MethodName) prog_13_method_62_code (2 : Nat) (some Jvm.ClassFile.FieldType.int) ∈ gB := j_inB (i := 2240) (by decide +kernel) (by decide +kernel)
theorem bw_2238 : Jvm.Cond.instanceMethod ({ cls := "ClickOrdersModel", name := "name", desc := "(I)I" } : Jvm.MethodName) ∈ gB := j_inB (i := 2238) (by decide +kernel) (by decide +kernel)
theorem bw_2239 : Jvm.Cond.selects "ClickOrdersModel" ({ cls := "ClickOrdersModel", name := "name", desc := "(I)I" } : Jvm.MethodName) ({ cls := "ClickOrdersModel", name := "name", desc := "(I)I" } : Jvm.MethodName) ∈ gB := j_inB (i := 2239) (by decide +kernel) (by decide +kernel)
theorem bw_2244 : Jvm.Cond.code ({ cls := "ClickOrdersModel", name := "thing", desc := "(I)I" } : Jvm.MethodName) prog_13_method_63_code (2 : Nat) (some Jvm.ClassFile.FieldType.int) ∈ gB := j_inB (i := 2244) (by decide +kernel) (by decide +kernel)
theorem bw_2242 : Jvm.Cond.instanceMethod ({ cls := "ClickOrdersModel", name := "thing", desc := "(I)I" } : Jvm.MethodName) ∈ gB := j_inB (i := 2242) (by decide +kernel) (by decide +kernel)
theorem bw_2243 : Jvm.Cond.selects "ClickOrdersModel" ({ cls := "ClickOrdersModel", name := "thing", desc := "(I)I" } : Jvm.MethodName) ({ cls := "ClickOrdersModel", name := "thing", desc := "(I)I" } : Jvm.MethodName) ∈ gB := j_inB (i := 2243) (by decide +kernel) (by decide +kernel)
theorem bw_2248 : Jvm.Cond.code ({ cls := "ClickOrdersModel", name := "far", desc := "(I)I" } : Jvm.MethodName) prog_13_method_64_code (2 : Nat) (some Jvm.ClassFile.FieldType.int) ∈ gB := j_inB (i := 2248) (by decide +kernel) (by decide +kernel)
theorem bw_2246 : Jvm.Cond.instanceMethod ({ cls := "ClickOrdersModel", name := "far", desc := "(I)I" } : Jvm.MethodName) ∈ gB := j_inB (i := 2246) (by decide +kernel) (by decide +kernel)
theorem bw_2247 : Jvm.Cond.selects "ClickOrdersModel" ({ cls := "ClickOrdersModel", name := "far", desc := "(I)I" } : Jvm.MethodName) ({ cls := "ClickOrdersModel", name := "far", desc := "(I)I" } : Jvm.MethodName) ∈ gB := j_inB (i := 2247) (by decide +kernel) (by decide +kernel)
theorem bw_2252 : Jvm.Cond.code ({ cls := "ClickOrdersModel", name := "line", desc := "(II)I" } : Jvm.MethodName) prog_13_method_65_code (3 : Nat) (some Jvm.ClassFile.FieldType.int) ∈ gB := j_inB (i := 2252) (by decide +kernel) (by decide +kernel)
theorem bw_2250 : Jvm.Cond.instanceMethod ({ cls := "ClickOrdersModel", name := "line", desc := "(II)I" } : Jvm.MethodName) ∈ gB := j_inB (i := 2250) (by decide +kernel) (by decide +kernel)
theorem bw_2251 : Jvm.Cond.selects "ClickOrdersModel" ({ cls := "ClickOrdersModel", name := "line", desc := "(II)I" } : Jvm.MethodName) ({ cls := "ClickOrdersModel", name := "line", desc := "(II)I" } : Jvm.MethodName) ∈ gB := j_inB (i := 2251) (by decide +kernel) (by decide +kernel)
theorem bw_2257 : Jvm.Cond.code ({ cls := "ClickOrdersModel", name := "clock", desc := "(I)I" } : Jvm.MethodName) prog_13_method_66_code (5 : Nat) (some Jvm.ClassFile.FieldType.int) ∈ gB := j_inB (i := 2257) (by decide +kernel) (by decide +kernel)
theorem bw_2255 : Jvm.Cond.instanceMethod ({ cls := "ClickOrdersModel", name := "clock", desc := "(I)I" } : Jvm.MethodName) ∈ gB := j_inB (i := 2255) (by decide +kernel) (by decide +kernel)
theorem bw_2256 : Jvm.Cond.selects "ClickOrdersModel" ({ cls := "ClickOrdersModel", name := "clock", desc := "(I)I" } : Jvm.MethodName) ({ cls := "ClickOrdersModel", name := "clock", desc := "(I)I" } : Jvm.MethodName) ∈ gB := j_inB (i := 2256) (by decide +kernel) (by decide +kernel)
theorem bw_2261 : Jvm.Cond.code ({ cls := "ClickOrdersModel", name := "failed", desc := "()Z" } : Jvm.MethodName) prog_13_method_67_code (1 : Nat) (some Jvm.ClassFile.FieldType.boolean) ∈ gB := j_inB (i := 2261) (by decide +kernel) (by decide +kernel)
theorem bw_2259 : Jvm.Cond.instanceMethod ({ cls := "ClickOrdersModel", name := "failed", desc := "()Z" } : Jvm.MethodName) ∈ gB := j_inB (i := 2259) (by decide +kernel) (by decide +kernel)
theorem bw_2260 : Jvm.Cond.selects "ClickOrdersModel" ({ cls := "ClickOrdersModel", name := "failed", desc := "()Z" } : Jvm.MethodName) ({ cls := "ClickOrdersModel", name := "failed", desc := "()Z" } : Jvm.MethodName) ∈ gB := j_inB (i := 2260) (by decide +kernel) (by decide +kernel)
theorem bw_2265 : Jvm.Cond.code ({ cls := "ClickOrdersModel", name := "spoilt", desc := "()Z" } : Jvm.MethodName) prog_13_method_68_code (1 : Nat) (some Jvm.ClassFile.FieldType.boolean) ∈ gB := j_inB (i := 2265) (by decide +kernel) (by decide +kernel)
theorem bw_2263 : Jvm.Cond.instanceMethod ({ cls := "ClickOrdersModel", name := "spoilt", desc := "()Z" } : Jvm.MethodName) ∈ gB := j_inB (i := 2263) (by decide +kernel) (by decide +kernel)
theorem bw_2264 : Jvm.Cond.selects "ClickOrdersModel" ({ cls := "ClickOrdersModel", name := "spoilt", desc := "()Z" } : Jvm.MethodName) ({ cls := "ClickOrdersModel", name := "spoilt", desc := "()Z" } : Jvm.MethodName) ∈ gB := j_inB (i := 2264) (by decide +kernel) (by decide +kernel)
theorem bw_2281 : Jvm.Cond.code ({ cls := "ClickOrdersModel", name := "isHappening", desc := "(I)Z" } : Jvm.MethodName) prog_13_method_69_code (2 : Nat) (some Jvm.ClassFile.FieldType.boolean) ∈ gB := j_inB (i := 2281) (by decide +kernel) (by decide +kernel)
theorem bw_2280 : Jvm.Cond.instanceMethod ({ cls := "ClickOrdersModel", name := "isHappening", desc := "(I)Z" } : Jvm.MethodName) ∈ gB := j_inB (i := 2280) (by decide +kernel) (by decide +kernel)
theorem bw_109 : Jvm.Cond.selects "ClickOrdersModel" ({ cls := "ClickOrdersModel", name := "isHappening", desc := "(I)Z" } : Jvm.MethodName) ({ cls := "ClickOrdersModel", name := "isHappening", desc := "(I)Z" } : Jvm.MethodName) ∈ gB := j_inB (i := 109) (by decide +kernel) (by decide +kernel)
theorem bw_2277 : Jvm.Cond.code ({ cls := "ClickOrdersModel", name := "happening", desc := "(II)I" } : Jvm.MethodName) prog_13_method_70_code (3 : Nat) (some Jvm.ClassFile.FieldType.int) ∈ gB := j_inB (i := 2277) (by decide +kernel) (by decide +kernel)
theorem bw_2275 : Jvm.Cond.instanceMethod ({ cls := "ClickOrdersModel", name := "happening", desc := "(II)I" } : Jvm.MethodName) ∈ gB := j_inB (i := 2275) (by decide +kernel) (by decide +kernel)
theorem bw_2276 : Jvm.Cond.selects "ClickOrdersModel" ({ cls := "ClickOrdersModel", name := "happening", desc := "(II)I" } : Jvm.MethodName) ({ cls := "ClickOrdersModel", name := "happening", desc := "(II)I" } : Jvm.MethodName) ∈ gB := j_inB (i := 2276) (by decide +kernel) (by decide +kernel)
theorem bw_2293 : Jvm.Cond.code ({ cls := "ClickOrdersModel", name := "mayPress", desc := "(II)Z" } : Jvm.MethodName) prog_13_method_71_code (3 : Nat) (some Jvm.ClassFile.FieldType.boolean) ∈ gB := j_inB (i := 2293) (by decide +kernel) (by decide +kernel)
theorem bw_2292 : Jvm.Cond.instanceMethod ({ cls := "ClickOrdersModel", name := "mayPress", desc := "(II)Z" } : Jvm.MethodName) ∈ gB := j_inB (i := 2292) (by decide +kernel) (by decide +kernel)
theorem bw_111 : Jvm.Cond.selects "ClickOrdersModel" ({ cls := "ClickOrdersModel", name := "mayPress", desc := "(II)Z" } : Jvm.MethodName) ({ cls := "ClickOrdersModel", name := "mayPress", desc := "(II)Z" } : Jvm.MethodName) ∈ gB := j_inB (i := 111) (by decide +kernel) (by decide +kernel)
theorem bw_2289 : Jvm.Cond.code ({ cls := "ClickOrdersModel", name := "findOrder", desc := "()V" } : Jvm.MethodName) prog_13_method_72_code (5 : Nat) (Option.none : Option Jvm.ClassFile.FieldType) ∈ gB := j_inB (i := 2289) (by decide +kernel) (by decide +kernel)
theorem bw_2288 : Jvm.Cond.instanceMethod ({ cls := "ClickOrdersModel", name := "findOrder", desc := "()V" } : Jvm.MethodName) ∈ gB := j_inB (i := 2288) (by decide +kernel) (by decide +kernel)
theorem bw_110 : Jvm.Cond.selects "ClickOrdersModel" ({ cls := "ClickOrdersModel", name := "findOrder", desc := "()V" } : Jvm.MethodName) ({ cls := "ClickOrdersModel", name := "findOrder", desc := "()V" } : Jvm.MethodName) ∈ gB := j_inB (i := 110) (by decide +kernel) (by decide +kernel)
theorem bw_2285 : Jvm.Cond.code ({ cls := "ClickOrdersModel", name := "ordered", desc := "(II)Z" } : Jvm.MethodName) prog_13_method_73_code (3 : Nat) (some Jvm.ClassFile.FieldType.boolean) ∈ gB := j_inB (i := 2285) (by decide +kernel) (by decide +kernel)
theorem bw_2283 : Jvm.Cond.instanceMethod ({ cls := "ClickOrdersModel", name := "ordered", desc := "(II)Z" } : Jvm.MethodName) ∈ gB := j_inB (i := 2283) (by decide +kernel) (by decide +kernel)
theorem bw_2284 : Jvm.Cond.selects "ClickOrdersModel" ({ cls := "ClickOrdersModel", name := "ordered", desc := "(II)Z" } : Jvm.MethodName) ({ cls := "ClickOrdersModel", name := "ordered", desc := "(II)Z" } : Jvm.MethodName) ∈ gB := j_inB (i := 2284) (by decide +kernel) (by decide +kernel)
theorem bw_2305 : Jvm.Cond.code ({ cls := "ClickOrdersModel", name := "items", desc := "(II)I" } : Jvm.MethodName) prog_13_method_74_code (5 : Nat) (some Jvm.ClassFile.FieldType.int) ∈ gB := j_inB (i := 2305) (by decide +kernel) (by decide +kernel)
theorem bw_2304 : Jvm.Cond.instanceMethod ({ cls := "ClickOrdersModel", name := "items", desc := "(II)I" } : Jvm.MethodName) ∈ gB := j_inB (i := 2304) (by decide +kernel) (by decide +kernel)
theorem bw_113 : Jvm.Cond.selects "ClickOrdersModel" ({ cls := "ClickOrdersModel", name := "items", desc := "(II)I" } : Jvm.MethodName) ({ cls := "ClickOrdersModel", name := "items", desc := "(II)I" } : Jvm.MethodName) ∈ gB := j_inB (i := 113) (by decide +kernel) (by decide +kernel)
theorem bw_2301 : Jvm.Cond.code ({ cls := "ClickOrdersModel", name := "kth", desc := "(IZ)I" } : Jvm.MethodName) prog_13_method_75_code (6 : Nat) (some Jvm.ClassFile.FieldType.int) ∈ gB := j_inB (i := 2301) (by decide +kernel) (by decide +kernel)
theorem bw_2300 : Jvm.Cond.instanceMethod ({ cls := "ClickOrdersModel", name := "kth", desc := "(IZ)I" } : Jvm.MethodName) ∈ gB := j_inB (i := 2300) (by decide +kernel) (by decide +kernel)
theorem bw_112 : Jvm.Cond.selects "ClickOrdersModel" ({ cls := "ClickOrdersModel", name := "kth", desc := "(IZ)I" } : Jvm.MethodName) ({ cls := "ClickOrdersModel", name := "kth", desc := "(IZ)I" } : Jvm.MethodName) ∈ gB := j_inB (i := 112) (by decide +kernel) (by decide +kernel)
theorem bw_2297 : Jvm.Cond.code ({ cls := "ClickOrdersModel", name := "crossings", desc := "()I" } : Jvm.MethodName) prog_13_method_76_code (1 : Nat) (some Jvm.ClassFile.FieldType.int) ∈ gB := j_inB (i := 2297) (by decide +kernel) (by decide +kernel)
theorem bw_2295 : Jvm.Cond.instanceMethod ({ cls := "ClickOrdersModel", name := "crossings", desc := "()I" } : Jvm.MethodName) ∈ gB := j_inB (i := 2295) (by decide +kernel) (by decide +kernel)
theorem bw_2296 : Jvm.Cond.selects "ClickOrdersModel" ({ cls := "ClickOrdersModel", name := "crossings", desc := "()I" } : Jvm.MethodName) ({ cls := "ClickOrdersModel", name := "crossings", desc := "()I" } : Jvm.MethodName) ∈ gB := j_inB (i := 2296) (by decide +kernel) (by decide +kernel)
theorem bw_2309 : Jvm.Cond.code ({ cls := "ClickOrdersModel", name := "crossing", desc := "(I)I" } : Jvm.MethodName) prog_13_method_77_code (2 : Nat) (some Jvm.ClassFile.FieldType.int) ∈ gB := j_inB (i := 2309) (by decide +kernel) (by decide +kernel)
theorem bw_2307 : Jvm.Cond.instanceMethod ({ cls := "ClickOrdersModel", name := "crossing", desc := "(I)I" } : Jvm.MethodName) ∈ gB := j_inB (i := 2307) (by decide +kernel) (by decide +kernel)
theorem bw_2308 : Jvm.Cond.selects "ClickOrdersModel" ({ cls := "ClickOrdersModel", name := "crossing", desc := "(I)I" } : Jvm.MethodName) ({ cls := "ClickOrdersModel", name := "crossing", desc := "(I)I" } : Jvm.MethodName) ∈ gB := j_inB (i := 2308) (by decide +kernel) (by decide +kernel)
theorem bw_2313 : Jvm.Cond.code ({ cls := "ClickOrdersModel", name := "why", desc := "(II)I" } : Jvm.MethodName) prog_13_method_78_code (5 : Nat) (some Jvm.ClassFile.FieldType.int) ∈ gB := j_inB (i := 2313) (by decide +kernel) (by decide +kernel)
theorem bw_2311 : Jvm.Cond.instanceMethod ({ cls := "ClickOrdersModel", name := "why", desc := "(II)I" } : Jvm.MethodName) ∈ gB := j_inB (i := 2311) (by decide +kernel) (by decide +kernel)
theorem bw_2312 : Jvm.Cond.selects "ClickOrdersModel" ({ cls := "ClickOrdersModel", name := "why", desc := "(II)I" } : Jvm.MethodName) ({ cls := "ClickOrdersModel", name := "why", desc := "(II)I" } : Jvm.MethodName) ∈ gB := j_inB (i := 2312) (by decide +kernel) (by decide +kernel)
theorem bw_2329 : Jvm.Cond.code ({ cls := "ClickOrdersModel", name := "again", desc := "(I)Z" } : Jvm.MethodName) prog_13_method_79_code (2 : Nat) (some Jvm.ClassFile.FieldType.boolean) ∈ gB := j_inB (i := 2329) (by decide +kernel) (by decide +kernel)
theorem bw_2328 : Jvm.Cond.instanceMethod ({ cls := "ClickOrdersModel", name := "again", desc := "(I)Z" } : Jvm.MethodName) ∈ gB := j_inB (i := 2328) (by decide +kernel) (by decide +kernel)
theorem bw_116 : Jvm.Cond.selects "ClickOrdersModel" ({ cls := "ClickOrdersModel", name := "again", desc := "(I)Z" } : Jvm.MethodName) ({ cls := "ClickOrdersModel", name := "again", desc := "(I)Z" } : Jvm.MethodName) ∈ gB := j_inB (i := 116) (by decide +kernel) (by decide +kernel)
theorem bw_2333 : Jvm.Cond.code ({ cls := "ClickOrdersModel", name := "isState", desc := "()Z" } : Jvm.MethodName) prog_13_method_80_code (4 : Nat) (some Jvm.ClassFile.FieldType.boolean) ∈ gB := j_inB (i := 2333) (by decide +kernel) (by decide +kernel)
theorem bw_2332 : Jvm.Cond.instanceMethod ({ cls := "ClickOrdersModel", name := "isState", desc := "()Z" } : Jvm.MethodName) ∈ gB := j_inB (i := 2332) (by decide +kernel) (by decide +kernel)
theorem bw_117 : Jvm.Cond.selects "ClickOrdersModel" ({ cls := "ClickOrdersModel", name := "isState", desc := "()Z" } : Jvm.MethodName) ({ cls := "ClickOrdersModel", name := "isState", desc := "()Z" } : Jvm.MethodName) ∈ gB := j_inB (i := 117) (by decide +kernel) (by decide +kernel)
theorem bw_2321 : Jvm.Cond.code ({ cls := "ClickOrdersModel", name := "turned", desc := "(II)I" } : Jvm.MethodName) prog_13_method_81_code (9 : Nat) (some Jvm.ClassFile.FieldType.int) ∈ gB := j_inB (i := 2321) (by decide +kernel) (by decide +kernel)
theorem bw_2320 : Jvm.Cond.instanceMethod ({ cls := "ClickOrdersModel", name := "turned", desc := "(II)I" } : Jvm.MethodName) ∈ gB := j_inB (i := 2320) (by decide +kernel) (by decide +kernel)
theorem bw_114 : Jvm.Cond.selects "ClickOrdersModel" ({ cls := "ClickOrdersModel", name := "turned", desc := "(II)I" } : Jvm.MethodName) ({ cls := "ClickOrdersModel", name := "turned", desc := "(II)I" } : Jvm.MethodName) ∈ gB := j_inB (i := 114) (by decide +kernel) (by decide +kernel)
theorem bw_2325 : Jvm.Cond.code ({ cls := "ClickOrdersModel", name := "puts", desc := "(II)I" } : Jvm.MethodName) prog_13_method_82_code (3 : Nat) (some Jvm.ClassFile.FieldType.int) ∈ gB := j_inB (i := 2325) (by decide +kernel) (by decide +kernel)
theorem bw_2324 : Jvm.Cond.instanceMethod ({ cls := "ClickOrdersModel", name := "puts", desc := "(II)I" } : Jvm.MethodName) ∈ gB := j_inB (i := 2324) (by decide +kernel) (by decide +kernel)
theorem bw_115 : Jvm.Cond.selects "ClickOrdersModel" ({ cls := "ClickOrdersModel", name := "puts", desc := "(II)I" } : Jvm.MethodName) ({ cls := "ClickOrdersModel", name := "puts", desc := "(II)I" } : Jvm.MethodName) ∈ gB := j_inB (i := 115) (by decide +kernel) (by decide +kernel)
theorem bw_2317 : Jvm.Cond.code ({ cls := "ClickOrdersModel", name := "turn", desc := "(II)I" } : Jvm.MethodName) prog_13_method_83_code (3 : Nat) (some Jvm.ClassFile.FieldType.int) ∈ gB := j_inB (i := 2317) (by decide +kernel) (by decide +kernel)
theorem bw_2315 : Jvm.Cond.instanceMethod ({ cls := "ClickOrdersModel", name := "turn", desc := "(II)I" } : Jvm.MethodName) ∈ gB := j_inB (i := 2315) (by decide +kernel) (by decide +kernel)
theorem bw_2316 : Jvm.Cond.selects "ClickOrdersModel" ({ cls := "ClickOrdersModel", name := "turn", desc := "(II)I" } : Jvm.MethodName) ({ cls := "ClickOrdersModel", name := "turn", desc := "(II)I" } : Jvm.MethodName) ∈ gB := j_inB (i := 2316) (by decide +kernel) (by decide +kernel)
theorem bw_2337 : Jvm.Cond.code ({ cls := "ClickOrdersModel", name := "sorts", desc := "(I)I" } : Jvm.MethodName) prog_13_method_84_code (5 : Nat) (some Jvm.ClassFile.FieldType.int) ∈ gB := j_inB (i := 2337) (by decide +kernel) (by decide +kernel)
theorem bw_2335 : Jvm.Cond.instanceMethod ({ cls := "ClickOrdersModel", name := "sorts", desc := "(I)I" } : Jvm.MethodName) ∈ gB := j_inB (i := 2335) (by decide +kernel) (by decide +kernel)
theorem bw_2336 : Jvm.Cond.selects "ClickOrdersModel" ({ cls := "ClickOrdersModel", name := "sorts", desc := "(I)I" } : Jvm.MethodName) ({ cls := "ClickOrdersModel", name := "sorts", desc := "(I)I" } : Jvm.MethodName) ∈ gB := j_inB (i := 2336) (by decide +kernel) (by decide +kernel)
theorem bw_2357 : Jvm.Cond.code ({ cls := "ClickOrdersModel", name := "metBefore", desc := "()I" } : Jvm.MethodName) prog_13_method_85_code (4 : Nat) (some Jvm.ClassFile.FieldType.int) ∈ gB := j_inB (i := 2357) (by decide +kernel) (by decide +kernel)
theorem bw_2356 : Jvm.Cond.instanceMethod ({ cls := "ClickOrdersModel", name := "metBefore", desc := "()I" } : Jvm.MethodName) ∈ gB := j_inB (i := 2356) (by decide +kernel) (by decide +kernel)
theorem bw_121 : Jvm.Cond.selects "ClickOrdersModel" ({ cls := "ClickOrdersModel", name := "metBefore", desc := "()I" } : Jvm.MethodName) ({ cls := "ClickOrdersModel", name := "metBefore", desc := "()I" } : Jvm.MethodName) ∈ gB := j_inB (i := 121) (by decide +kernel) (by decide +kernel)
theorem bw_2353 : Jvm.Cond.code ({ cls := "ClickOrdersModel", name := "meets", desc := "(II)V" } : Jvm.MethodName) prog_13_method_86_code (3 : Nat) (Option.none : Option Jvm.ClassFile.FieldType) ∈ gB := j_inB (i := 2353) (by decide +kernel) (by decide +kernel)
theorem bw_2352 : Jvm.Cond.instanceMethod ({ cls := "ClickOrdersModel", name := "meets", desc := "(II)V" } : Jvm.MethodName) ∈ gB := j_inB (i := 2352) (by decide +kernel) (by decide +kernel)
theorem bw_120 : Jvm.Cond.selects "ClickOrdersModel" ({ cls := "ClickOrdersModel", name := "meets", desc := "(II)V" } : Jvm.MethodName) ({ cls := "ClickOrdersModel", name := "meets", desc := "(II)V" } : Jvm.MethodName) ∈ gB := j_inB (i := 120) (by decide +kernel) (by decide +kernel)
theorem bw_2349 : Jvm.Cond.code ({ cls := "ClickOrdersModel", name := "explore", desc := "(IIZ)V" } : Jvm.MethodName) prog_13_method_87_code (6 : Nat) (Option.none : Option Jvm.ClassFile.FieldType) ∈ gB := j_inB (i := 2349) (by decide +kernel) (by decide +kernel)
theorem bw_2348 : Jvm.Cond.instanceMethod ({ cls := "ClickOrdersModel", name := "explore", desc := "(IIZ)V" } : Jvm.MethodName) ∈ gB := j_inB (i := 2348) (by decide +kernel) (by decide +kernel)
theorem bw_119 : Jvm.Cond.selects "ClickOrdersModel" ({ cls := "ClickOrdersModel", name := "explore", desc := "(IIZ)V" } : Jvm.MethodName) ({ cls := "ClickOrdersModel", name := "explore", desc := "(IIZ)V" } : Jvm.MethodName) ∈ gB := j_inB (i := 119) (by decide +kernel) (by decide +kernel)
theorem bw_2345 : Jvm.Cond.code ({ cls := "ClickOrdersModel", name := "isSearch", desc := "(II)Z" } : Jvm.MethodName) prog_13_method_88_code (3 : Nat) (some Jvm.ClassFile.FieldType.boolean) ∈ gB := j_inB (i := 2345) (by decide +kernel) (by decide +kernel)
theorem bw_2344 : Jvm.Cond.instanceMethod ({ cls := "ClickOrdersModel", name := "isSearch", desc := "(II)Z" } : Jvm.MethodName) ∈ gB := j_inB (i := 2344) (by decide +kernel) (by decide +kernel)
theorem bw_118 : Jvm.Cond.selects "ClickOrdersModel" ({ cls := "ClickOrdersModel", name := "isSearch", desc := "(II)Z" } : Jvm.MethodName) ({ cls := "ClickOrdersModel", name := "isSearch", desc := "(II)Z" } : Jvm.MethodName) ∈ gB := j_inB (i := 118) (by decide +kernel) (by decide +kernel)
theorem bw_2341 : Jvm.Cond.code ({ cls := "ClickOrdersModel", name := "worst", desc := "(II)I" } : Jvm.MethodName) prog_13_method_89_code (3 : Nat) (some Jvm.ClassFile.FieldType.int) ∈ gB := j_inB (i := 2341) (by decide +kernel) (by decide +kernel)
theorem bw_2339 : Jvm.Cond.instanceMethod ({ cls := "ClickOrdersModel", name := "worst", desc := "(II)I" } : Jvm.MethodName) ∈ gB := j_inB (i := 2339) (by decide +kernel) (by decide +kernel)
theorem bw_2340 : Jvm.Cond.selects "ClickOrdersModel" ({ cls := "ClickOrdersModel", name := "worst", desc := "(II)I" } : Jvm.MethodName) ({ cls := "ClickOrdersModel", name := "worst", desc := "(II)I" } : Jvm.MethodName) ∈ gB := j_inB (i := 2340) (by decide +kernel) (by decide +kernel)
theorem bw_2361 : Jvm.Cond.code ({ cls := "ClickOrdersModel", name := "step", desc := "(III)I" } : Jvm.MethodName) prog_13_method_90_code (5 : Nat) (some Jvm.ClassFile.FieldType.int) ∈ gB := j_inB (i := 2361) (by decide +kernel) (by decide +kernel)
theorem bw_2359 : Jvm.Cond.instanceMethod ({ cls := "ClickOrdersModel", name := "step", desc := "(III)I" } : Jvm.MethodName) ∈ gB := j_inB (i := 2359) (by decide +kernel) (by decide +kernel)
theorem bw_2360 : Jvm.Cond.selects "ClickOrdersModel" ({ cls := "ClickOrdersModel", name := "step", desc := "(III)I" } : Jvm.MethodName) ({ cls := "ClickOrdersModel", name := "step", desc := "(III)I" } : Jvm.MethodName) ∈ gB := j_inB (i := 2360) (by decide +kernel) (by decide +kernel)
theorem bw_2365 : Jvm.Cond.code ({ cls := "ClickOrdersModel", name := "pages", desc := "(II)I" } : Jvm.MethodName) prog_13_method_91_code (3 : Nat) (some Jvm.ClassFile.FieldType.int) ∈ gB := j_inB (i := 2365) (by decide +kernel) (by decide +kernel)
theorem bw_2363 : Jvm.Cond.instanceMethod ({ cls := "ClickOrdersModel", name := "pages", desc := "(II)I" } : Jvm.MethodName) ∈ gB := j_inB (i := 2363) (by decide +kernel) (by decide +kernel)
theorem bw_2364 : Jvm.Cond.selects "ClickOrdersModel" ({ cls := "ClickOrdersModel", name := "pages", desc := "(II)I" } : Jvm.MethodName) ({ cls := "ClickOrdersModel", name := "pages", desc := "(II)I" } : Jvm.MethodName) ∈ gB := j_inB (i := 2364) (by decide +kernel) (by decide +kernel)
theorem bw_2377 : Jvm.Cond.code ({ cls := "ClickOrdersModel", name := "reaches", desc := "(II)Z" } : Jvm.MethodName) prog_13_method_92_code (4 : Nat) (some Jvm.ClassFile.FieldType.boolean) ∈ gB := j_inB (i := 2377) (by decide +kernel) (by decide +kernel)
theorem bw_2376 : Jvm.Cond.instanceMethod ({ cls := "ClickOrdersModel", name := "reaches", desc := "(II)Z" } : Jvm.MethodName) ∈ gB := j_inB (i := 2376) (by decide +kernel) (by decide +kernel)
theorem bw_123 : Jvm.Cond.selects "ClickOrdersModel" ({ cls := "ClickOrdersModel", name := "reaches", desc := "(II)Z" } : Jvm.MethodName) ({ cls := "ClickOrdersModel", name := "reaches", desc := "(II)Z" } : Jvm.MethodName) ∈ gB := j_inB (i := 123) (by decide +kernel) (by decide +kernel)
theorem bw_2373 : Jvm.Cond.code ({ cls := "ClickOrdersModel", name := "stuckOnes", desc := "(I)I" } : Jvm.MethodName) prog_13_method_93_code (5 : Nat) (some Jvm.ClassFile.FieldType.int) ∈ gB := j_inB (i := 2373) (by decide +kernel) (by decide +kernel)
theorem bw_2372 : Jvm.Cond.instanceMethod ({ cls := "ClickOrdersModel", name := "stuckOnes", desc := "(I)I" } : Jvm.MethodName) ∈ gB := j_inB (i := 2372) (by decide +kernel) (by decide +kernel)
theorem bw_122 : Jvm.Cond.selects "ClickOrdersModel" ({ cls := "ClickOrdersModel", name := "stuckOnes", desc := "(I)I" } : Jvm.MethodName) ({ cls := "ClickOrdersModel", name := "stuckOnes", desc := "(I)I" } : Jvm.MethodName) ∈ gB := j_inB (i := 122) (by decide +kernel) (by decide +kernel)
theorem bw_2369 : Jvm.Cond.code ({ cls := "ClickOrdersModel", name := "stuck", desc := "(III)I" } : Jvm.MethodName) prog_13_method_94_code (4 : Nat) (some Jvm.ClassFile.FieldType.int) ∈ gB := j_inB (i := 2369) (by decide +kernel) (by decide +kernel)
theorem bw_2367 : Jvm.Cond.instanceMethod ({ cls := "ClickOrdersModel", name := "stuck", desc := "(III)I" } : Jvm.MethodName) ∈ gB := j_inB (i := 2367) (by decide +kernel) (by decide +kernel)
theorem bw_2368 : Jvm.Cond.selects "ClickOrdersModel" ({ cls := "ClickOrdersModel", name := "stuck", desc := "(III)I" } : Jvm.MethodName) ({ cls := "ClickOrdersModel", name := "stuck", desc := "(III)I" } : Jvm.MethodName) ∈ gB := j_inB (i := 2368) (by decide +kernel) (by decide +kernel)
theorem bw_2381 : Jvm.Cond.code ({ cls := "ClickOrdersModel", name := "tell", desc := "(I)I" } : Jvm.MethodName) prog_13_method_95_code (2 : Nat) (some Jvm.ClassFile.FieldType.int) ∈ gB := j_inB (i := 2381) (by decide +kernel) (by decide +kernel)
theorem bw_2379 : Jvm.Cond.instanceMethod ({ cls := "ClickOrdersModel", name := "tell", desc := "(I)I" } : Jvm.MethodName) ∈ gB := j_inB (i := 2379) (by decide +kernel) (by decide +kernel)
theorem bw_2380 : Jvm.Cond.selects "ClickOrdersModel" ({ cls := "ClickOrdersModel", name := "tell", desc := "(I)I" } : Jvm.MethodName) ({ cls := "ClickOrdersModel", name := "tell", desc := "(I)I" } : Jvm.MethodName) ∈ gB := j_inB (i := 2380) (by decide +kernel) (by decide +kernel)
theorem bw_2385 : Jvm.Cond.code ({ cls := "ClickOrdersModel", name := "clear", desc := "()I" } : Jvm.MethodName) prog_13_method_96_code (2 : Nat) (some Jvm.ClassFile.FieldType.int) ∈ gB := j_inB (i := 2385) (by decide +kernel) (by decide +kernel)
theorem bw_2383 : Jvm.Cond.instanceMethod ({ cls := "ClickOrdersModel", name := "clear", desc := "()I" } : Jvm.MethodName) ∈ gB := j_inB (i := 2383) (by decide +kernel) (by decide +kernel)
theorem bw_2384 : Jvm.Cond.selects "ClickOrdersModel" ({ cls := "ClickOrdersModel", name := "clear", desc := "()I" } : Jvm.MethodName) ({ cls := "ClickOrdersModel", name := "clear", desc := "()I" } : Jvm.MethodName) ∈ gB := j_inB (i := 2384) (by decide +kernel) (by decide +kernel)
theorem bw_2389 : Jvm.Cond.code ({ cls := "ClickOrdersModel", name := "record", desc := "()I" } : Jvm.MethodName) prog_13_method_97_code (2 : Nat) (some Jvm.ClassFile.FieldType.int) ∈ gB := j_inB (i := 2389) (by decide +kernel) (by decide +kernel)
theorem bw_2387 : Jvm.Cond.instanceMethod ({ cls := "ClickOrdersModel", name := "record", desc := "()I" } : Jvm.MethodName) ∈ gB := j_inB (i := 2387) (by decide +kernel) (by decide +kernel)
theorem bw_2388 : Jvm.Cond.selects "ClickOrdersModel" ({ cls := "ClickOrdersModel", name := "record", desc := "()I" } : Jvm.MethodName) ({ cls := "ClickOrdersModel", name := "record", desc := "()I" } : Jvm.MethodName) ∈ gB := j_inB (i := 2388) (by decide +kernel) (by decide +kernel)
theorem bw_2397 : Jvm.Cond.code ({ cls := "ClickOrdersModel", name := "spoils", desc := "(I)Z" } : Jvm.MethodName) prog_13_method_98_code (3 : Nat) (some Jvm.ClassFile.FieldType.boolean) ∈ gB := j_inB (i := 2397) (by decide +kernel) (by decide +kernel)
theorem bw_2396 : Jvm.Cond.instanceMethod ({ cls := "ClickOrdersModel", name := "spoils", desc := "(I)Z" } : Jvm.MethodName) ∈ gB := j_inB (i := 2396) (by decide +kernel) (by decide +kernel)
theorem bw_124 : Jvm.Cond.selects "ClickOrdersModel" ({ cls := "ClickOrdersModel", name := "spoils", desc := "(I)Z" } : Jvm.MethodName) ({ cls := "ClickOrdersModel", name := "spoils", desc := "(I)Z" } : Jvm.MethodName) ∈ gB := j_inB (i := 124) (by decide +kernel) (by decide +kernel)
theorem bw_2393 : Jvm.Cond.code ({ cls := "ClickOrdersModel", name := "cut", desc := "()I" } : Jvm.MethodName) prog_13_method_99_code (4 : Nat) (some Jvm.ClassFile.FieldType.int) ∈ gB := j_inB (i := 2393) (by decide +kernel) (by decide +kernel)
theorem bw_2391 : Jvm.Cond.instanceMethod ({ cls := "ClickOrdersModel", name := "cut", desc := "()I" } : Jvm.MethodName) ∈ gB := j_inB (i := 2391) (by decide +kernel) (by decide +kernel)
theorem bw_2392 : Jvm.Cond.selects "ClickOrdersModel" ({ cls := "ClickOrdersModel", name := "cut", desc := "()I" } : Jvm.MethodName) ({ cls := "ClickOrdersModel", name := "cut", desc := "()I" } : Jvm.MethodName) ∈ gB := j_inB (i := 2392) (by decide +kernel) (by decide +kernel)
theorem bw_2401 : Jvm.Cond.code ({ cls := "ClickOrdersModel", name := "told", desc := "(I)I" } : Jvm.MethodName) prog_13_method_100_code (2 : Nat) (some Jvm.ClassFile.FieldType.int) ∈ gB := j_inB (i := 2401) (by decide +kernel) (by decide +kernel)
theorem bw_2399 : Jvm.Cond.instanceMethod ({ cls := "ClickOrdersModel", name := "told", desc := "(I)I" } : Jvm.MethodName) ∈ gB := j_inB (i := 2399) (by decide +kernel) (by decide +kernel)
theorem bw_2400 : Jvm.Cond.selects "ClickOrdersModel" ({ cls := "ClickOrdersModel", name := "told", desc := "(I)I" } : Jvm.MethodName) ({ cls := "ClickOrdersModel", name := "told", desc := "(I)I" } : Jvm.MethodName) ∈ gB := j_inB (i := 2400) (by decide +kernel) (by decide +kernel)
theorem bw_2405 : Jvm.Cond.code ({ cls := "ClickOrdersModel", name := "form", desc := "(IIII)I" } : Jvm.MethodName) prog_13_method_101_code (5 : Nat) (some Jvm.ClassFile.FieldType.int) ∈ gB := j_inB (i := 2405) (by decide +kernel) (by decide +kernel)
theorem bw_2403 : Jvm.Cond.instanceMethod ({ cls := "ClickOrdersModel", name := "form", desc := "(IIII)I" } : Jvm.MethodName) ∈ gB := j_inB (i := 2403) (by decide +kernel) (by decide +kernel)
theorem bw_2404 : Jvm.Cond.selects "ClickOrdersModel" ({ cls := "ClickOrdersModel", name := "form", desc := "(IIII)I" } : Jvm.MethodName) ({ cls := "ClickOrdersModel", name := "form", desc := "(IIII)I" } : Jvm.MethodName) ∈ gB := j_inB (i := 2404) (by decide +kernel) (by decide +kernel)
theorem bw_2409 : Jvm.Cond.code ({ cls := "ClickOrdersModel", name := "use", desc := "(IZ)Z" } : Jvm.MethodName) prog_13_method_102_code (4 : Nat) (some Jvm.ClassFile.FieldType.boolean) ∈ gB := j_inB (i := 2409) (by decide +kernel) (by decide +kernel)
theorem bw_2407 : Jvm.Cond.instanceMethod ({ cls := "ClickOrdersModel", name := "use", desc := "(IZ)Z" } : Jvm.MethodName) ∈ gB := j_inB (i := 2407) (by decide +kernel) (by decide +kernel)
theorem bw_2408 : Jvm.Cond.selects "ClickOrdersModel" ({ cls := "ClickOrdersModel", name := "use", desc := "(IZ)Z" } : Jvm.MethodName) ({ cls := "ClickOrdersModel", name := "use", desc := "(IZ)Z" } : Jvm.MethodName) ∈ gB := j_inB (i := 2408) (by decide +kernel) (by decide +kernel)
theorem bw_2428 : Jvm.Cond.code ({ cls := "ClickOrdersModel", name := "turnsOn", desc := "(I)V" } : Jvm.MethodName) prog_13_method_103_code (3 : Nat) (Option.none : Option Jvm.ClassFile.FieldType) ∈ gB := j_inB (i := 2428) (by decide +kernel) (by decide +kernel)
theorem bw_2427 : Jvm.Cond.instanceMethod ({ cls := "ClickOrdersModel", name := "turnsOn", desc := "(I)V" } : Jvm.MethodName) ∈ gB := j_inB (i := 2427) (by decide +kernel) (by decide +kernel)
theorem bw_127 : Jvm.Cond.selects "ClickOrdersModel" ({ cls := "ClickOrdersModel", name := "turnsOn", desc := "(I)V" } : Jvm.MethodName) ({ cls := "ClickOrdersModel", name := "turnsOn", desc := "(I)V" } : Jvm.MethodName) ∈ gB := j_inB (i := 127) (by decide +kernel) (by decide +kernel)
theorem bw_2432 : Jvm.Cond.code ({ cls := "ClickOrdersModel", name := "isSafe", desc := "(III)Z" } : Jvm.MethodName) prog_13_method_104_code (5 : Nat) (some Jvm.ClassFile.FieldType.boolean) ∈ gB := j_inB (i := 2432) (by decide +kernel) (by decide +kernel)
theorem bw_2431 : Jvm.Cond.instanceMethod ({ cls := "ClickOrdersModel", name := "isSafe", desc := "(III)Z" } : Jvm.MethodName) ∈ gB := j_inB (i := 2431) (by decide +kernel) (by decide +kernel)
theorem bw_128 : Jvm.Cond.selects "ClickOrdersModel" ({ cls := "ClickOrdersModel", name := "isSafe", desc := "(III)Z" } : Jvm.MethodName) ({ cls := "ClickOrdersModel", name := "isSafe", desc := "(III)Z" } : Jvm.MethodName) ∈ gB := j_inB (i := 128) (by decide +kernel) (by decide +kernel)
theorem bw_2421 : Jvm.Cond.code ({ cls := "ClickOrdersModel", name := "priceOf", desc := "(I)I" } : Jvm.MethodName) prog_13_method_105_code (4 : Nat) (some Jvm.ClassFile.FieldType.int) ∈ gB := j_inB (i := 2421) (by decide +kernel) (by decide +kernel)
theorem bw_2420 : Jvm.Cond.instanceMethod ({ cls := "ClickOrdersModel", name := "priceOf", desc := "(I)I" } : Jvm.MethodName) ∈ gB := j_inB (i := 2420) (by decide +kernel) (by decide +kernel)
theorem bw_126 : Jvm.Cond.selects "ClickOrdersModel" ({ cls := "ClickOrdersModel", name := "priceOf", desc := "(I)I" } : Jvm.MethodName) ({ cls := "ClickOrdersModel", name := "priceOf", desc := "(I)I" } : Jvm.MethodName) ∈ gB := j_inB (i := 126) (by decide +kernel) (by decide +kernel)
theorem bw_2424 : Jvm.Cond.code ({ cls := "ClickOrdersModel", name := "ones", desc := "(I)I" } : Jvm.MethodName) prog_13_method_106_code (3 : Nat) (some Jvm.ClassFile.FieldType.int) ∈ gB := j_inB (i := 2424) (by decide +kernel) (by decide +kernel)
theorem bw_2423 : Jvm.Cond.static ({ cls := "ClickOrdersModel", name := "ones", desc := "(I)I" } : Jvm.MethodName) ∈ gB := j_inB (i := 2423) (by decide +kernel) (by decide +kernel)
theorem bw_2417 : Jvm.Cond.code ({ cls := "ClickOrdersModel", name := "isAhead", desc := "(II)Z" } : Jvm.MethodName) prog_13_method_107_code (4 : Nat) (some Jvm.ClassFile.FieldType.boolean) ∈ gB := j_inB (i := 2417) (by decide +kernel) (by decide +kernel)
theorem bw_2416 : Jvm.Cond.instanceMethod ({ cls := "ClickOrdersModel", name := "isAhead", desc := "(II)Z" } : Jvm.MethodName) ∈ gB := j_inB (i := 2416) (by decide +kernel) (by decide +kernel)
theorem bw_125 : Jvm.Cond.selects "ClickOrdersModel" ({ cls := "ClickOrdersModel", name := "isAhead", desc := "(II)Z" } : Jvm.MethodName) ({ cls := "ClickOrdersModel", name := "isAhead", desc := "(II)Z" } : Jvm.MethodName) ∈ gB := j_inB (i := 125) (by decide +kernel) (by decide +kernel)
theorem bw_2413 : Jvm.Cond.code ({ cls := "ClickOrdersModel", name := "cheapest", desc := "(IIII)I" } : Jvm.MethodName) prog_13_method_108_code (8 : Nat) (some Jvm.ClassFile.FieldType.int) ∈ gB := j_inB (i := 2413) (by decide +kernel) (by decide +kernel)
theorem bw_2411 : Jvm.Cond.instanceMethod ({ cls := "ClickOrdersModel", name := "cheapest", desc := "(IIII)I" } : Jvm.MethodName) ∈ gB := j_inB (i := 2411) (by decide +kernel) (by decide +kernel)
theorem bw_2412 : Jvm.Cond.selects "ClickOrdersModel" ({ cls := "ClickOrdersModel", name := "cheapest", desc := "(IIII)I" } : Jvm.MethodName) ({ cls := "ClickOrdersModel", name := "cheapest", desc := "(IIII)I" } : Jvm.MethodName) ∈ gB := j_inB (i := 2412) (by decide +kernel) (by decide +kernel)
theorem bw_1987 : Jvm.Cond.code ({ cls := "ClickOrdersModel", name := "beginWindows", desc := "()V" } : Jvm.MethodName) prog_13_method_109_code (2 : Nat) (Option.none : Option Jvm.ClassFile.FieldType) ∈ gB := j_inB (i := 1987) (by decide +kernel) (by decide +kernel)
theorem bw_1986 : Jvm.Cond.instanceMethod ({ cls := "ClickOrdersModel", name := "beginWindows", desc := "()V" } : Jvm.MethodName) ∈ gB := j_inB (i := 1986) (by decide +kernel) (by decide +kernel)
theorem bw_96 : Jvm.Cond.selects "ClickOrdersModel" ({ cls := "ClickOrdersModel", name := "beginWindows", desc := "()V" } : Jvm.MethodName) ({ cls := "ClickOrdersModel", name := "beginWindows", desc := "()V" } : Jvm.MethodName) ∈ gB := j_inB (i := 96) (by decide +kernel) (by decide +kernel)
theorem bw_2444 : Jvm.Cond.code ({ cls := "ClickOrdersModel", name := "comesTo", desc := "(II)Z" } : Jvm.MethodName) prog_13_method_110_code (4 : Nat) (some Jvm.ClassFile.FieldType.boolean) ∈ gB := j_inB (i := 2444) (by decide +kernel) (by decide +kernel)
theorem bw_2443 : Jvm.Cond.instanceMethod ({ cls := "ClickOrdersModel", name := "comesTo", desc := "(II)Z" } : Jvm.MethodName) ∈ gB := j_inB (i := 2443) (by decide +kernel) (by decide +kernel)
theorem bw_129 : Jvm.Cond.selects "ClickOrdersModel" ({ cls := "ClickOrdersModel", name := "comesTo", desc := "(II)Z" } : Jvm.MethodName) ({ cls := "ClickOrdersModel", name := "comesTo", desc := "(II)Z" } : Jvm.MethodName) ∈ gB := j_inB (i := 129) (by decide +kernel) (by decide +kernel)
theorem bw_2436 : Jvm.Cond.code ({ cls := "ClickOrdersModel", name := "windows", desc := "()I" } : Jvm.MethodName) prog_13_method_111_code (2 : Nat) (some Jvm.ClassFile.FieldType.int) ∈ gB := j_inB (i := 2436) (by decide +kernel) (by decide +kernel)
theorem bw_2434 : Jvm.Cond.instanceMethod ({ cls := "ClickOrdersModel", name := "windows", desc := "()I" } : Jvm.MethodName) ∈ gB := j_inB (i := 2434) (by decide +kernel) (by decide +kernel)
theorem bw_2435 : Jvm.Cond.selects "ClickOrdersModel" ({ cls := "ClickOrdersModel", name := "windows", desc := "()I" } : Jvm.MethodName) ({ cls := "ClickOrdersModel", name := "windows", desc := "()I" } : Jvm.MethodName) ∈ gB := j_inB (i := 2435) (by decide +kernel) (by decide +kernel)
theorem bw_2440 : Jvm.Cond.code ({ cls := "ClickOrdersModel", name := "comes", desc := "(II)I" } : Jvm.MethodName) prog_13_method_112_code (3 : Nat) (some Jvm.ClassFile.FieldType.int) ∈ gB := j_inB (i := 2440) (by decide +kernel) (by decide +kernel)
theorem bw_2438 : Jvm.Cond.instanceMethod ({ cls := "ClickOrdersModel", name := "comes", desc := "(II)I" } : Jvm.MethodName) ∈ gB := j_inB (i := 2438) (by decide +kernel) (by decide +kernel)
theorem bw_2439 : Jvm.Cond.selects "ClickOrdersModel" ({ cls := "ClickOrdersModel", name := "comes", desc := "(II)I" } : Jvm.MethodName) ({ cls := "ClickOrdersModel", name := "comes", desc := "(II)I" } : Jvm.MethodName) ∈ gB := j_inB (i := 2439) (by decide +kernel) (by decide +kernel)
theorem bw_2448 : Jvm.Cond.code ({ cls := "ClickOrdersModel", name := "shows", desc := "(II)I" } : Jvm.MethodName) prog_13_method_113_code (3 : Nat) (some Jvm.ClassFile.FieldType.int) ∈ gB := j_inB (i := 2448) (by decide +kernel) (by decide +kernel)
theorem bw_2446 : Jvm.Cond.instanceMethod ({ cls := "ClickOrdersModel", name := "shows", desc := "(II)I" } : Jvm.MethodName) ∈ gB := j_inB (i := 2446) (by decide +kernel) (by decide +kernel)
theorem bw_2447 : Jvm.Cond.selects "ClickOrdersModel" ({ cls := "ClickOrdersModel", name := "shows", desc := "(II)I" } : Jvm.MethodName) ({ cls := "ClickOrdersModel", name := "shows", desc := "(II)I" } : Jvm.MethodName) ∈ gB := j_inB (i := 2447) (by decide +kernel) (by decide +kernel)
theorem bw_2456 : Jvm.Cond.code ({ cls := "ClickOrdersModel", name := "keepsWindows", desc := "(I)V" } : Jvm.MethodName) prog_13_method_114_code (3 : Nat) (Option.none : Option Jvm.ClassFile.FieldType) ∈ gB := j_inB (i := 2456) (by decide +kernel) (by decide +kernel)
theorem bw_2455 : Jvm.Cond.instanceMethod ({ cls := "ClickOrdersModel", name := "keepsWindows", desc := "(I)V" } : Jvm.MethodName) ∈ gB := j_inB (i := 2455) (by decide +kernel) (by decide +kernel)
theorem bw_130 : Jvm.Cond.selects "ClickOrdersModel" ({ cls := "ClickOrdersModel", name := "keepsWindows", desc := "(I)V" } : Jvm.MethodName) ({ cls := "ClickOrdersModel", name := "keepsWindows", desc := "(I)V" } : Jvm.MethodName) ∈ gB := j_inB (i := 130) (by decide +kernel) (by decide +kernel)
theorem bw_2464 : Jvm.Cond.code ({ cls := "ClickOrdersModel", name := "loadsWindows", desc := "(I)V" } : Jvm.MethodName) prog_13_method_115_code (3 : Nat) (Option.none : Option Jvm.ClassFile.FieldType) ∈ gB := j_inB (i := 2464) (by decide +kernel) (by decide +kernel)
theorem bw_2463 : Jvm.Cond.instanceMethod ({ cls := "ClickOrdersModel", name := "loadsWindows", desc := "(I)V" } : Jvm.MethodName) ∈ gB := j_inB (i := 2463) (by decide +kernel) (by decide +kernel)
theorem bw_132 : Jvm.Cond.selects "ClickOrdersModel" ({ cls := "ClickOrdersModel", name := "loadsWindows", desc := "(I)V" } : Jvm.MethodName) ({ cls := "ClickOrdersModel", name := "loadsWindows", desc := "(I)V" } : Jvm.MethodName) ∈ gB := j_inB (i := 132) (by decide +kernel) (by decide +kernel)
theorem bw_2460 : Jvm.Cond.code ({ cls := "ClickOrdersModel", name := "loses", desc := "(II)Z" } : Jvm.MethodName) prog_13_method_116_code (6 : Nat) (some Jvm.ClassFile.FieldType.boolean) ∈ gB := j_inB (i := 2460) (by decide +kernel) (by decide +kernel)
theorem bw_2459 : Jvm.Cond.instanceMethod ({ cls := "ClickOrdersModel", name := "loses", desc := "(II)Z" } : Jvm.MethodName) ∈ gB := j_inB (i := 2459) (by decide +kernel) (by decide +kernel)
theorem bw_131 : Jvm.Cond.selects "ClickOrdersModel" ({ cls := "ClickOrdersModel", name := "loses", desc := "(II)Z" } : Jvm.MethodName) ({ cls := "ClickOrdersModel", name := "loses", desc := "(II)Z" } : Jvm.MethodName) ∈ gB := j_inB (i := 131) (by decide +kernel) (by decide +kernel)
theorem bw_2452 : Jvm.Cond.code ({ cls := "ClickOrdersModel", name := "lost", desc := "(I)I" } : Jvm.MethodName) prog_13_method_117_code (4 : Nat) (some Jvm.ClassFile.FieldType.int) ∈ gB := j_inB (i := 2452) (by decide +kernel) (by decide +kernel)
theorem bw_2450 : Jvm.Cond.instanceMethod ({ cls := "ClickOrdersModel", name := "lost", desc := "(I)I" } : Jvm.MethodName) ∈ gB := j_inB (i := 2450) (by decide +kernel) (by decide +kernel)
theorem bw_2451 : Jvm.Cond.selects "ClickOrdersModel" ({ cls := "ClickOrdersModel", name := "lost", desc := "(I)I" } : Jvm.MethodName) ({ cls := "ClickOrdersModel", name := "lost", desc := "(I)I" } : Jvm.MethodName) ∈ gB := j_inB (i := 2451) (by decide +kernel) (by decide +kernel)
theorem bw_2468 : Jvm.Cond.code ({ cls := "ClickOrdersModel", name := "newer", desc := "(II)I" } : Jvm.MethodName) prog_13_method_118_code (4 : Nat) (some Jvm.ClassFile.FieldType.int) ∈ gB := j_inB (i := 2468) (by decide +kernel) (by decide +kernel)
theorem bw_2466 : Jvm.Cond.instanceMethod ({ cls := "ClickOrdersModel", name := "newer", desc := "(II)I" } : Jvm.MethodName) ∈ gB := j_inB (i := 2466) (by decide +kernel) (by decide +kernel)
theorem bw_2467 : Jvm.Cond.selects "ClickOrdersModel" ({ cls := "ClickOrdersModel", name := "newer", desc := "(II)I" } : Jvm.MethodName) ({ cls := "ClickOrdersModel", name := "newer", desc := "(II)I" } : Jvm.MethodName) ∈ gB := j_inB (i := 2467) (by decide +kernel) (by decide +kernel)
theorem bw_2472 : Jvm.Cond.code ({ cls := "ClickOrdersModel", name := "count", desc := "(I)I" } : Jvm.MethodName) prog_13_method_119_code (5 : Nat) (some Jvm.ClassFile.FieldType.int) ∈ gB := j_inB (i := 2472) (by decide +kernel) (by decide +kernel)
theorem bw_2470 : Jvm.Cond.instanceMethod ({ cls := "ClickOrdersModel", name := "count", desc := "(I)I" } : Jvm.MethodName) ∈ gB := j_inB (i := 2470) (by decide +kernel) (by decide +kernel)
theorem bw_2471 : Jvm.Cond.selects "ClickOrdersModel" ({ cls := "ClickOrdersModel", name := "count", desc := "(I)I" } : Jvm.MethodName) ({ cls := "ClickOrdersModel", name := "count", desc := "(I)I" } : Jvm.MethodName) ∈ gB := j_inB (i := 2471) (by decide +kernel) (by decide +kernel)
theorem bw_1990 : Jvm.Cond.fieldLink "ClickOrdersModel" (11 : Nat) "ClickOrdersModel" "place" "I" ∈ gB := j_inB (i := 1990) (by decide +kernel) (by decide +kernel)
theorem bw_1997 : Jvm.Cond.fieldLink "ClickOrdersModel" (15 : Nat) "ClickOrdersModel" "fed" "[I" ∈ gB := j_inB (i := 1997) (by decide +kernel) (by decide +kernel)
theorem bw_1998 : Jvm.Cond.fieldLink "ClickOrdersModel" (21 : Nat) "ClickOrdersModel" "text" "[[I" ∈ gB := j_inB (i := 1998) (by decide +kernel) (by decide +kernel)
theorem bw_1999 : Jvm.Cond.fieldLink "ClickOrdersModel" (24 : Nat) "ClickOrdersModel" "handler" "[[I" ∈ gB := j_inB (i := 1999) (by decide +kernel) (by decide +kernel)
theorem bw_2000 : Jvm.Cond.fieldLink "ClickOrdersModel" (27 : Nat) "ClickOrdersModel" "textSize" "[I" ∈ gB := j_inB (i := 2000) (by decide +kernel) (by decide +kernel)
theorem bw_2001 : Jvm.Cond.fieldLink "ClickOrdersModel" (30 : Nat) "ClickOrdersModel" "steps" "[I" ∈ gB := j_inB (i := 2001) (by decide +kernel) (by decide +kernel)
theorem bw_2002 : Jvm.Cond.fieldLink "ClickOrdersModel" (33 : Nat) "ClickOrdersModel" "harmAt" "[I" ∈ gB := j_inB (i := 2002) (by decide +kernel) (by decide +kernel)
theorem bw_2003 : Jvm.Cond.fieldLink "ClickOrdersModel" (36 : Nat) "ClickOrdersModel" "placeAt" "[I" ∈ gB := j_inB (i := 2003) (by decide +kernel) (by decide +kernel)
theorem bw_2008 : Jvm.Cond.fieldLink "ClickOrdersModel" (39 : Nat) "ClickOrdersModel" "foundHandler" "[I" ∈ gB := j_inB (i := 2008) (by decide +kernel) (by decide +kernel)
theorem bw_2009 : Jvm.Cond.fieldLink "ClickOrdersModel" (42 : Nat) "ClickOrdersModel" "page" "[I" ∈ gB := j_inB (i := 2009) (by decide +kernel) (by decide +kernel)
theorem bw_2017 : Jvm.Cond.fieldLink "ClickOrdersModel" (45 : Nat) "ClickOrdersModel" "window" "I" ∈ gB := j_inB (i := 2017) (by decide +kernel) (by decide +kernel)
theorem bw_2018 : Jvm.Cond.fieldLink "ClickOrdersModel" (48 : Nat) "ClickOrdersModel" "runPage" "[I" ∈ gB := j_inB (i := 2018) (by decide +kernel) (by decide +kernel)
theorem bw_2020 : Jvm.Cond.fieldLink "ClickOrdersModel" (51 : Nat) "ClickOrdersModel" "code" "[I" ∈ gB := j_inB (i := 2020) (by decide +kernel) (by decide +kernel)
theorem bw_2021 : Jvm.Cond.fieldLink "ClickOrdersModel" (54 : Nat) "ClickOrdersModel" "begot" "[I" ∈ gB := j_inB (i := 2021) (by decide +kernel) (by decide +kernel)
theorem bw_2022 : Jvm.Cond.fieldLink "ClickOrdersModel" (57 : Nat) "ClickOrdersModel" "reads" "[I" ∈ gB := j_inB (i := 2022) (by decide +kernel) (by decide +kernel)
theorem bw_2023 : Jvm.Cond.fieldLink "ClickOrdersModel" (60 : Nat) "ClickOrdersModel" "writes" "[I" ∈ gB := j_inB (i := 2023) (by decide +kernel) (by decide +kernel)
theorem bw_2024 : Jvm.Cond.fieldLink "ClickOrdersModel" (63 : Nat) "ClickOrdersModel" "states" "[[I" ∈ gB := j_inB (i := 2024) (by decide +kernel) (by decide +kernel)
theorem bw_2025 : Jvm.Cond.fieldLink "ClickOrdersModel" (68 : Nat) "ClickOrdersModel" "isOrdered" "[[Z" ∈ gB := j_inB (i := 2025) (by decide +kernel) (by decide +kernel)
theorem bw_2027 : Jvm.Cond.fieldLink "ClickOrdersModel" (71 : Nat) "ClickOrdersModel" "sort" "[I" ∈ gB := j_inB (i := 2027) (by decide +kernel) (by decide +kernel)
theorem bw_2028 : Jvm.Cond.fieldLink "ClickOrdersModel" (74 : Nat) "ClickOrdersModel" "formThing" "[I" ∈ gB := j_inB (i := 2028) (by decide +kernel) (by decide +kernel)
theorem bw_2029 : Jvm.Cond.fieldLink "ClickOrdersModel" (77 : Nat) "ClickOrdersModel" "formLine" "[I" ∈ gB := j_inB (i := 2029) (by decide +kernel) (by decide +kernel)
theorem bw_2030 : Jvm.Cond.fieldLink "ClickOrdersModel" (80 : Nat) "ClickOrdersModel" "price" "[I" ∈ gB := j_inB (i := 2030) (by decide +kernel) (by decide +kernel)
theorem bw_2031 : Jvm.Cond.fieldLink "ClickOrdersModel" (83 : Nat) "ClickOrdersModel" "isOn" "[Z" ∈ gB := j_inB (i := 2031) (by decide +kernel) (by decide +kernel)
theorem bw_2032 : Jvm.Cond.fieldLink "ClickOrdersModel" (87 : Nat) "ClickOrdersModel" "met" "[[I" ∈ gB := j_inB (i := 2032) (by decide +kernel) (by decide +kernel)
theorem bw_2033 : Jvm.Cond.fieldLink "ClickOrdersModel" (90 : Nat) "ClickOrdersModel" "from" "[I" ∈ gB := j_inB (i := 2033) (by decide +kernel) (by decide +kernel)
theorem bw_2034 : Jvm.Cond.fieldLink "ClickOrdersModel" (93 : Nat) "ClickOrdersModel" "by" "[I" ∈ gB := j_inB (i := 2034) (by decide +kernel) (by decide +kernel)
theorem bw_2035 : Jvm.Cond.fieldLink "ClickOrdersModel" (96 : Nat) "ClickOrdersModel" "deep" "[I" ∈ gB := j_inB (i := 2035) (by decide +kernel) (by decide +kernel)
theorem bw_2040 : Jvm.Cond.fieldLink "ClickOrdersModel" (99 : Nat) "ClickOrdersModel" "told" "[I" ∈ gB := j_inB (i := 2040) (by decide +kernel) (by decide +kernel)
theorem bw_2041 : Jvm.Cond.fieldLink "ClickOrdersModel" (102 : Nat) "ClickOrdersModel" "row" "[I" ∈ gB := j_inB (i := 2041) (by decide +kernel) (by decide +kernel)
theorem bw_2042 : Jvm.Cond.fieldLink "ClickOrdersModel" (105 : Nat) "ClickOrdersModel" "windowPage" "[[I" ∈ gB := j_inB (i := 2042) (by decide +kernel) (by decide +kernel)
theorem bw_2043 : Jvm.Cond.fieldLink "ClickOrdersModel" (108 : Nat) "ClickOrdersModel" "saver" "[I" ∈ gB := j_inB (i := 2043) (by decide +kernel) (by decide +kernel)
theorem bw_2044 : Jvm.Cond.fieldLink "ClickOrdersModel" (111 : Nat) "ClickOrdersModel" "isAsked" "[[Z" ∈ gB := j_inB (i := 2044) (by decide +kernel) (by decide +kernel)
theorem bw_2046 : Jvm.Cond.fieldLink "ClickOrdersModel" (114 : Nat) "ClickOrdersModel" "keptWindows" "[[I" ∈ gB := j_inB (i := 2046) (by decide +kernel) (by decide +kernel)
theorem bw_2047 : Jvm.Cond.fieldLink "ClickOrdersModel" (117 : Nat) "ClickOrdersModel" "reached" "[[I" ∈ gB := j_inB (i := 2047) (by decide +kernel) (by decide +kernel)
theorem bw_1988 : Jvm.Cond.fieldLink "ClickOrdersModel" (126 : Nat) "ClickOrdersModel" "thrown" "I" ∈ gB := j_inB (i := 1988) (by decide +kernel) (by decide +kernel)
theorem bw_1989 : Jvm.Cond.fieldLink "ClickOrdersModel" (129 : Nat) "ClickOrdersModel" "tape" "I" ∈ gB := j_inB (i := 1989) (by decide +kernel) (by decide +kernel)
theorem bw_1991 : Jvm.Cond.fieldLink "ClickOrdersModel" (132 : Nat) "ClickOrdersModel" "size" "I" ∈ gB := j_inB (i := 1991) (by decide +kernel) (by decide +kernel)
theorem bw_1992 : Jvm.Cond.fieldLink "ClickOrdersModel" (135 : Nat) "ClickOrdersModel" "which" "I" ∈ gB := j_inB (i := 1992) (by decide +kernel) (by decide +kernel)
theorem bw_1993 : Jvm.Cond.fieldLink "ClickOrdersModel" (138 : Nat) "ClickOrdersModel" "at" "I" ∈ gB := j_inB (i := 1993) (by decide +kernel) (by decide +kernel)
theorem bw_1995 : Jvm.Cond.fieldLink "ClickOrdersModel" (145 : Nat) "ClickOrdersModel" "fault" "I" ∈ gB := j_inB (i := 1995) (by decide +kernel) (by decide +kernel)
theorem bw_1996 : Jvm.Cond.fieldLink "ClickOrdersModel" (148 : Nat) "ClickOrdersModel" "faultAt" "I" ∈ gB := j_inB (i := 1996) (by decide +kernel) (by decide +kernel)
theorem bw_1994 : Jvm.Cond.fieldLink "ClickOrdersModel" (177 : Nat) "ClickOrdersModel" "open" "I" ∈ gB := j_inB (i := 1994) (by decide +kernel) (by decide +kernel)
theorem bw_2010 : Jvm.Cond.fieldLink "ClickOrdersModel" (180 : Nat) "ClickOrdersModel" "isDoing" "Z" ∈ gB := j_inB (i := 2010) (by decide +kernel) (by decide +kernel)
theorem bw_2011 : Jvm.Cond.fieldLink "ClickOrdersModel" (184 : Nat) "ClickOrdersModel" "isLogged" "Z" ∈ gB := j_inB (i := 2011) (by decide +kernel) (by decide +kernel)
theorem bw_2015 : Jvm.Cond.fieldLink "ClickOrdersModel" (187 : Nat) "ClickOrdersModel" "readBits" "I" ∈ gB := j_inB (i := 2015) (by decide +kernel) (by decide +kernel)
theorem bw_2013 : Jvm.Cond.fieldLink "ClickOrdersModel" (203 : Nat) "ClickOrdersModel" "got" "I" ∈ gB := j_inB (i := 2013) (by decide +kernel) (by decide +kernel)
theorem bw_2005 : Jvm.Cond.fieldLink "ClickOrdersModel" (241 : Nat) "ClickOrdersModel" "foundSteps" "I" ∈ gB := j_inB (i := 2005) (by decide +kernel) (by decide +kernel)
theorem bw_2016 : Jvm.Cond.fieldLink "ClickOrdersModel" (275 : Nat) "ClickOrdersModel" "writeBits" "I" ∈ gB := j_inB (i := 2016) (by decide +kernel) (by decide +kernel)
theorem bw_2012 : Jvm.Cond.fieldLink "ClickOrdersModel" (278 : Nat) "ClickOrdersModel" "isEnded" "Z" ∈ gB := j_inB (i := 2012) (by decide +kernel) (by decide +kernel)
theorem bw_2014 : Jvm.Cond.fieldLink "ClickOrdersModel" (281 : Nat) "ClickOrdersModel" "self" "I" ∈ gB := j_inB (i := 2014) (by decide +kernel) (by decide +kernel)
theorem bw_2026 : Jvm.Cond.fieldLink "ClickOrdersModel" (284 : Nat) "ClickOrdersModel" "forms" "I" ∈ gB := j_inB (i := 2026) (by decide +kernel) (by decide +kernel)
theorem bw_2045 : Jvm.Cond.fieldLink "ClickOrdersModel" (294 : Nat) "ClickOrdersModel" "lostWords" "I" ∈ gB := j_inB (i := 2045) (by decide +kernel) (by decide +kernel)
theorem bw_2006 : Jvm.Cond.fieldLink "ClickOrdersModel" (300 : Nat) "ClickOrdersModel" "foundHarm" "I" ∈ gB := j_inB (i := 2006) (by decide +kernel) (by decide +kernel)
theorem bw_2007 : Jvm.Cond.fieldLink "ClickOrdersModel" (303 : Nat) "ClickOrdersModel" "foundPlace" "I" ∈ gB := j_inB (i := 2007) (by decide +kernel) (by decide +kernel)
theorem bw_2004 : Jvm.Cond.fieldLink "ClickOrdersModel" (316 : Nat) "ClickOrdersModel" "program" "I" ∈ gB := j_inB (i := 2004) (by decide +kernel) (by decide +kernel)
theorem bw_2019 : Jvm.Cond.fieldLink "ClickOrdersModel" (341 : Nat) "ClickOrdersModel" "many" "I" ∈ gB := j_inB (i := 2019) (by decide +kernel) (by decide +kernel)
theorem bw_2036 : Jvm.Cond.fieldLink "ClickOrdersModel" (393 : Nat) "ClickOrdersModel" "metMany" "I" ∈ gB := j_inB (i := 2036) (by decide +kernel) (by decide +kernel)
theorem bw_2037 : Jvm.Cond.fieldLink "ClickOrdersModel" (396 : Nat) "ClickOrdersModel" "spoiltAt" "I" ∈ gB := j_inB (i := 2037) (by decide +kernel) (by decide +kernel)
theorem bw_2038 : Jvm.Cond.fieldLink "ClickOrdersModel" (399 : Nat) "ClickOrdersModel" "isSpent" "Z" ∈ gB := j_inB (i := 2038) (by decide +kernel) (by decide +kernel)
theorem bw_2039 : Jvm.Cond.fieldLink "ClickOrdersModel" (421 : Nat) "ClickOrdersModel" "toldMany" "I" ∈ gB := j_inB (i := 2039) (by decide +kernel) (by decide +kernel)
theorem bw_1823 : Jvm.Cond.methodLink "ClickOrdersModel" (120 : Nat) ({ cls := "ClickOrdersModel", name := "beginRun", desc := "()V" } : Jvm.MethodName) ∈ gB := j_inB (i := 1823) (by decide +kernel) (by decide +kernel)
theorem bw_1984 : Jvm.Cond.methodLink "ClickOrdersModel" (123 : Nat) ({ cls := "ClickOrdersModel", name := "beginWindows", desc := "()V" } : Jvm.MethodName) ∈ gB := j_inB (i := 1984) (by decide +kernel) (by decide +kernel)
theorem bw_1850 : Jvm.Cond.methodLink "ClickOrdersModel" (141 : Nat) ({ cls := "ClickOrdersModel", name := "byteAt", desc := "(I)I" } : Jvm.MethodName) ∈ gB := j_inB (i := 1850) (by decide +kernel) (by decide +kernel)
theorem bw_1846 : Jvm.Cond.methodLink "ClickOrdersModel" (151 : Nat) ({ cls := "ClickOrdersModel", name := "blanks", desc := "()V" } : Jvm.MethodName) ∈ gB := j_inB (i := 1846) (by decide +kernel) (by decide +kernel)
theorem bw_1866 : Jvm.Cond.methodLink "ClickOrdersModel" (154 : Nat) ({ cls := "ClickOrdersModel", name := "isSmall", desc := "(I)Z" } : Jvm.MethodName) ∈ gB := j_inB (i := 1866) (by decide +kernel) (by decide +kernel)
theorem bw_1873 : Jvm.Cond.methodLink "ClickOrdersModel" (158 : Nat) ({ cls := "ClickOrdersModel", name := "wordHere", desc := "()I" } : Jvm.MethodName) ∈ gB := j_inB (i := 1873) (by decide +kernel) (by decide +kernel)
theorem bw_1877 : Jvm.Cond.methodLink "ClickOrdersModel" (162 : Nat) ({ cls := "ClickOrdersModel", name := "word", desc := "(IIIIII)I" } : Jvm.MethodName) ∈ gB := j_inB (i := 1877) (by decide +kernel) (by decide +kernel)
theorem bw_1880 : Jvm.Cond.methodLink "ClickOrdersModel" (166 : Nat) ({ cls := "ClickOrdersModel", name := "wrong", desc := "(II)V" } : Jvm.MethodName) ∈ gB := j_inB (i := 1880) (by decide +kernel) (by decide +kernel)
theorem bw_1924 : Jvm.Cond.methodLink "ClickOrdersModel" (170 : Nat) ({ cls := "ClickOrdersModel", name := "isDigit", desc := "(I)Z" } : Jvm.MethodName) ∈ gB := j_inB (i := 1924) (by decide +kernel) (by decide +kernel)
theorem bw_1927 : Jvm.Cond.methodLink "ClickOrdersModel" (174 : Nat) ({ cls := "ClickOrdersModel", name := "digits", desc := "(I)I" } : Jvm.MethodName) ∈ gB := j_inB (i := 1927) (by decide +kernel) (by decide +kernel)
theorem bw_1862 : Jvm.Cond.methodLink "ClickOrdersModel" (190 : Nat) ({ cls := "ClickOrdersModel", name := "letterHere", desc := "()I" } : Jvm.MethodName) ∈ gB := j_inB (i := 1862) (by decide +kernel) (by decide +kernel)
theorem bw_1932 : Jvm.Cond.methodLink "ClickOrdersModel" (193 : Nat) ({ cls := "ClickOrdersModel", name := "nameOf", desc := "(I)I" } : Jvm.MethodName) ∈ gB := j_inB (i := 1932) (by decide +kernel) (by decide +kernel)
theorem bw_1869 : Jvm.Cond.methodLink "ClickOrdersModel" (196 : Nat) ({ cls := "ClickOrdersModel", name := "isWord", desc := "(IIIIII)Z" } : Jvm.MethodName) ∈ gB := j_inB (i := 1869) (by decide +kernel) (by decide +kernel)
theorem bw_1888 : Jvm.Cond.methodLink "ClickOrdersModel" (200 : Nat) ({ cls := "ClickOrdersModel", name := "skipWord", desc := "()V" } : Jvm.MethodName) ∈ gB := j_inB (i := 1888) (by decide +kernel) (by decide +kernel)
theorem bw_1936 : Jvm.Cond.methodLink "ClickOrdersModel" (206 : Nat) ({ cls := "ClickOrdersModel", name := "digit", desc := "(I)I" } : Jvm.MethodName) ∈ gB := j_inB (i := 1936) (by decide +kernel) (by decide +kernel)
theorem bw_1940 : Jvm.Cond.methodLink "ClickOrdersModel" (209 : Nat) ({ cls := "ClickOrdersModel", name := "farOf", desc := "(I)I" } : Jvm.MethodName) ∈ gB := j_inB (i := 1940) (by decide +kernel) (by decide +kernel)
theorem bw_1904 : Jvm.Cond.methodLink "ClickOrdersModel" (212 : Nat) ({ cls := "ClickOrdersModel", name := "opens", desc := "(I)V" } : Jvm.MethodName) ∈ gB := j_inB (i := 1904) (by decide +kernel) (by decide +kernel)
theorem bw_1912 : Jvm.Cond.methodLink "ClickOrdersModel" (216 : Nat) ({ cls := "ClickOrdersModel", name := "sum", desc := "()I" } : Jvm.MethodName) ∈ gB := j_inB (i := 1912) (by decide +kernel) (by decide +kernel)
theorem bw_1908 : Jvm.Cond.methodLink "ClickOrdersModel" (219 : Nat) ({ cls := "ClickOrdersModel", name := "sign", desc := "(I)V" } : Jvm.MethodName) ∈ gB := j_inB (i := 1908) (by decide +kernel) (by decide +kernel)
theorem bw_1920 : Jvm.Cond.methodLink "ClickOrdersModel" (222 : Nat) ({ cls := "ClickOrdersModel", name := "unit", desc := "()I" } : Jvm.MethodName) ∈ gB := j_inB (i := 1920) (by decide +kernel) (by decide +kernel)
theorem bw_1916 : Jvm.Cond.methodLink "ClickOrdersModel" (225 : Nat) ({ cls := "ClickOrdersModel", name := "product", desc := "()I" } : Jvm.MethodName) ∈ gB := j_inB (i := 1916) (by decide +kernel) (by decide +kernel)
theorem bw_1900 : Jvm.Cond.methodLink "ClickOrdersModel" (228 : Nat) ({ cls := "ClickOrdersModel", name := "test", desc := "()Z" } : Jvm.MethodName) ∈ gB := j_inB (i := 1900) (by decide +kernel) (by decide +kernel)
theorem bw_1892 : Jvm.Cond.methodLink "ClickOrdersModel" (232 : Nat) ({ cls := "ClickOrdersModel", name := "ors", desc := "()Z" } : Jvm.MethodName) ∈ gB := j_inB (i := 1892) (by decide +kernel) (by decide +kernel)
theorem bw_1896 : Jvm.Cond.methodLink "ClickOrdersModel" (235 : Nat) ({ cls := "ClickOrdersModel", name := "ands", desc := "()Z" } : Jvm.MethodName) ∈ gB := j_inB (i := 1896) (by decide +kernel) (by decide +kernel)
theorem bw_1858 : Jvm.Cond.methodLink "ClickOrdersModel" (238 : Nat) ({ cls := "ClickOrdersModel", name := "stepHere", desc := "()I" } : Jvm.MethodName) ∈ gB := j_inB (i := 1858) (by decide +kernel) (by decide +kernel)
theorem bw_1884 : Jvm.Cond.methodLink "ClickOrdersModel" (244 : Nat) ({ cls := "ClickOrdersModel", name := "ifStep", desc := "()V" } : Jvm.MethodName) ∈ gB := j_inB (i := 1884) (by decide +kernel) (by decide +kernel)
theorem bw_1835 : Jvm.Cond.methodLink "ClickOrdersModel" (247 : Nat) ({ cls := "ClickOrdersModel", name := "in", desc := "(III)Z" } : Jvm.MethodName) ∈ gB := j_inB (i := 1835) (by decide +kernel) (by decide +kernel)
theorem bw_1944 : Jvm.Cond.methodLink "ClickOrdersModel" (251 : Nat) ({ cls := "ClickOrdersModel", name := "names", desc := "(II)V" } : Jvm.MethodName) ∈ gB := j_inB (i := 1944) (by decide +kernel) (by decide +kernel)
theorem bw_1948 : Jvm.Cond.methodLink "ClickOrdersModel" (254 : Nat) ({ cls := "ClickOrdersModel", name := "things", desc := "(II)V" } : Jvm.MethodName) ∈ gB := j_inB (i := 1948) (by decide +kernel) (by decide +kernel)
theorem bw_1952 : Jvm.Cond.methodLink "ClickOrdersModel" (257 : Nat) ({ cls := "ClickOrdersModel", name := "clocks", desc := "(II)V" } : Jvm.MethodName) ∈ gB := j_inB (i := 1952) (by decide +kernel) (by decide +kernel)
theorem bw_1960 : Jvm.Cond.methodLink "ClickOrdersModel" (260 : Nat) ({ cls := "ClickOrdersModel", name := "asks", desc := "(II)V" } : Jvm.MethodName) ∈ gB := j_inB (i := 1960) (by decide +kernel) (by decide +kernel)
theorem bw_1972 : Jvm.Cond.methodLink "ClickOrdersModel" (263 : Nat) ({ cls := "ClickOrdersModel", name := "stops", desc := "(I)V" } : Jvm.MethodName) ∈ gB := j_inB (i := 1972) (by decide +kernel) (by decide +kernel)
theorem bw_1976 : Jvm.Cond.methodLink "ClickOrdersModel" (266 : Nat) ({ cls := "ClickOrdersModel", name := "saves", desc := "(II)V" } : Jvm.MethodName) ∈ gB := j_inB (i := 1976) (by decide +kernel) (by decide +kernel)
theorem bw_1956 : Jvm.Cond.methodLink "ClickOrdersModel" (269 : Nat) ({ cls := "ClickOrdersModel", name := "fails", desc := "()V" } : Jvm.MethodName) ∈ gB := j_inB (i := 1956) (by decide +kernel) (by decide +kernel)
theorem bw_1854 : Jvm.Cond.methodLink "ClickOrdersModel" (272 : Nat) ({ cls := "ClickOrdersModel", name := "doStep", desc := "()V" } : Jvm.MethodName) ∈ gB := j_inB (i := 1854) (by decide +kernel) (by decide +kernel)
theorem bw_1964 : Jvm.Cond.methodLink "ClickOrdersModel" (287 : Nat) ({ cls := "ClickOrdersModel", name := "isForm", desc := "(II)Z" } : Jvm.MethodName) ∈ gB := j_inB (i := 1964) (by decide +kernel) (by decide +kernel)
theorem bw_1968 : Jvm.Cond.methodLink "ClickOrdersModel" (291 : Nat) ({ cls := "ClickOrdersModel", name := "empties", desc := "(I)V" } : Jvm.MethodName) ∈ gB := j_inB (i := 1968) (by decide +kernel) (by decide +kernel)
theorem bw_2189 : Jvm.Cond.methodLink "ClickOrdersModel" (297 : Nat) ({ cls := "ClickOrdersModel", name := "eventHere", desc := "()I" } : Jvm.MethodName) ∈ gB := j_inB (i := 2189) (by decide +kernel) (by decide +kernel)
theorem bw_2181 : Jvm.Cond.methodLink "ClickOrdersModel" (306 : Nat) ({ cls := "ClickOrdersModel", name := "bad", desc := "(ZI)Z" } : Jvm.MethodName) ∈ gB := j_inB (i := 2181) (by decide +kernel) (by decide +kernel)
theorem bw_2185 : Jvm.Cond.methodLink "ClickOrdersModel" (310 : Nat) ({ cls := "ClickOrdersModel", name := "part", desc := "()V" } : Jvm.MethodName) ∈ gB := j_inB (i := 2185) (by decide +kernel) (by decide +kernel)
theorem bw_2193 : Jvm.Cond.methodLink "ClickOrdersModel" (313 : Nat) ({ cls := "ClickOrdersModel", name := "takesOver", desc := "(I)V" } : Jvm.MethodName) ∈ gB := j_inB (i := 2193) (by decide +kernel) (by decide +kernel)
theorem bw_1842 : Jvm.Cond.methodLink "ClickOrdersModel" (319 : Nat) ({ cls := "ClickOrdersModel", name := "goesTo", desc := "(I)V" } : Jvm.MethodName) ∈ gB := j_inB (i := 1842) (by decide +kernel) (by decide +kernel)
theorem bw_1838 : Jvm.Cond.methodLink "ClickOrdersModel" (322 : Nat) ({ cls := "ClickOrdersModel", name := "runs", desc := "(I)V" } : Jvm.MethodName) ∈ gB := j_inB (i := 1838) (by decide +kernel) (by decide +kernel)
theorem bw_1831 : Jvm.Cond.methodLink "ClickOrdersModel" (325 : Nat) ({ cls := "ClickOrdersModel", name := "beginsPage", desc := "()V" } : Jvm.MethodName) ∈ gB := j_inB (i := 1831) (by decide +kernel) (by decide +kernel)
theorem bw_2225 : Jvm.Cond.methodLink "ClickOrdersModel" (328 : Nat) ({ cls := "ClickOrdersModel", name := "nextClock", desc := "()I" } : Jvm.MethodName) ∈ gB := j_inB (i := 2225) (by decide +kernel) (by decide +kernel)
theorem bw_2229 : Jvm.Cond.methodLink "ClickOrdersModel" (331 : Nat) ({ cls := "ClickOrdersModel", name := "takesClock", desc := "(I)V" } : Jvm.MethodName) ∈ gB := j_inB (i := 2229) (by decide +kernel) (by decide +kernel)
theorem bw_2233 : Jvm.Cond.methodLink "ClickOrdersModel" (334 : Nat) ({ cls := "ClickOrdersModel", name := "takesAnswer", desc := "(I)V" } : Jvm.MethodName) ∈ gB := j_inB (i := 2233) (by decide +kernel) (by decide +kernel)
theorem bw_2270 : Jvm.Cond.methodLink "ClickOrdersModel" (337 : Nat) ({ cls := "ClickOrdersModel", name := "holdsAt", desc := "(IZ)Z" } : Jvm.MethodName) ∈ gB := j_inB (i := 2270) (by decide +kernel) (by decide +kernel)
theorem bw_1827 : Jvm.Cond.methodLink "ClickOrdersModel" (344 : Nat) ({ cls := "ClickOrdersModel", name := "beginsAnew", desc := "()V" } : Jvm.MethodName) ∈ gB := j_inB (i := 1827) (by decide +kernel) (by decide +kernel)
theorem bw_1980 : Jvm.Cond.methodLink "ClickOrdersModel" (347 : Nat) ({ cls := "ClickOrdersModel", name := "keeps", desc := "([I)V" } : Jvm.MethodName) ∈ gB := j_inB (i := 1980) (by decide +kernel) (by decide +kernel)
theorem bw_2209 : Jvm.Cond.methodLink "ClickOrdersModel" (351 : Nat) ({ cls := "ClickOrdersModel", name := "loads", desc := "([I)V" } : Jvm.MethodName) ∈ gB := j_inB (i := 2209) (by decide +kernel) (by decide +kernel)
theorem bw_2213 : Jvm.Cond.methodLink "ClickOrdersModel" (354 : Nat) ({ cls := "ClickOrdersModel", name := "canCome", desc := "(I)Z" } : Jvm.MethodName) ∈ gB := j_inB (i := 2213) (by decide +kernel) (by decide +kernel)
theorem bw_2221 : Jvm.Cond.methodLink "ClickOrdersModel" (357 : Nat) ({ cls := "ClickOrdersModel", name := "happens", desc := "(II)I" } : Jvm.MethodName) ∈ gB := j_inB (i := 2221) (by decide +kernel) (by decide +kernel)
theorem bw_2266 : Jvm.Cond.methodLink "ClickOrdersModel" (362 : Nat) ({ cls := "ClickOrdersModel", name := "isSpoiltPage", desc := "()Z" } : Jvm.MethodName) ∈ gB := j_inB (i := 2266) (by decide +kernel) (by decide +kernel)
theorem bw_2278 : Jvm.Cond.methodLink "ClickOrdersModel" (365 : Nat) ({ cls := "ClickOrdersModel", name := "isHappening", desc := "(I)Z" } : Jvm.MethodName) ∈ gB := j_inB (i := 2278) (by decide +kernel) (by decide +kernel)
theorem bw_2290 : Jvm.Cond.methodLink "ClickOrdersModel" (368 : Nat) ({ cls := "ClickOrdersModel", name := "mayPress", desc := "(II)Z" } : Jvm.MethodName) ∈ gB := j_inB (i := 2290) (by decide +kernel) (by decide +kernel)
theorem bw_2286 : Jvm.Cond.methodLink "ClickOrdersModel" (371 : Nat) ({ cls := "ClickOrdersModel", name := "findOrder", desc := "()V" } : Jvm.MethodName) ∈ gB := j_inB (i := 2286) (by decide +kernel) (by decide +kernel)
theorem bw_2302 : Jvm.Cond.methodLink "ClickOrdersModel" (374 : Nat) ({ cls := "ClickOrdersModel", name := "items", desc := "(II)I" } : Jvm.MethodName) ∈ gB := j_inB (i := 2302) (by decide +kernel) (by decide +kernel)
theorem bw_2298 : Jvm.Cond.methodLink "ClickOrdersModel" (377 : Nat) ({ cls := "ClickOrdersModel", name := "kth", desc := "(IZ)I" } : Jvm.MethodName) ∈ gB := j_inB (i := 2298) (by decide +kernel) (by decide +kernel)
theorem bw_2322 : Jvm.Cond.methodLink "ClickOrdersModel" (381 : Nat) ({ cls := "ClickOrdersModel", name := "puts", desc := "(II)I" } : Jvm.MethodName) ∈ gB := j_inB (i := 2322) (by decide +kernel) (by decide +kernel)
theorem bw_2326 : Jvm.Cond.methodLink "ClickOrdersModel" (384 : Nat) ({ cls := "ClickOrdersModel", name := "again", desc := "(I)Z" } : Jvm.MethodName) ∈ gB := j_inB (i := 2326) (by decide +kernel) (by decide +kernel)
theorem bw_2330 : Jvm.Cond.methodLink "ClickOrdersModel" (387 : Nat) ({ cls := "ClickOrdersModel", name := "isState", desc := "()Z" } : Jvm.MethodName) ∈ gB := j_inB (i := 2330) (by decide +kernel) (by decide +kernel)
theorem bw_2318 : Jvm.Cond.methodLink "ClickOrdersModel" (390 : Nat) ({ cls := "ClickOrdersModel", name := "turned", desc := "(II)I" } : Jvm.MethodName) ∈ gB := j_inB (i := 2318) (by decide +kernel) (by decide +kernel)
theorem bw_2350 : Jvm.Cond.methodLink "ClickOrdersModel" (402 : Nat) ({ cls := "ClickOrdersModel", name := "meets", desc := "(II)V" } : Jvm.MethodName) ∈ gB := j_inB (i := 2350) (by decide +kernel) (by decide +kernel)
theorem bw_2354 : Jvm.Cond.methodLink "ClickOrdersModel" (405 : Nat) ({ cls := "ClickOrdersModel", name := "metBefore", desc := "()I" } : Jvm.MethodName) ∈ gB := j_inB (i := 2354) (by decide +kernel) (by decide +kernel)
theorem bw_2342 : Jvm.Cond.methodLink "ClickOrdersModel" (408 : Nat) ({ cls := "ClickOrdersModel", name := "isSearch", desc := "(II)Z" } : Jvm.MethodName) ∈ gB := j_inB (i := 2342) (by decide +kernel) (by decide +kernel)
theorem bw_2346 : Jvm.Cond.methodLink "ClickOrdersModel" (411 : Nat) ({ cls := "ClickOrdersModel", name := "explore", desc := "(IIZ)V" } : Jvm.MethodName) ∈ gB := j_inB (i := 2346) (by decide +kernel) (by decide +kernel)
theorem bw_2374 : Jvm.Cond.methodLink "ClickOrdersModel" (415 : Nat) ({ cls := "ClickOrdersModel", name := "reaches", desc := "(II)Z" } : Jvm.MethodName) ∈ gB := j_inB (i := 2374) (by decide +kernel) (by decide +kernel)
theorem bw_2370 : Jvm.Cond.methodLink "ClickOrdersModel" (418 : Nat) ({ cls := "ClickOrdersModel", name := "stuckOnes", desc := "(I)I" } : Jvm.MethodName) ∈ gB := j_inB (i := 2370) (by decide +kernel) (by decide +kernel)
theorem bw_2394 : Jvm.Cond.methodLink "ClickOrdersModel" (424 : Nat) ({ cls := "ClickOrdersModel", name := "spoils", desc := "(I)Z" } : Jvm.MethodName) ∈ gB := j_inB (i := 2394) (by decide +kernel) (by decide +kernel)
theorem bw_2418 : Jvm.Cond.methodLink "ClickOrdersModel" (427 : Nat) ({ cls := "ClickOrdersModel", name := "priceOf", desc := "(I)I" } : Jvm.MethodName) ∈ gB := j_inB (i := 2418) (by decide +kernel) (by decide +kernel)
theorem bw_2422 : Jvm.Cond.methodLink "ClickOrdersModel" (430 : Nat) ({ cls := "ClickOrdersModel", name := "ones", desc := "(I)I" } : Jvm.MethodName) ∈ gB := j_inB (i := 2422) (by decide +kernel) (by decide +kernel)
theorem bw_2414 : Jvm.Cond.methodLink "ClickOrdersModel" (433 : Nat) ({ cls := "ClickOrdersModel", name := "isAhead", desc := "(II)Z" } : Jvm.MethodName) ∈ gB := j_inB (i := 2414) (by decide +kernel) (by decide +kernel)
theorem bw_2425 : Jvm.Cond.methodLink "ClickOrdersModel" (436 : Nat) ({ cls := "ClickOrdersModel", name := "turnsOn", desc := "(I)V" } : Jvm.MethodName) ∈ gB := j_inB (i := 2425) (by decide +kernel) (by decide +kernel)
theorem bw_2429 : Jvm.Cond.methodLink "ClickOrdersModel" (439 : Nat) ({ cls := "ClickOrdersModel", name := "isSafe", desc := "(III)Z" } : Jvm.MethodName) ∈ gB := j_inB (i := 2429) (by decide +kernel) (by decide +kernel)
theorem bw_2441 : Jvm.Cond.methodLink "ClickOrdersModel" (442 : Nat) ({ cls := "ClickOrdersModel", name := "comesTo", desc := "(II)Z" } : Jvm.MethodName) ∈ gB := j_inB (i := 2441) (by decide +kernel) (by decide +kernel)
theorem bw_2461 : Jvm.Cond.methodLink "ClickOrdersModel" (445 : Nat) ({ cls := "ClickOrdersModel", name := "loadsWindows", desc := "(I)V" } : Jvm.MethodName) ∈ gB := j_inB (i := 2461) (by decide +kernel) (by decide +kernel)
theorem bw_2453 : Jvm.Cond.methodLink "ClickOrdersModel" (448 : Nat) ({ cls := "ClickOrdersModel", name := "keepsWindows", desc := "(I)V" } : Jvm.MethodName) ∈ gB := j_inB (i := 2453) (by decide +kernel) (by decide +kernel)
theorem bw_2457 : Jvm.Cond.methodLink "ClickOrdersModel" (451 : Nat) ({ cls := "ClickOrdersModel", name := "loses", desc := "(II)Z" } : Jvm.MethodName) ∈ gB := j_inB (i := 2457) (by decide +kernel) (by decide +kernel)
theorem bw_1931 : Jvm.Cond.constant "ClickOrdersModel" (173 : Nat) (100000 : Int32) ∈ gB := j_inB (i := 1931) (by decide +kernel) (by decide +kernel)
theorem bw_2253 : Jvm.Cond.constant "ClickOrdersModel" (361 : Nat) (-2147483648 : Int32) ∈ gB := j_inB (i := 2253) (by decide +kernel) (by decide +kernel)
