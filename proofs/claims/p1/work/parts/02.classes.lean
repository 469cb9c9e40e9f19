/-! the classes: fields, types, words -/
def kb_F0 : u_T := fun k => match k with
  | 0 => ("TreePress$Reader", "at", "I", false)
  | 1 => ("TreePress$Reader", "end", "I", false)
  | 2 => ("TreePress$Reader", "depth", "I", false)
  | _ => ("TreePress$Reader", "begun", "Z", false)
def kb_y0 : Nat → FieldType := fun k => match k with
  | 0 => .int
  | 1 => .int
  | 2 => .int
  | _ => .boolean
theorem kb_n0 : ∀ a, a < 4 → ∀ b, b < 4 → a ≠ b → (kb_F0 a).2.1 ≠ (kb_F0 b).2.1 := by decide +kernel
theorem kb_p0 : ∀ k, k < 4 → parseFieldDescriptor (kb_F0 k).2.2.1 = some (kb_y0 k) := by decide +kernel
theorem kb_w0 : ∀ w ∈ u_ws "TreePress$Reader" kb_F0 4, w ∈ kb_T := fun w h => kb_in ((by decide +kernel : ∀ w ∈ u_ws "TreePress$Reader" kb_F0 4, w ∈ lw_tbl) w h) (List.all_eq_true.mp (by decide +kernel : (u_ws "TreePress$Reader" kb_F0 4).all goodWord = true) w h)
def kb_F1 : u_T := fun k => match k with
  | 0 => ("TreePress$Row", "cells", "[I", false)
  | _ => ("TreePress$Row", "length", "I", false)
def kb_y1 : Nat → FieldType := fun k => match k with
  | 0 => .array .int
  | _ => .int
theorem kb_n1 : ∀ a, a < 2 → ∀ b, b < 2 → a ≠ b → (kb_F1 a).2.1 ≠ (kb_F1 b).2.1 := by decide +kernel
theorem kb_p1 : ∀ k, k < 2 → parseFieldDescriptor (kb_F1 k).2.2.1 = some (kb_y1 k) := by decide +kernel
theorem kb_w1 : ∀ w ∈ u_ws "TreePress$Row" kb_F1 2, w ∈ kb_T := fun w h => kb_in ((by decide +kernel : ∀ w ∈ u_ws "TreePress$Row" kb_F1 2, w ∈ lw_tbl) w h) (List.all_eq_true.mp (by decide +kernel : (u_ws "TreePress$Row" kb_F1 2).all goodWord = true) w h)
def kb_F2 : u_T := fun k => match k with
  | 0 => ("TreePress$Tree", "text", "LTreePress$Row;", true)
  | 1 => ("TreePress$Tree", "nodeParents", "LTreePress$Row;", true)
  | 2 => ("TreePress$Tree", "nodeDepths", "LTreePress$Row;", true)
  | 3 => ("TreePress$Tree", "nodeNameStarts", "LTreePress$Row;", true)
  | 4 => ("TreePress$Tree", "nodeNameLengths", "LTreePress$Row;", true)
  | 5 => ("TreePress$Tree", "nodeFirstProperties", "LTreePress$Row;", true)
  | 6 => ("TreePress$Tree", "nodePropertyCounts", "LTreePress$Row;", true)
  | 7 => ("TreePress$Tree", "owners", "LTreePress$Row;", true)
  | 8 => ("TreePress$Tree", "nameStarts", "LTreePress$Row;", true)
  | 9 => ("TreePress$Tree", "nameLengths", "LTreePress$Row;", true)
  | 10 => ("TreePress$Tree", "valueLengths", "LTreePress$Row;", true)
  | 11 => ("TreePress$Tree", "nameOffsets", "LTreePress$Row;", true)
  | 12 => ("TreePress$Tree", "laidNamesLength", "I", false)
  | _ => ("TreePress$Tree", "place", "I", false)
def kb_y2 : Nat → FieldType := fun k => match k with
  | 0 => .object "TreePress$Row"
  | 1 => .object "TreePress$Row"
  | 2 => .object "TreePress$Row"
  | 3 => .object "TreePress$Row"
  | 4 => .object "TreePress$Row"
  | 5 => .object "TreePress$Row"
  | 6 => .object "TreePress$Row"
  | 7 => .object "TreePress$Row"
  | 8 => .object "TreePress$Row"
  | 9 => .object "TreePress$Row"
  | 10 => .object "TreePress$Row"
  | 11 => .object "TreePress$Row"
  | 12 => .int
  | _ => .int
theorem kb_n2 : ∀ a, a < 14 → ∀ b, b < 14 → a ≠ b → (kb_F2 a).2.1 ≠ (kb_F2 b).2.1 := by decide +kernel
theorem kb_p2 : ∀ k, k < 14 → parseFieldDescriptor (kb_F2 k).2.2.1 = some (kb_y2 k) := by decide +kernel
theorem kb_w2 : ∀ w ∈ u_ws "TreePress$Tree" kb_F2 14, w ∈ kb_T := fun w h => kb_in ((by decide +kernel : ∀ w ∈ u_ws "TreePress$Tree" kb_F2 14, w ∈ lw_tbl) w h) (List.all_eq_true.mp (by decide +kernel : (u_ws "TreePress$Tree" kb_F2 14).all goodWord = true) w h)
def kb_F3 : u_T := fun k => match k with
  | 0 => ("TreePress", "tape", "LTreePress$Row;", true)
  | 1 => ("TreePress", "laidDown", "LTreePress$Row;", true)
  | 2 => ("TreePress", "reader", "LTreePress$Reader;", true)
  | 3 => ("TreePress", "tree", "LTreePress$Tree;", false)
  | _ => ("TreePress", "spare", "LTreePress$Tree;", false)
def kb_y3 : Nat → FieldType := fun k => match k with
  | 0 => .object "TreePress$Row"
  | 1 => .object "TreePress$Row"
  | 2 => .object "TreePress$Reader"
  | 3 => .object "TreePress$Tree"
  | _ => .object "TreePress$Tree"
theorem kb_n3 : ∀ a, a < 5 → ∀ b, b < 5 → a ≠ b → (kb_F3 a).2.1 ≠ (kb_F3 b).2.1 := by decide +kernel
theorem kb_p3 : ∀ k, k < 5 → parseFieldDescriptor (kb_F3 k).2.2.1 = some (kb_y3 k) := by decide +kernel
theorem kb_w3 : ∀ w ∈ u_ws "TreePress" kb_F3 5, w ∈ kb_T := fun w h => kb_in ((by decide +kernel : ∀ w ∈ u_ws "TreePress" kb_F3 5, w ∈ lw_tbl) w h) (List.all_eq_true.mp (by decide +kernel : (u_ws "TreePress" kb_F3 5).all goodWord = true) w h)
def kb_F4 : u_T := fun k => match k with
  | 0 => ("TreePressModel", "thrown", "I", false)
  | 1 => ("TreePressModel", "tape", "[I", true)
  | 2 => ("TreePressModel", "taped", "I", false)
  | 3 => ("TreePressModel", "out", "[I", true)
  | 4 => ("TreePressModel", "many", "I", false)
  | 5 => ("TreePressModel", "nodes", "[I", true)
  | 6 => ("TreePressModel", "properties", "[I", true)
  | 7 => ("TreePressModel", "used", "[I", true)
  | 8 => ("TreePressModel", "inside", "[I", true)
  | 9 => ("TreePressModel", "nodeFrom", "[I", true)
  | 10 => ("TreePressModel", "nodeTo", "[I", true)
  | 11 => ("TreePressModel", "owner", "[I", true)
  | 12 => ("TreePressModel", "nameFrom", "[I", true)
  | 13 => ("TreePressModel", "valueFrom", "[I", true)
  | 14 => ("TreePressModel", "valueTo", "[I", true)
  | 15 => ("TreePressModel", "bytes", "[I", true)
  | 16 => ("TreePressModel", "place", "I", false)
  | 17 => ("TreePressModel", "at", "I", false)
  | 18 => ("TreePressModel", "edge", "I", false)
  | 19 => ("TreePressModel", "fails", "I", false)
  | _ => ("TreePressModel", "namesAt", "I", false)
def kb_y4 : Nat → FieldType := fun k => match k with
  | 0 => .int
  | 1 => .array .int
  | 2 => .int
  | 3 => .array .int
  | 4 => .int
  | 5 => .array .int
  | 6 => .array .int
  | 7 => .array .int
  | 8 => .array .int
  | 9 => .array .int
  | 10 => .array .int
  | 11 => .array .int
  | 12 => .array .int
  | 13 => .array .int
  | 14 => .array .int
  | 15 => .array .int
  | 16 => .int
  | 17 => .int
  | 18 => .int
  | 19 => .int
  | _ => .int
theorem kb_n4 : ∀ a, a < 21 → ∀ b, b < 21 → a ≠ b → (kb_F4 a).2.1 ≠ (kb_F4 b).2.1 := by decide +kernel
theorem kb_p4 : ∀ k, k < 21 → parseFieldDescriptor (kb_F4 k).2.2.1 = some (kb_y4 k) := by decide +kernel
theorem kb_w4 : ∀ w ∈ u_ws "TreePressModel" kb_F4 21, w ∈ kb_T := fun w h => kb_in ((by decide +kernel : ∀ w ∈ u_ws "TreePressModel" kb_F4 21, w ∈ lw_tbl) w h) (List.all_eq_true.mp (by decide +kernel : (u_ws "TreePressModel" kb_F4 21).all goodWord = true) w h)
abbrev kb_cl : List vw_C := [("TreePress$Reader", kb_F0, 4), ("TreePress$Row", kb_F1, 2), ("TreePress$Tree", kb_F2, 14), ("TreePress", kb_F3, 5), ("TreePressModel", kb_F4, 21)]
/-! what is known of the tables at a state: the classes, the arrays' classes -/
abbrev kb_G : Type := va_G × ClassId × ClassId
abbrev kb_tys (G : kb_G) : List (ClassId × FieldType) := [(G.2.1, .int), (G.2.2, .long)]
abbrev kb_o (a ci : Nat) (fs : List Value) : Nat × va_E := (a, .inr (ci, fs))
abbrev kb_a (G : kb_G) (a N : Nat) (f : Nat → Int32) : Nat × va_E := (a, .inl (G.2.1, N, .inl f))
abbrev kb_j (G : kb_G) (a N : Nat) (f : Nat → Int64) : Nat × va_E := (a, .inl (G.2.2, N, .inr (.inl f)))
abbrev kb_rm (k mc ms : Nat) : Room := { frames := k, cells := mc, slots := ms, locals := 32 * k }
/-- what a contract leaves open behind a call: addresses, contents -/
abbrev kb_S : Type := (Nat → Nat) × (Nat → Nat → Int32)
abbrev kb_l (xs : List Nat) : Nat → Nat := fun i => xs.getD i 0
abbrev kb_f (fs : List (Nat → Int32)) : Nat → Nat → Int32 := fun i => fs.getD i (fun _ => 0)
