def RX0 : String := "GentleRoad$Grader"
def TX0 : u_T := fun k => match k with
  | 0 => ("GentleRoad$Grader", "land", "LGentleRoad$Land;", true)
  | 1 => ("GentleRoad$Grader", "earths", "[I", true)
  | 2 => ("GentleRoad$Grader", "choices", "[I", true)
  | 3 => ("GentleRoad$Grader", "start", "I", false)
  | 4 => ("GentleRoad$Grader", "depth", "I", false)
  | 5 => ("GentleRoad$Grader", "rising", "I", false)
  | 6 => ("GentleRoad$Grader", "room", "I", false)
  | _ => ("GentleRoad$Grader", "nextBound", "I", false)
def tyX0 : Nat → FieldType := fun k => match k with
  | 0 => .object "GentleRoad$Land"
  | 1 => .array .int
  | 2 => .array .int
  | 3 => .int
  | 4 => .int
  | 5 => .int
  | 6 => .int
  | _ => .int
theorem nmX0 : ∀ a, a < 8 → ∀ b, b < 8 → a ≠ b → (TX0 a).2.1 ≠ (TX0 b).2.1 := by decide +kernel
theorem tyX0_ok : ∀ k, k < 8 → parseFieldDescriptor (TX0 k).2.2.1 = some (tyX0 k) := by decide +kernel
def RX1 : String := "GentleRoad$Heap"
def TX1 : u_T := fun k => match k with
  | 0 => ("GentleRoad$Heap", "keys", "[I", true)
  | 1 => ("GentleRoad$Heap", "spots", "[I", true)
  | 2 => ("GentleRoad$Heap", "nodes", "[I", true)
  | _ => ("GentleRoad$Heap", "size", "I", false)
def tyX1 : Nat → FieldType := fun k => match k with
  | 0 => .array .int
  | 1 => .array .int
  | 2 => .array .int
  | _ => .int
theorem nmX1 : ∀ a, a < 4 → ∀ b, b < 4 → a ≠ b → (TX1 a).2.1 ≠ (TX1 b).2.1 := by decide +kernel
theorem tyX1_ok : ∀ k, k < 4 → parseFieldDescriptor (TX1 k).2.2.1 = some (tyX1 k) := by decide +kernel
def RX2 : String := "GentleRoad$Land"
def TX2 : u_T := fun k => match k with
  | 0 => ("GentleRoad$Land", "cells", "[I", true)
  | _ => ("GentleRoad$Land", "besides", "[I", true)
def tyX2 : Nat → FieldType := fun k => match k with
  | 0 => .array .int
  | _ => .array .int
theorem nmX2 : ∀ a, a < 2 → ∀ b, b < 2 → a ≠ b → (TX2 a).2.1 ≠ (TX2 b).2.1 := by decide +kernel
theorem tyX2_ok : ∀ k, k < 2 → parseFieldDescriptor (TX2 k).2.2.1 = some (tyX2 k) := by decide +kernel
def RX3 : String := "GentleRoad$Past"
def TX3 : u_T := fun k => match k with
  | 0 => ("GentleRoad$Past", "kept", "[I", true)
  | 1 => ("GentleRoad$Past", "first", "I", false)
  | _ => ("GentleRoad$Past", "size", "I", false)
def tyX3 : Nat → FieldType := fun k => match k with
  | 0 => .array .int
  | 1 => .int
  | _ => .int
theorem nmX3 : ∀ a, a < 3 → ∀ b, b < 3 → a ≠ b → (TX3 a).2.1 ≠ (TX3 b).2.1 := by decide +kernel
theorem tyX3_ok : ∀ k, k < 3 → parseFieldDescriptor (TX3 k).2.2.1 = some (tyX3 k) := by decide +kernel
def RX4 : String := "GentleRoad$Planner"
def TX4 : u_T := fun k => match k with
  | 0 => ("GentleRoad$Planner", "land", "LGentleRoad$Land;", true)
  | 1 => ("GentleRoad$Planner", "ways", "LGentleRoad$Ways;", true)
  | 2 => ("GentleRoad$Planner", "marks", "[I", true)
  | 3 => ("GentleRoad$Planner", "touched", "[I", true)
  | 4 => ("GentleRoad$Planner", "sums", "[I", true)
  | 5 => ("GentleRoad$Planner", "stops", "[I", true)
  | 6 => ("GentleRoad$Planner", "legs", "[I", true)
  | 7 => ("GentleRoad$Planner", "tours", "[I", true)
  | 8 => ("GentleRoad$Planner", "stopsSize", "I", false)
  | _ => ("GentleRoad$Planner", "spareCost", "I", false)
def tyX4 : Nat → FieldType := fun k => match k with
  | 0 => .object "GentleRoad$Land"
  | 1 => .object "GentleRoad$Ways"
  | 2 => .array .int
  | 3 => .array .int
  | 4 => .array .int
  | 5 => .array .int
  | 6 => .array .int
  | 7 => .array .int
  | 8 => .int
  | _ => .int
theorem nmX4 : ∀ a, a < 10 → ∀ b, b < 10 → a ≠ b → (TX4 a).2.1 ≠ (TX4 b).2.1 := by decide +kernel
theorem tyX4_ok : ∀ k, k < 10 → parseFieldDescriptor (TX4 k).2.2.1 = some (tyX4 k) := by decide +kernel
def RX5 : String := "GentleRoad$Streams"
def TX5 : u_T := fun k => match k with
  | 0 => ("GentleRoad$Streams", "land", "LGentleRoad$Land;", true)
  | 1 => ("GentleRoad$Streams", "runs", "[I", true)
  | 2 => ("GentleRoad$Streams", "catches", "[I", true)
  | _ => ("GentleRoad$Streams", "marks", "[I", true)
def tyX5 : Nat → FieldType := fun k => match k with
  | 0 => .object "GentleRoad$Land"
  | 1 => .array .int
  | 2 => .array .int
  | _ => .array .int
theorem nmX5 : ∀ a, a < 4 → ∀ b, b < 4 → a ≠ b → (TX5 a).2.1 ≠ (TX5 b).2.1 := by decide +kernel
theorem tyX5_ok : ∀ k, k < 4 → parseFieldDescriptor (TX5 k).2.2.1 = some (tyX5 k) := by decide +kernel
def RX6 : String := "GentleRoad$Survey"
def TX6 : u_T := fun k => match k with
  | 0 => ("GentleRoad$Survey", "land", "LGentleRoad$Land;", true)
  | 1 => ("GentleRoad$Survey", "grader", "LGentleRoad$Grader;", true)
  | 2 => ("GentleRoad$Survey", "streams", "LGentleRoad$Streams;", true)
  | _ => ("GentleRoad$Survey", "marks", "[I", true)
def tyX6 : Nat → FieldType := fun k => match k with
  | 0 => .object "GentleRoad$Land"
  | 1 => .object "GentleRoad$Grader"
  | 2 => .object "GentleRoad$Streams"
  | _ => .array .int
theorem nmX6 : ∀ a, a < 4 → ∀ b, b < 4 → a ≠ b → (TX6 a).2.1 ≠ (TX6 b).2.1 := by decide +kernel
theorem tyX6_ok : ∀ k, k < 4 → parseFieldDescriptor (TX6 k).2.2.1 = some (tyX6 k) := by decide +kernel
def RX7 : String := "GentleRoad$Tape"
def TX7 : u_T := fun k => match k with
  | 0 => ("GentleRoad$Tape", "row", "[I", true)
  | _ => ("GentleRoad$Tape", "size", "I", false)
def tyX7 : Nat → FieldType := fun k => match k with
  | 0 => .array .int
  | _ => .int
theorem nmX7 : ∀ a, a < 2 → ∀ b, b < 2 → a ≠ b → (TX7 a).2.1 ≠ (TX7 b).2.1 := by decide +kernel
theorem tyX7_ok : ∀ k, k < 2 → parseFieldDescriptor (TX7 k).2.2.1 = some (tyX7 k) := by decide +kernel
def RX8 : String := "GentleRoad$Text"
def TX8 : u_T := fun k => match k with
  | 0 => ("GentleRoad$Text", "tape", "LGentleRoad$Tape;", true)
  | 1 => ("GentleRoad$Text", "told", "[I", true)
  | 2 => ("GentleRoad$Text", "toldTerms", "[Z", true)
  | 3 => ("GentleRoad$Text", "size", "I", false)
  | 4 => ("GentleRoad$Text", "next", "I", false)
  | _ => ("GentleRoad$Text", "begin", "I", false)
def tyX8 : Nat → FieldType := fun k => match k with
  | 0 => .object "GentleRoad$Tape"
  | 1 => .array .int
  | 2 => .array .boolean
  | 3 => .int
  | 4 => .int
  | _ => .int
theorem nmX8 : ∀ a, a < 6 → ∀ b, b < 6 → a ≠ b → (TX8 a).2.1 ≠ (TX8 b).2.1 := by decide +kernel
theorem tyX8_ok : ∀ k, k < 6 → parseFieldDescriptor (TX8 k).2.2.1 = some (tyX8 k) := by decide +kernel
def RX9 : String := "GentleRoad$Ways"
def TX9 : u_T := fun k => match k with
  | 0 => ("GentleRoad$Ways", "land", "LGentleRoad$Land;", true)
  | 1 => ("GentleRoad$Ways", "streams", "LGentleRoad$Streams;", true)
  | 2 => ("GentleRoad$Ways", "weights", "[I", true)
  | 3 => ("GentleRoad$Ways", "lifts", "[I", true)
  | 4 => ("GentleRoad$Ways", "flats", "[Z", true)
  | 5 => ("GentleRoad$Ways", "bendWeights", "[I", true)
  | 6 => ("GentleRoad$Ways", "used", "[I", true)
  | 7 => ("GentleRoad$Ways", "heap", "LGentleRoad$Heap;", true)
  | 8 => ("GentleRoad$Ways", "path", "[I", true)
  | 9 => ("GentleRoad$Ways", "seen", "[I", true)
  | 10 => ("GentleRoad$Ways", "queue", "[I", true)
  | 11 => ("GentleRoad$Ways", "mostBend", "I", false)
  | 12 => ("GentleRoad$Ways", "layers", "I", false)
  | _ => ("GentleRoad$Ways", "pathSize", "I", false)
def tyX9 : Nat → FieldType := fun k => match k with
  | 0 => .object "GentleRoad$Land"
  | 1 => .object "GentleRoad$Streams"
  | 2 => .array .int
  | 3 => .array .int
  | 4 => .array .boolean
  | 5 => .array .int
  | 6 => .array .int
  | 7 => .object "GentleRoad$Heap"
  | 8 => .array .int
  | 9 => .array .int
  | 10 => .array .int
  | 11 => .int
  | 12 => .int
  | _ => .int
theorem nmX9 : ∀ a, a < 14 → ∀ b, b < 14 → a ≠ b → (TX9 a).2.1 ≠ (TX9 b).2.1 := by decide +kernel
theorem tyX9_ok : ∀ k, k < 14 → parseFieldDescriptor (TX9 k).2.2.1 = some (tyX9 k) := by decide +kernel
def RX10 : String := "GentleRoad"
def TX10 : u_T := fun k => match k with
  | 0 => ("GentleRoad", "tape", "LGentleRoad$Tape;", true)
  | 1 => ("GentleRoad", "ground", "LGentleRoad$Land;", true)
  | 2 => ("GentleRoad", "text", "LGentleRoad$Text;", true)
  | 3 => ("GentleRoad", "past", "LGentleRoad$Past;", true)
  | 4 => ("GentleRoad", "streams", "LGentleRoad$Streams;", true)
  | 5 => ("GentleRoad", "ways", "LGentleRoad$Ways;", true)
  | 6 => ("GentleRoad", "planner", "LGentleRoad$Planner;", true)
  | 7 => ("GentleRoad", "grader", "LGentleRoad$Grader;", true)
  | 8 => ("GentleRoad", "survey", "LGentleRoad$Survey;", true)
  | 9 => ("GentleRoad", "imageCells", "[I", true)
  | 10 => ("GentleRoad", "imageKept", "Z", false)
  | _ => ("GentleRoad", "wrongByte", "I", false)
def tyX10 : Nat → FieldType := fun k => match k with
  | 0 => .object "GentleRoad$Tape"
  | 1 => .object "GentleRoad$Land"
  | 2 => .object "GentleRoad$Text"
  | 3 => .object "GentleRoad$Past"
  | 4 => .object "GentleRoad$Streams"
  | 5 => .object "GentleRoad$Ways"
  | 6 => .object "GentleRoad$Planner"
  | 7 => .object "GentleRoad$Grader"
  | 8 => .object "GentleRoad$Survey"
  | 9 => .array .int
  | 10 => .boolean
  | _ => .int
theorem nmX10 : ∀ a, a < 12 → ∀ b, b < 12 → a ≠ b → (TX10 a).2.1 ≠ (TX10 b).2.1 := by decide +kernel
theorem tyX10_ok : ∀ k, k < 12 → parseFieldDescriptor (TX10 k).2.2.1 = some (tyX10 k) := by decide +kernel
def RX11 : String := "GentleRoadModel"
def TX11 : u_T := fun k => match k with
  | 0 => ("GentleRoadModel", "thrown", "I", false)
  | 1 => ("GentleRoadModel", "m", "[I", true)
  | 2 => ("GentleRoadModel", "undoRow", "[I", true)
  | 3 => ("GentleRoadModel", "undos", "I", false)
  | 4 => ("GentleRoadModel", "kept", "[I", true)
  | 5 => ("GentleRoadModel", "hasImage", "Z", false)
  | 6 => ("GentleRoadModel", "first", "[I", true)
  | 7 => ("GentleRoadModel", "most", "[I", true)
  | 8 => ("GentleRoadModel", "rowBy", "[I", true)
  | 9 => ("GentleRoadModel", "placeBy", "[I", true)
  | 10 => ("GentleRoadModel", "tape", "[I", true)
  | 11 => ("GentleRoadModel", "taped", "I", false)
  | 12 => ("GentleRoadModel", "end", "I", false)
  | 13 => ("GentleRoadModel", "at", "I", false)
  | 14 => ("GentleRoadModel", "fault", "I", false)
  | 15 => ("GentleRoadModel", "read", "[I", true)
  | 16 => ("GentleRoadModel", "amount", "[I", true)
  | 17 => ("GentleRoadModel", "steps", "[I", true)
  | 18 => ("GentleRoadModel", "borne", "[I", true)
  | 19 => ("GentleRoadModel", "path", "[I", true)
  | 20 => ("GentleRoadModel", "pathMany", "I", false)
  | 21 => ("GentleRoadModel", "earthBy", "[I", true)
  | 22 => ("GentleRoadModel", "chosen", "[I", true)
  | 23 => ("GentleRoadModel", "stops", "[I", true)
  | 24 => ("GentleRoadModel", "stopMany", "I", false)
  | 25 => ("GentleRoadModel", "between", "[I", true)
  | 26 => ("GentleRoadModel", "roundBest", "I", false)
  | 27 => ("GentleRoadModel", "sums", "[I", true)
  | 28 => ("GentleRoadModel", "barA", "I", false)
  | 29 => ("GentleRoadModel", "barB", "I", false)
  | 30 => ("GentleRoadModel", "spareOf", "[I", true)
  | 31 => ("GentleRoadModel", "parts", "[I", true)
  | 32 => ("GentleRoadModel", "catches", "[I", true)
  | 33 => ("GentleRoadModel", "spills", "[I", true)
  | _ => ("GentleRoadModel", "told", "I", false)
def tyX11 : Nat → FieldType := fun k => match k with
  | 0 => .int
  | 1 => .array .int
  | 2 => .array .int
  | 3 => .int
  | 4 => .array .int
  | 5 => .boolean
  | 6 => .array .int
  | 7 => .array .int
  | 8 => .array .int
  | 9 => .array .int
  | 10 => .array .int
  | 11 => .int
  | 12 => .int
  | 13 => .int
  | 14 => .int
  | 15 => .array .int
  | 16 => .array .int
  | 17 => .array .int
  | 18 => .array .int
  | 19 => .array .int
  | 20 => .int
  | 21 => .array .int
  | 22 => .array .int
  | 23 => .array .int
  | 24 => .int
  | 25 => .array .int
  | 26 => .int
  | 27 => .array .int
  | 28 => .int
  | 29 => .int
  | 30 => .array .int
  | 31 => .array .int
  | 32 => .array .int
  | 33 => .array .int
  | _ => .int
theorem nmX11 : ∀ a, a < 35 → ∀ b, b < 35 → a ≠ b → (TX11 a).2.1 ≠ (TX11 b).2.1 := by decide +kernel
theorem tyX11_ok : ∀ k, k < 35 → parseFieldDescriptor (TX11 k).2.2.1 = some (tyX11 k) := by decide +kernel
/-- the words of the tables that hold in every state of the run -/
def zT : List Cond := lw_tbl.filter goodWord
theorem zt (i : Nat) {w : Cond} (h : tables_1[i]? = some w) (g : goodWord w = true) : w ∈ zT := List.mem_filter.mpr ⟨List.mem_append_right _ (List.mem_of_getElem? h), g⟩
theorem zT_good : ∀ w ∈ zT, ((w.onTables && w.keeps) = true ∨ ∃ ty, w = .arrayClass ty) := fun w h => good_of_word (List.mem_filter.mp h).2
abbrev zCl : List vw_C := [(RX0, TX0, 8), (RX1, TX1, 4), (RX2, TX2, 2), (RX3, TX3, 3), (RX4, TX4, 10), (RX5, TX5, 4), (RX6, TX6, 4), (RX7, TX7, 2), (RX8, TX8, 6), (RX9, TX9, 14), (RX10, TX10, 12), (RX11, TX11, 35)]
theorem inX0 : ∀ w ∈ u_ws RX0 TX0 8, w ∈ zT := by
  intro w hw
  obtain ⟨k, hk, rfl⟩ := List.mem_map.mp hw
  have hk := List.mem_range.mp hk
  match k, hk with
  | 0, _ => exact zt 256 (by decide +kernel) (by decide +kernel)
  | 1, _ => exact zt 258 (by decide +kernel) (by decide +kernel)
  | 2, _ => exact zt 260 (by decide +kernel) (by decide +kernel)
  | 3, _ => exact zt 262 (by decide +kernel) (by decide +kernel)
  | 4, _ => exact zt 264 (by decide +kernel) (by decide +kernel)
  | 5, _ => exact zt 266 (by decide +kernel) (by decide +kernel)
  | 6, _ => exact zt 268 (by decide +kernel) (by decide +kernel)
  | 7, _ => exact zt 270 (by decide +kernel) (by decide +kernel)
  | k + 8, h => exact absurd h (by omega)
theorem inX1 : ∀ w ∈ u_ws RX1 TX1 4, w ∈ zT := by
  intro w hw
  obtain ⟨k, hk, rfl⟩ := List.mem_map.mp hw
  have hk := List.mem_range.mp hk
  match k, hk with
  | 0, _ => exact zt 153 (by decide +kernel) (by decide +kernel)
  | 1, _ => exact zt 155 (by decide +kernel) (by decide +kernel)
  | 2, _ => exact zt 157 (by decide +kernel) (by decide +kernel)
  | 3, _ => exact zt 159 (by decide +kernel) (by decide +kernel)
  | k + 4, h => exact absurd h (by omega)
theorem inX2 : ∀ w ∈ u_ws RX2 TX2 2, w ∈ zT := by
  intro w hw
  obtain ⟨k, hk, rfl⟩ := List.mem_map.mp hw
  have hk := List.mem_range.mp hk
  match k, hk with
  | 0, _ => exact zt 71 (by decide +kernel) (by decide +kernel)
  | 1, _ => exact zt 73 (by decide +kernel) (by decide +kernel)
  | k + 2, h => exact absurd h (by omega)
theorem inX3 : ∀ w ∈ u_ws RX3 TX3 3, w ∈ zT := by
  intro w hw
  obtain ⟨k, hk, rfl⟩ := List.mem_map.mp hw
  have hk := List.mem_range.mp hk
  match k, hk with
  | 0, _ => exact zt 111 (by decide +kernel) (by decide +kernel)
  | 1, _ => exact zt 113 (by decide +kernel) (by decide +kernel)
  | 2, _ => exact zt 115 (by decide +kernel) (by decide +kernel)
  | k + 3, h => exact absurd h (by omega)
theorem inX4 : ∀ w ∈ u_ws RX4 TX4 10, w ∈ zT := by
  intro w hw
  obtain ⟨k, hk, rfl⟩ := List.mem_map.mp hw
  have hk := List.mem_range.mp hk
  match k, hk with
  | 0, _ => exact zt 221 (by decide +kernel) (by decide +kernel)
  | 1, _ => exact zt 223 (by decide +kernel) (by decide +kernel)
  | 2, _ => exact zt 225 (by decide +kernel) (by decide +kernel)
  | 3, _ => exact zt 227 (by decide +kernel) (by decide +kernel)
  | 4, _ => exact zt 229 (by decide +kernel) (by decide +kernel)
  | 5, _ => exact zt 231 (by decide +kernel) (by decide +kernel)
  | 6, _ => exact zt 233 (by decide +kernel) (by decide +kernel)
  | 7, _ => exact zt 235 (by decide +kernel) (by decide +kernel)
  | 8, _ => exact zt 237 (by decide +kernel) (by decide +kernel)
  | 9, _ => exact zt 239 (by decide +kernel) (by decide +kernel)
  | k + 10, h => exact absurd h (by omega)
theorem inX5 : ∀ w ∈ u_ws RX5 TX5 4, w ∈ zT := by
  intro w hw
  obtain ⟨k, hk, rfl⟩ := List.mem_map.mp hw
  have hk := List.mem_range.mp hk
  match k, hk with
  | 0, _ => exact zt 128 (by decide +kernel) (by decide +kernel)
  | 1, _ => exact zt 130 (by decide +kernel) (by decide +kernel)
  | 2, _ => exact zt 132 (by decide +kernel) (by decide +kernel)
  | 3, _ => exact zt 134 (by decide +kernel) (by decide +kernel)
  | k + 4, h => exact absurd h (by omega)
theorem inX6 : ∀ w ∈ u_ws RX6 TX6 4, w ∈ zT := by
  intro w hw
  obtain ⟨k, hk, rfl⟩ := List.mem_map.mp hw
  have hk := List.mem_range.mp hk
  match k, hk with
  | 0, _ => exact zt 283 (by decide +kernel) (by decide +kernel)
  | 1, _ => exact zt 285 (by decide +kernel) (by decide +kernel)
  | 2, _ => exact zt 287 (by decide +kernel) (by decide +kernel)
  | 3, _ => exact zt 289 (by decide +kernel) (by decide +kernel)
  | k + 4, h => exact absurd h (by omega)
theorem inX7 : ∀ w ∈ u_ws RX7 TX7 2, w ∈ zT := by
  intro w hw
  obtain ⟨k, hk, rfl⟩ := List.mem_map.mp hw
  have hk := List.mem_range.mp hk
  match k, hk with
  | 0, _ => exact zt 49 (by decide +kernel) (by decide +kernel)
  | 1, _ => exact zt 51 (by decide +kernel) (by decide +kernel)
  | k + 2, h => exact absurd h (by omega)
theorem inX8 : ∀ w ∈ u_ws RX8 TX8 6, w ∈ zT := by
  intro w hw
  obtain ⟨k, hk, rfl⟩ := List.mem_map.mp hw
  have hk := List.mem_range.mp hk
  match k, hk with
  | 0, _ => exact zt 88 (by decide +kernel) (by decide +kernel)
  | 1, _ => exact zt 90 (by decide +kernel) (by decide +kernel)
  | 2, _ => exact zt 92 (by decide +kernel) (by decide +kernel)
  | 3, _ => exact zt 94 (by decide +kernel) (by decide +kernel)
  | 4, _ => exact zt 96 (by decide +kernel) (by decide +kernel)
  | 5, _ => exact zt 98 (by decide +kernel) (by decide +kernel)
  | k + 6, h => exact absurd h (by omega)
theorem inX9 : ∀ w ∈ u_ws RX9 TX9 14, w ∈ zT := by
  intro w hw
  obtain ⟨k, hk, rfl⟩ := List.mem_map.mp hw
  have hk := List.mem_range.mp hk
  match k, hk with
  | 0, _ => exact zt 176 (by decide +kernel) (by decide +kernel)
  | 1, _ => exact zt 178 (by decide +kernel) (by decide +kernel)
  | 2, _ => exact zt 180 (by decide +kernel) (by decide +kernel)
  | 3, _ => exact zt 182 (by decide +kernel) (by decide +kernel)
  | 4, _ => exact zt 184 (by decide +kernel) (by decide +kernel)
  | 5, _ => exact zt 186 (by decide +kernel) (by decide +kernel)
  | 6, _ => exact zt 188 (by decide +kernel) (by decide +kernel)
  | 7, _ => exact zt 190 (by decide +kernel) (by decide +kernel)
  | 8, _ => exact zt 192 (by decide +kernel) (by decide +kernel)
  | 9, _ => exact zt 194 (by decide +kernel) (by decide +kernel)
  | 10, _ => exact zt 196 (by decide +kernel) (by decide +kernel)
  | 11, _ => exact zt 198 (by decide +kernel) (by decide +kernel)
  | 12, _ => exact zt 200 (by decide +kernel) (by decide +kernel)
  | 13, _ => exact zt 202 (by decide +kernel) (by decide +kernel)
  | k + 14, h => exact absurd h (by omega)
theorem inX10 : ∀ w ∈ u_ws RX10 TX10 12, w ∈ zT := by
  intro w hw
  obtain ⟨k, hk, rfl⟩ := List.mem_map.mp hw
  have hk := List.mem_range.mp hk
  match k, hk with
  | 0, _ => exact zt 304 (by decide +kernel) (by decide +kernel)
  | 1, _ => exact zt 306 (by decide +kernel) (by decide +kernel)
  | 2, _ => exact zt 308 (by decide +kernel) (by decide +kernel)
  | 3, _ => exact zt 310 (by decide +kernel) (by decide +kernel)
  | 4, _ => exact zt 312 (by decide +kernel) (by decide +kernel)
  | 5, _ => exact zt 314 (by decide +kernel) (by decide +kernel)
  | 6, _ => exact zt 316 (by decide +kernel) (by decide +kernel)
  | 7, _ => exact zt 318 (by decide +kernel) (by decide +kernel)
  | 8, _ => exact zt 320 (by decide +kernel) (by decide +kernel)
  | 9, _ => exact zt 322 (by decide +kernel) (by decide +kernel)
  | 10, _ => exact zt 324 (by decide +kernel) (by decide +kernel)
  | 11, _ => exact zt 326 (by decide +kernel) (by decide +kernel)
  | k + 12, h => exact absurd h (by omega)
theorem inX11 : ∀ w ∈ u_ws RX11 TX11 35, w ∈ zT := by
  intro w hw
  obtain ⟨k, hk, rfl⟩ := List.mem_map.mp hw
  have hk := List.mem_range.mp hk
  match k, hk with
  | 0, _ => exact zt 1717 (by decide +kernel) (by decide +kernel)
  | 1, _ => exact zt 1719 (by decide +kernel) (by decide +kernel)
  | 2, _ => exact zt 1721 (by decide +kernel) (by decide +kernel)
  | 3, _ => exact zt 1723 (by decide +kernel) (by decide +kernel)
  | 4, _ => exact zt 1725 (by decide +kernel) (by decide +kernel)
  | 5, _ => exact zt 1727 (by decide +kernel) (by decide +kernel)
  | 6, _ => exact zt 1729 (by decide +kernel) (by decide +kernel)
  | 7, _ => exact zt 1731 (by decide +kernel) (by decide +kernel)
  | 8, _ => exact zt 1733 (by decide +kernel) (by decide +kernel)
  | 9, _ => exact zt 1735 (by decide +kernel) (by decide +kernel)
  | 10, _ => exact zt 1737 (by decide +kernel) (by decide +kernel)
  | 11, _ => exact zt 1739 (by decide +kernel) (by decide +kernel)
  | 12, _ => exact zt 1741 (by decide +kernel) (by decide +kernel)
  | 13, _ => exact zt 1743 (by decide +kernel) (by decide +kernel)
  | 14, _ => exact zt 1745 (by decide +kernel) (by decide +kernel)
  | 15, _ => exact zt 1747 (by decide +kernel) (by decide +kernel)
  | 16, _ => exact zt 1749 (by decide +kernel) (by decide +kernel)
  | 17, _ => exact zt 1751 (by decide +kernel) (by decide +kernel)
  | 18, _ => exact zt 1753 (by decide +kernel) (by decide +kernel)
  | 19, _ => exact zt 1755 (by decide +kernel) (by decide +kernel)
  | 20, _ => exact zt 1757 (by decide +kernel) (by decide +kernel)
  | 21, _ => exact zt 1759 (by decide +kernel) (by decide +kernel)
  | 22, _ => exact zt 1761 (by decide +kernel) (by decide +kernel)
  | 23, _ => exact zt 1763 (by decide +kernel) (by decide +kernel)
  | 24, _ => exact zt 1765 (by decide +kernel) (by decide +kernel)
  | 25, _ => exact zt 1767 (by decide +kernel) (by decide +kernel)
  | 26, _ => exact zt 1769 (by decide +kernel) (by decide +kernel)
  | 27, _ => exact zt 1771 (by decide +kernel) (by decide +kernel)
  | 28, _ => exact zt 1773 (by decide +kernel) (by decide +kernel)
  | 29, _ => exact zt 1775 (by decide +kernel) (by decide +kernel)
  | 30, _ => exact zt 1777 (by decide +kernel) (by decide +kernel)
  | 31, _ => exact zt 1779 (by decide +kernel) (by decide +kernel)
  | 32, _ => exact zt 1781 (by decide +kernel) (by decide +kernel)
  | 33, _ => exact zt 1783 (by decide +kernel) (by decide +kernel)
  | 34, _ => exact zt 1785 (by decide +kernel) (by decide +kernel)
  | k + 35, h => exact absurd h (by omega)
/-- the objects, by their numbers: 0 GentleRoad, 1 Tape, 3 Land, 6 Text, 9 Past, 11 Streams, 15 Ways, 21 Heap, 28 Planner, 35 Grader, 38 Survey, 41 GentleRoadModel -/
def zLy : List zL := [zOb 10 [some (some 1), some (some 3), some (some 6), some (some 9), some (some 11), some (some 15), some (some 28), some (some 35), some (some 38), some (some 40), none, none], zOb 7 [some (some 2), none], zAr 1 400, zOb 2 [some (some 4), some (some 5)], zAr 1 499, zAr 1 648, zOb 8 [some (some 1), some (some 7), some (some 8), none, none, none], zAr 1 499, zAr 2 11, zOb 3 [some (some 10), none, none], zAr 1 3992, zOb 5 [some (some 3), some (some 12), some (some 13), some (some 14)], zAr 1 81, zAr 1 81, zAr 1 81, zOb 9 [some (some 3), some (some 11), some (some 16), some (some 17), some (some 18), some (some 19), some (some 20), some (some 21), some (some 25), some (some 26), some (some 27), none, none, none], zAr 1 648, zAr 1 648, zAr 2 81, zAr 1 5, zAr 1 81, zOb 1 [some (some 22), some (some 23), some (some 24), none], zAr 1 2592, zAr 1 2592, zAr 1 2592, zAr 1 649, zAr 1 648, zAr 1 648, zOb 4 [some (some 3), some (some 15), some (some 29), some (some 30), some (some 31), some (some 32), some (some 33), some (some 34), none, none], zAr 1 81, zAr 1 81, zAr 1 81, zAr 1 6, zAr 1 36, zAr 1 192, zOb 0 [some (some 3), some (some 36), some (some 37), none, none, none, none, none], zAr 1 2114, zAr 1 6040, zOb 6 [some (some 3), some (some 35), some (some 11), some (some 39)], zAr 1 81, zAr 1 499, zOb 11 [none, some (some 42), some (some 43), none, some (some 44), none, some (some 45), some (some 46), some (some 47), some (some 48), some (some 49), none, none, none, none, some (some 50), some (some 51), some (some 52), some (some 53), some (some 54), none, some (some 55), some (some 56), some (some 57), none, some (some 58), none, some (some 59), none, none, some (some 60), some (some 61), some (some 62), some (some 63), none], zAr 1 499, zAr 1 3992, zAr 1 499, zAr 1 11, zAr 1 11, zAr 1 8, zAr 1 8, zAr 1 400, zAr 1 499, zAr 1 648, zAr 1 648, zAr 1 2592, zAr 1 700, zAr 1 68880, zAr 1 40, zAr 1 6, zAr 1 36, zAr 1 81, zAr 1 700, zAr 1 280, zAr 1 81, zAr 1 81, zLo 1]
theorem zl_0 : zLy[0]? = some (zOb 10 [some (some 1), some (some 3), some (some 6), some (some 9), some (some 11), some (some 15), some (some 28), some (some 35), some (some 38), some (some 40), none, none]) := rfl
theorem zl_1 : zLy[1]? = some (zOb 7 [some (some 2), none]) := rfl
theorem zl_2 : zLy[2]? = some (zAr 1 400) := rfl
theorem zl_3 : zLy[3]? = some (zOb 2 [some (some 4), some (some 5)]) := rfl
theorem zl_4 : zLy[4]? = some (zAr 1 499) := rfl
theorem zl_5 : zLy[5]? = some (zAr 1 648) := rfl
theorem zl_6 : zLy[6]? = some (zOb 8 [some (some 1), some (some 7), some (some 8), none, none, none]) := rfl
theorem zl_7 : zLy[7]? = some (zAr 1 499) := rfl
theorem zl_8 : zLy[8]? = some (zAr 2 11) := rfl
theorem zl_9 : zLy[9]? = some (zOb 3 [some (some 10), none, none]) := rfl
theorem zl_10 : zLy[10]? = some (zAr 1 3992) := rfl
theorem zl_11 : zLy[11]? = some (zOb 5 [some (some 3), some (some 12), some (some 13), some (some 14)]) := rfl
theorem zl_12 : zLy[12]? = some (zAr 1 81) := rfl
theorem zl_13 : zLy[13]? = some (zAr 1 81) := rfl
theorem zl_14 : zLy[14]? = some (zAr 1 81) := rfl
theorem zl_15 : zLy[15]? = some (zOb 9 [some (some 3), some (some 11), some (some 16), some (some 17), some (some 18), some (some 19), some (some 20), some (some 21), some (some 25), some (some 26), some (some 27), none, none, none]) := rfl
theorem zl_16 : zLy[16]? = some (zAr 1 648) := rfl
theorem zl_17 : zLy[17]? = some (zAr 1 648) := rfl
theorem zl_18 : zLy[18]? = some (zAr 2 81) := rfl
theorem zl_19 : zLy[19]? = some (zAr 1 5) := rfl
theorem zl_20 : zLy[20]? = some (zAr 1 81) := rfl
theorem zl_21 : zLy[21]? = some (zOb 1 [some (some 22), some (some 23), some (some 24), none]) := rfl
theorem zl_22 : zLy[22]? = some (zAr 1 2592) := rfl
theorem zl_23 : zLy[23]? = some (zAr 1 2592) := rfl
theorem zl_24 : zLy[24]? = some (zAr 1 2592) := rfl
theorem zl_25 : zLy[25]? = some (zAr 1 649) := rfl
theorem zl_26 : zLy[26]? = some (zAr 1 648) := rfl
theorem zl_27 : zLy[27]? = some (zAr 1 648) := rfl
theorem zl_28 : zLy[28]? = some (zOb 4 [some (some 3), some (some 15), some (some 29), some (some 30), some (some 31), some (some 32), some (some 33), some (some 34), none, none]) := rfl
theorem zl_29 : zLy[29]? = some (zAr 1 81) := rfl
theorem zl_30 : zLy[30]? = some (zAr 1 81) := rfl
theorem zl_31 : zLy[31]? = some (zAr 1 81) := rfl
theorem zl_32 : zLy[32]? = some (zAr 1 6) := rfl
theorem zl_33 : zLy[33]? = some (zAr 1 36) := rfl
theorem zl_34 : zLy[34]? = some (zAr 1 192) := rfl
theorem zl_35 : zLy[35]? = some (zOb 0 [some (some 3), some (some 36), some (some 37), none, none, none, none, none]) := rfl
theorem zl_36 : zLy[36]? = some (zAr 1 2114) := rfl
theorem zl_37 : zLy[37]? = some (zAr 1 6040) := rfl
theorem zl_38 : zLy[38]? = some (zOb 6 [some (some 3), some (some 35), some (some 11), some (some 39)]) := rfl
theorem zl_39 : zLy[39]? = some (zAr 1 81) := rfl
theorem zl_40 : zLy[40]? = some (zAr 1 499) := rfl
theorem zl_41 : zLy[41]? = some (zOb 11 [none, some (some 42), some (some 43), none, some (some 44), none, some (some 45), some (some 46), some (some 47), some (some 48), some (some 49), none, none, none, none, some (some 50), some (some 51), some (some 52), some (some 53), some (some 54), none, some (some 55), some (some 56), some (some 57), none, some (some 58), none, some (some 59), none, none, some (some 60), some (some 61), some (some 62), some (some 63), none]) := rfl
theorem zl_42 : zLy[42]? = some (zAr 1 499) := rfl
theorem zl_43 : zLy[43]? = some (zAr 1 3992) := rfl
theorem zl_44 : zLy[44]? = some (zAr 1 499) := rfl
theorem zl_45 : zLy[45]? = some (zAr 1 11) := rfl
theorem zl_46 : zLy[46]? = some (zAr 1 11) := rfl
theorem zl_47 : zLy[47]? = some (zAr 1 8) := rfl
theorem zl_48 : zLy[48]? = some (zAr 1 8) := rfl
theorem zl_49 : zLy[49]? = some (zAr 1 400) := rfl
theorem zl_50 : zLy[50]? = some (zAr 1 499) := rfl
theorem zl_51 : zLy[51]? = some (zAr 1 648) := rfl
theorem zl_52 : zLy[52]? = some (zAr 1 648) := rfl
theorem zl_53 : zLy[53]? = some (zAr 1 2592) := rfl
theorem zl_54 : zLy[54]? = some (zAr 1 700) := rfl
theorem zl_55 : zLy[55]? = some (zAr 1 68880) := rfl
theorem zl_56 : zLy[56]? = some (zAr 1 40) := rfl
theorem zl_57 : zLy[57]? = some (zAr 1 6) := rfl
theorem zl_58 : zLy[58]? = some (zAr 1 36) := rfl
theorem zl_59 : zLy[59]? = some (zAr 1 81) := rfl
theorem zl_60 : zLy[60]? = some (zAr 1 700) := rfl
theorem zl_61 : zLy[61]? = some (zAr 1 280) := rfl
theorem zl_62 : zLy[62]? = some (zAr 1 81) := rfl
theorem zl_63 : zLy[63]? = some (zAr 1 81) := rfl
theorem zl_64 : zLy[64]? = some (zLo 1) := rfl
