/-! The classes (names, fields, types: printed by the kit), and the tables of our own small machine: methods by number, what each index of a constant pool stands for, with its place in lw_tbl. Written by wip/whole/gen/mktab.py. -/
def RX0 : String := "ClockZones$Graph"
def TX0 : u_T := fun k => match k with
  | 0 => ("ClockZones$Graph", "zones", "[LClockZones$Zone;", true)
  | 1 => ("ClockZones$Graph", "places", "[I", true)
  | 2 => ("ClockZones$Graph", "parents", "[I", true)
  | 3 => ("ClockZones$Graph", "edges", "[I", true)
  | 4 => ("ClockZones$Graph", "depths", "[I", true)
  | 5 => ("ClockZones$Graph", "opens", "[I", true)
  | 6 => ("ClockZones$Graph", "firsts", "[I", true)
  | 7 => ("ClockZones$Graph", "way", "[I", true)
  | 8 => ("ClockZones$Graph", "work", "LClockZones$Zone;", true)
  | _ => ("ClockZones$Graph", "count", "I", false)
def tyX0 : Nat → FieldType := fun k => match k with
  | 0 => .array (.object "ClockZones$Zone")
  | 1 => .array .int
  | 2 => .array .int
  | 3 => .array .int
  | 4 => .array .int
  | 5 => .array .int
  | 6 => .array .int
  | 7 => .array .int
  | 8 => .object "ClockZones$Zone"
  | _ => .int
abbrev wsX00 : List Cond := u_ws RX0 TX0 10
theorem nmX0 : ∀ a, a < 10 → ∀ b, b < 10 → a ≠ b → (TX0 a).2.1 ≠ (TX0 b).2.1 := by decide +kernel
theorem tyX0_ok : ∀ k, k < 10 → parseFieldDescriptor (TX0 k).2.2.1 = some (tyX0 k) := by decide +kernel
def RX1 : String := "ClockZones$History"
def TX1 : u_T := fun k => match k with
  | 0 => ("ClockZones$History", "owners", "[I", true)
  | 1 => ("ClockZones$History", "zones", "[LClockZones$Zone;", true)
  | 2 => ("ClockZones$History", "rows", "[I", true)
  | 3 => ("ClockZones$History", "lengths", "[I", true)
  | 4 => ("ClockZones$History", "next", "I", false)
  | _ => ("ClockZones$History", "count", "I", false)
def tyX1 : Nat → FieldType := fun k => match k with
  | 0 => .array .int
  | 1 => .array (.object "ClockZones$Zone")
  | 2 => .array .int
  | 3 => .array .int
  | 4 => .int
  | _ => .int
abbrev wsX10 : List Cond := u_ws RX1 TX1 6
theorem nmX1 : ∀ a, a < 6 → ∀ b, b < 6 → a ≠ b → (TX1 a).2.1 ≠ (TX1 b).2.1 := by decide +kernel
theorem tyX1_ok : ∀ k, k < 6 → parseFieldDescriptor (TX1 k).2.2.1 = some (tyX1 k) := by decide +kernel
def RX2 : String := "ClockZones$Path"
def TX2 : u_T := fun k => match k with
  | 0 => ("ClockZones$Path", "edges", "[I", true)
  | _ => ("ClockZones$Path", "length", "I", false)
def tyX2 : Nat → FieldType := fun k => match k with
  | 0 => .array .int
  | _ => .int
abbrev wsX20 : List Cond := u_ws RX2 TX2 2
theorem nmX2 : ∀ a, a < 2 → ∀ b, b < 2 → a ≠ b → (TX2 a).2.1 ≠ (TX2 b).2.1 := by decide +kernel
theorem tyX2_ok : ∀ k, k < 2 → parseFieldDescriptor (TX2 k).2.2.1 = some (tyX2 k) := by decide +kernel
def RX3 : String := "ClockZones$Plan"
def TX3 : u_T := fun k => match k with
  | 0 => ("ClockZones$Plan", "lines", "I", false)
  | 1 => ("ClockZones$Plan", "clocks", "I", false)
  | 2 => ("ClockZones$Plan", "places", "I", false)
  | 3 => ("ClockZones$Plan", "edges", "I", false)
  | 4 => ("ClockZones$Plan", "start", "I", false)
  | 5 => ("ClockZones$Plan", "started", "Z", false)
  | 6 => ("ClockZones$Plan", "clockNames", "[I", true)
  | 7 => ("ClockZones$Plan", "placeNames", "[I", true)
  | 8 => ("ClockZones$Plan", "greats", "[I", true)
  | 9 => ("ClockZones$Plan", "ruleCounts", "[I", true)
  | 10 => ("ClockZones$Plan", "ruleClocks", "[I", true)
  | 11 => ("ClockZones$Plan", "ruleRels", "[I", true)
  | 12 => ("ClockZones$Plan", "ruleNumbers", "[I", true)
  | 13 => ("ClockZones$Plan", "from", "[I", true)
  | 14 => ("ClockZones$Plan", "to", "[I", true)
  | 15 => ("ClockZones$Plan", "setCounts", "[I", true)
  | 16 => ("ClockZones$Plan", "setClocks", "[I", true)
  | _ => ("ClockZones$Plan", "setNumbers", "[I", true)
def tyX3 : Nat → FieldType := fun k => match k with
  | 0 => .int
  | 1 => .int
  | 2 => .int
  | 3 => .int
  | 4 => .int
  | 5 => .boolean
  | 6 => .array .int
  | 7 => .array .int
  | 8 => .array .int
  | 9 => .array .int
  | 10 => .array .int
  | 11 => .array .int
  | 12 => .array .int
  | 13 => .array .int
  | 14 => .array .int
  | 15 => .array .int
  | 16 => .array .int
  | _ => .array .int
abbrev wsX30 : List Cond := u_ws RX3 TX3 18
theorem nmX3 : ∀ a, a < 18 → ∀ b, b < 18 → a ≠ b → (TX3 a).2.1 ≠ (TX3 b).2.1 := by decide +kernel
theorem tyX3_ok : ∀ k, k < 18 → parseFieldDescriptor (TX3 k).2.2.1 = some (tyX3 k) := by decide +kernel
def RX4 : String := "ClockZones$Reader"
def TX4 : u_T := fun k => match k with
  | 0 => ("ClockZones$Reader", "tape", "[B", true)
  | 1 => ("ClockZones$Reader", "taped", "I", false)
  | 2 => ("ClockZones$Reader", "fresh", "LClockZones$Plan;", false)
  | 3 => ("ClockZones$Reader", "length", "I", false)
  | 4 => ("ClockZones$Reader", "pos", "I", false)
  | 5 => ("ClockZones$Reader", "kind", "I", false)
  | 6 => ("ClockZones$Reader", "at", "I", false)
  | 7 => ("ClockZones$Reader", "number", "I", false)
  | 8 => ("ClockZones$Reader", "faultKind", "I", false)
  | _ => ("ClockZones$Reader", "faultAt", "I", false)
def tyX4 : Nat → FieldType := fun k => match k with
  | 0 => .array .byte
  | 1 => .int
  | 2 => .object "ClockZones$Plan"
  | 3 => .int
  | 4 => .int
  | 5 => .int
  | 6 => .int
  | 7 => .int
  | 8 => .int
  | _ => .int
abbrev wsX40 : List Cond := u_ws RX4 TX4 10
theorem nmX4 : ∀ a, a < 10 → ∀ b, b < 10 → a ≠ b → (TX4 a).2.1 ≠ (TX4 b).2.1 := by decide +kernel
theorem tyX4_ok : ∀ k, k < 10 → parseFieldDescriptor (TX4 k).2.2.1 = some (tyX4 k) := by decide +kernel
def RX5 : String := "ClockZones$Times"
def TX5 : u_T := fun k => match k with
  | 0 => ("ClockZones$Times", "gaps", "[I", true)
  | 1 => ("ClockZones$Times", "wholeGaps", "[I", true)
  | 2 => ("ClockZones$Times", "setMoments", "[I", true)
  | 3 => ("ClockZones$Times", "setNumbers", "[I", true)
  | 4 => ("ClockZones$Times", "stale", "Z", false)
  | 5 => ("ClockZones$Times", "wholeStale", "Z", false)
  | 6 => ("ClockZones$Times", "can", "Z", false)
  | _ => ("ClockZones$Times", "canWhole", "Z", false)
def tyX5 : Nat → FieldType := fun k => match k with
  | 0 => .array .int
  | 1 => .array .int
  | 2 => .array .int
  | 3 => .array .int
  | 4 => .boolean
  | 5 => .boolean
  | 6 => .boolean
  | _ => .boolean
abbrev wsX50 : List Cond := u_ws RX5 TX5 8
theorem nmX5 : ∀ a, a < 8 → ∀ b, b < 8 → a ≠ b → (TX5 a).2.1 ≠ (TX5 b).2.1 := by decide +kernel
theorem tyX5_ok : ∀ k, k < 8 → parseFieldDescriptor (TX5 k).2.2.1 = some (tyX5 k) := by decide +kernel
def RX6 : String := "ClockZones$Walk"
def TX6 : u_T := fun k => match k with
  | _ => ("ClockZones$Walk", "zone", "LClockZones$Zone;", true)
def tyX6 : Nat → FieldType := fun k => match k with
  | _ => .object "ClockZones$Zone"
abbrev wsX60 : List Cond := u_ws RX6 TX6 1
theorem nmX6 : ∀ a, a < 1 → ∀ b, b < 1 → a ≠ b → (TX6 a).2.1 ≠ (TX6 b).2.1 := by decide +kernel
theorem tyX6_ok : ∀ k, k < 1 → parseFieldDescriptor (TX6 k).2.2.1 = some (tyX6 k) := by decide +kernel
def RX7 : String := "ClockZones$Zone"
def TX7 : u_T := fun k => match k with
  | 0 => ("ClockZones$Zone", "cells", "[I", true)
  | 1 => ("ClockZones$Zone", "size", "I", false)
  | _ => ("ClockZones$Zone", "vacant", "Z", false)
def tyX7 : Nat → FieldType := fun k => match k with
  | 0 => .array .int
  | 1 => .int
  | _ => .boolean
abbrev wsX70 : List Cond := u_ws RX7 TX7 3
theorem nmX7 : ∀ a, a < 3 → ∀ b, b < 3 → a ≠ b → (TX7 a).2.1 ≠ (TX7 b).2.1 := by decide +kernel
theorem tyX7_ok : ∀ k, k < 3 → parseFieldDescriptor (TX7 k).2.2.1 = some (tyX7 k) := by decide +kernel
def RX8 : String := "ClockZones"
def TX8 : u_T := fun k => match k with
  | 0 => ("ClockZones", "reader", "LClockZones$Reader;", true)
  | 1 => ("ClockZones", "plan", "LClockZones$Plan;", false)
  | 2 => ("ClockZones", "tables", "[LClockZones$Zone;", true)
  | 3 => ("ClockZones", "work", "LClockZones$Zone;", true)
  | 4 => ("ClockZones", "timed", "LClockZones$Zone;", true)
  | 5 => ("ClockZones", "point", "[I", true)
  | 6 => ("ClockZones", "graph", "LClockZones$Graph;", true)
  | 7 => ("ClockZones", "path", "LClockZones$Path;", true)
  | 8 => ("ClockZones", "times", "LClockZones$Times;", true)
  | 9 => ("ClockZones", "walk", "LClockZones$Walk;", true)
  | _ => ("ClockZones", "history", "LClockZones$History;", true)
def tyX8 : Nat → FieldType := fun k => match k with
  | 0 => .object "ClockZones$Reader"
  | 1 => .object "ClockZones$Plan"
  | 2 => .array (.object "ClockZones$Zone")
  | 3 => .object "ClockZones$Zone"
  | 4 => .object "ClockZones$Zone"
  | 5 => .array .int
  | 6 => .object "ClockZones$Graph"
  | 7 => .object "ClockZones$Path"
  | 8 => .object "ClockZones$Times"
  | 9 => .object "ClockZones$Walk"
  | _ => .object "ClockZones$History"
abbrev wsX80 : List Cond := u_ws RX8 TX8 11
theorem nmX8 : ∀ a, a < 11 → ∀ b, b < 11 → a ≠ b → (TX8 a).2.1 ≠ (TX8 b).2.1 := by decide +kernel
theorem tyX8_ok : ∀ k, k < 11 → parseFieldDescriptor (TX8 k).2.2.1 = some (tyX8 k) := by decide +kernel
def RX9 : String := "ClockZonesModel"
def TX9 : u_T := fun k => match k with
  | 0 => ("ClockZonesModel", "thrown", "I", false)
  | 1 => ("ClockZonesModel", "lines", "I", false)
  | 2 => ("ClockZonesModel", "clocks", "I", false)
  | 3 => ("ClockZonesModel", "places", "I", false)
  | 4 => ("ClockZonesModel", "edges", "I", false)
  | 5 => ("ClockZonesModel", "start", "I", false)
  | 6 => ("ClockZonesModel", "whenMany", "[I", true)
  | 7 => ("ClockZonesModel", "whenClock", "[I", true)
  | 8 => ("ClockZonesModel", "whenRel", "[I", true)
  | 9 => ("ClockZonesModel", "whenNumber", "[I", true)
  | 10 => ("ClockZonesModel", "edgeFrom", "[I", true)
  | 11 => ("ClockZonesModel", "edgeTo", "[I", true)
  | 12 => ("ClockZonesModel", "setMany", "[I", true)
  | 13 => ("ClockZonesModel", "setClock", "[I", true)
  | 14 => ("ClockZonesModel", "setNumber", "[I", true)
  | 15 => ("ClockZonesModel", "great", "[I", true)
  | 16 => ("ClockZonesModel", "now", "[I", true)
  | 17 => ("ClockZonesModel", "past", "[I", true)
  | 18 => ("ClockZonesModel", "pasts", "I", false)
  | 19 => ("ClockZonesModel", "nodePlace", "[I", true)
  | 20 => ("ClockZonesModel", "nodeBy", "[I", true)
  | 21 => ("ClockZonesModel", "nodeEdge", "[I", true)
  | 22 => ("ClockZonesModel", "nodeTable", "[I", true)
  | 23 => ("ClockZonesModel", "nodes", "I", false)
  | 24 => ("ClockZonesModel", "tape", "[B", true)
  | 25 => ("ClockZonesModel", "taped", "I", false)
  | 26 => ("ClockZonesModel", "size", "I", false)
  | 27 => ("ClockZonesModel", "next", "I", false)
  | 28 => ("ClockZonesModel", "from", "I", false)
  | 29 => ("ClockZonesModel", "token", "I", false)
  | 30 => ("ClockZonesModel", "value", "I", false)
  | 31 => ("ClockZonesModel", "fault", "I", false)
  | 32 => ("ClockZonesModel", "faultPlace", "I", false)
  | 33 => ("ClockZonesModel", "bad", "Z", false)
  | 34 => ("ClockZonesModel", "clockName", "[I", true)
  | 35 => ("ClockZonesModel", "placeName", "[I", true)
  | 36 => ("ClockZonesModel", "newClocks", "I", false)
  | 37 => ("ClockZonesModel", "newPlaces", "I", false)
  | 38 => ("ClockZonesModel", "newEdges", "I", false)
  | 39 => ("ClockZonesModel", "newStart", "I", false)
  | 40 => ("ClockZonesModel", "hasStart", "Z", false)
  | 41 => ("ClockZonesModel", "newLines", "I", false)
  | 42 => ("ClockZonesModel", "newMany", "[I", true)
  | 43 => ("ClockZonesModel", "newClock", "[I", true)
  | 44 => ("ClockZonesModel", "newRel", "[I", true)
  | 45 => ("ClockZonesModel", "newNumber", "[I", true)
  | 46 => ("ClockZonesModel", "newFrom", "[I", true)
  | 47 => ("ClockZonesModel", "newTo", "[I", true)
  | 48 => ("ClockZonesModel", "newSets", "[I", true)
  | 49 => ("ClockZonesModel", "newSetClock", "[I", true)
  | 50 => ("ClockZonesModel", "newSetNumber", "[I", true)
  | 51 => ("ClockZonesModel", "w", "[I", true)
  | 52 => ("ClockZonesModel", "dim", "I", false)
  | 53 => ("ClockZonesModel", "isVoid", "Z", false)
  | 54 => ("ClockZonesModel", "times", "[I", true)
  | 55 => ("ClockZonesModel", "road", "[I", true)
  | 56 => ("ClockZonesModel", "roads", "I", false)
  | 57 => ("ClockZonesModel", "since", "[I", true)
  | 58 => ("ClockZonesModel", "began", "[I", true)
  | 59 => ("ClockZonesModel", "sinceAt", "[I", true)
  | _ => ("ClockZonesModel", "beganAt", "[I", true)
def tyX9 : Nat → FieldType := fun k => match k with
  | 0 => .int
  | 1 => .int
  | 2 => .int
  | 3 => .int
  | 4 => .int
  | 5 => .int
  | 6 => .array .int
  | 7 => .array .int
  | 8 => .array .int
  | 9 => .array .int
  | 10 => .array .int
  | 11 => .array .int
  | 12 => .array .int
  | 13 => .array .int
  | 14 => .array .int
  | 15 => .array .int
  | 16 => .array .int
  | 17 => .array .int
  | 18 => .int
  | 19 => .array .int
  | 20 => .array .int
  | 21 => .array .int
  | 22 => .array .int
  | 23 => .int
  | 24 => .array .byte
  | 25 => .int
  | 26 => .int
  | 27 => .int
  | 28 => .int
  | 29 => .int
  | 30 => .int
  | 31 => .int
  | 32 => .int
  | 33 => .boolean
  | 34 => .array .int
  | 35 => .array .int
  | 36 => .int
  | 37 => .int
  | 38 => .int
  | 39 => .int
  | 40 => .boolean
  | 41 => .int
  | 42 => .array .int
  | 43 => .array .int
  | 44 => .array .int
  | 45 => .array .int
  | 46 => .array .int
  | 47 => .array .int
  | 48 => .array .int
  | 49 => .array .int
  | 50 => .array .int
  | 51 => .array .int
  | 52 => .int
  | 53 => .boolean
  | 54 => .array .int
  | 55 => .array .int
  | 56 => .int
  | 57 => .array .int
  | 58 => .array .int
  | 59 => .array .int
  | _ => .array .int
abbrev wsX90 : List Cond := u_ws RX9 TX9 61
theorem nmX9 : ∀ a, a < 61 → ∀ b, b < 61 → a ≠ b → (TX9 a).2.1 ≠ (TX9 b).2.1 := by decide +kernel
theorem tyX9_ok : ∀ k, k < 61 → parseFieldDescriptor (TX9 k).2.2.1 = some (tyX9 k) := by decide +kernel
abbrev mj_cl : List vw_C := [(RX0, TX0, 10), (RX1, TX1, 6), (RX2, TX2, 2), (RX3, TX3, 18), (RX4, TX4, 10), (RX5, TX5, 8), (RX6, TX6, 1), (RX7, TX7, 3), (RX8, TX8, 11), (RX9, TX9, 61)]
/-- how many fields a class has -/
def mj_nf (ci : Nat) : Nat := [10, 6, 2, 18, 10, 8, 1, 3, 11, 61].getD ci 0
/-- kinds of fields: 0 int, 1 boolean, 2 reference -/
def mj_kinds : List (List Nat) := [[2, 2, 2, 2, 2, 2, 2, 2, 2, 0], [2, 2, 2, 2, 0, 0], [2, 0], [0, 0, 0, 0, 0, 1, 2, 2, 2, 2, 2, 2, 2, 2, 2, 2, 2, 2], [2, 0, 2, 0, 0, 0, 0, 0, 0, 0], [2, 2, 2, 2, 1, 1, 1, 1], [2], [2, 0, 1], [2, 2, 2, 2, 2, 2, 2, 2, 2, 2, 2], [0, 0, 0, 0, 0, 0, 2, 2, 2, 2, 2, 2, 2, 2, 2, 2, 2, 2, 0, 2, 2, 2, 2, 0, 2, 0, 0, 0, 0, 0, 0, 0, 0, 1, 2, 2, 0, 0, 0, 0, 1, 0, 2, 2, 2, 2, 2, 2, 2, 2, 2, 2, 0, 1, 2, 2, 0, 2, 2, 2, 2]]
def mj_kind (ci k : Nat) : Nat := (mj_kinds.getD ci []).getD k 3
abbrev mj_Row : Type := MethodName × ByteArray × Nat × Option FieldType × Nat × Nat × Nat
/-- a method: name, bytes, locals, what it returns, arguments (with the receiver), level, number of its pool -/
def mj_tab : List mj_Row := [
  (⟨"ClockZones$Plan", "<init>", "()V"⟩, prog_5_method_1_code, 1, none, 1, 0, 3),
  (⟨"ClockZones$Reader", "<init>", "()V"⟩, prog_6_method_1_code, 1, none, 1, 1, 4),
  (⟨"java/util/Arrays", "fill", "([II)V"⟩, prog_20_method_103_code, 4, none, 2, 0, 12),
  (⟨"ClockZones$Zone", "<init>", "()V"⟩, prog_9_method_1_code, 1, none, 1, 1, 7),
  (⟨"ClockZones$Graph", "<init>", "()V"⟩, prog_2_method_1_code, 2, none, 1, 2, 0),
  (⟨"ClockZones$Path", "<init>", "()V"⟩, prog_4_method_1_code, 1, none, 1, 0, 2),
  (⟨"ClockZones$Times", "<init>", "()V"⟩, prog_7_method_1_code, 1, none, 1, 0, 5),
  (⟨"ClockZones$Walk", "<init>", "()V"⟩, prog_8_method_1_code, 1, none, 1, 2, 6),
  (⟨"ClockZones$History", "<init>", "()V"⟩, prog_3_method_1_code, 2, none, 1, 2, 1),
  (⟨"ClockZones", "<init>", "()V"⟩, prog_1_method_1_code, 2, none, 1, 3, 8),
  (⟨"ClockZonesModel", "put", "(III)V"⟩, prog_11_method_31_code, 4, none, 4, 0, 9),
  (⟨"ClockZonesModel", "nought", "()V"⟩, prog_11_method_35_code, 3, none, 1, 1, 9),
  (⟨"ClockZonesModel", "get", "(II)I"⟩, prog_11_method_30_code, 3, some (FieldType.int), 3, 0, 9),
  (⟨"ClockZonesModel", "stores", "(I)V"⟩, prog_11_method_46_code, 4, none, 2, 1, 9),
  (⟨"ClockZonesModel", "laysAll", "()V"⟩, prog_11_method_4_code, 2, none, 1, 2, 9),
  (⟨"ClockZonesModel", "<init>", "()V"⟩, prog_11_method_3_code, 1, none, 1, 3, 9),
  (⟨"ClockZones$Reader", "putBytes", "(I)V"⟩, prog_6_method_2_code, 3, none, 2, 0, 4),
  (⟨"ClockZones", "feed", "(IIIII)I"⟩, prog_1_method_2_code, 6, some (FieldType.int), 6, 1, 8),
  (⟨"ClockZonesModel", "four", "(I)V"⟩, prog_11_method_5_code, 3, none, 2, 0, 9),
  (⟨"ClockZonesModel", "feed", "(IIIII)I"⟩, prog_11_method_6_code, 6, some (FieldType.int), 6, 1, 9),
  (⟨"ClockZones$Plan", "clear", "()V"⟩, prog_5_method_2_code, 1, none, 1, 1, 3),
  (⟨"ClockZones$Reader", "readWord", "()V"⟩, prog_6_method_17_code, 1, none, 1, 0, 4),
  (⟨"ClockZones$Reader", "readDigits", "()V"⟩, prog_6_method_18_code, 1, none, 1, 0, 4),
  (⟨"ClockZones$Reader", "readSign", "()V"⟩, prog_6_method_19_code, 3, none, 1, 0, 4),
  (⟨"ClockZones$Reader", "advance", "()V"⟩, prog_6_method_16_code, 1, none, 1, 1, 4),
  (⟨"ClockZones$Reader", "fail", "(I)Z"⟩, prog_6_method_4_code, 2, some (FieldType.boolean), 2, 0, 4),
  (⟨"ClockZones$Plan", "indexIn", "([III)I"⟩, prog_5_method_5_code, 4, some (FieldType.int), 3, 0, 3),
  (⟨"ClockZones$Plan", "clockNamed", "(I)I"⟩, prog_5_method_3_code, 2, some (FieldType.int), 2, 1, 3),
  (⟨"ClockZones$Reader", "readClock", "()Z"⟩, prog_6_method_7_code, 1, some (FieldType.boolean), 1, 2, 4),
  (⟨"ClockZones$Reader", "endLine", "()Z"⟩, prog_6_method_6_code, 1, some (FieldType.boolean), 1, 2, 4),
  (⟨"ClockZones$Plan", "placeNamed", "(I)I"⟩, prog_5_method_4_code, 2, some (FieldType.int), 2, 1, 3),
  (⟨"ClockZones", "stayRules", "(I)I"⟩, prog_1_method_78_code, 1, some (FieldType.int), 1, 0, 8),
  (⟨"ClockZones$Reader", "clockHere", "()I"⟩, prog_6_method_13_code, 1, some (FieldType.int), 1, 2, 4),
  (⟨"ClockZones$Reader", "numberHere", "()Z"⟩, prog_6_method_15_code, 1, some (FieldType.boolean), 1, 1, 4),
  (⟨"ClockZones$Plan", "addRule", "(IIII)V"⟩, prog_5_method_6_code, 6, none, 5, 0, 3),
  (⟨"ClockZones$Reader", "readWhens", "(I)Z"⟩, prog_6_method_11_code, 5, some (FieldType.boolean), 2, 3, 4),
  (⟨"ClockZones$Reader", "readPlace", "()Z"⟩, prog_6_method_8_code, 2, some (FieldType.boolean), 1, 4, 4),
  (⟨"ClockZones$Reader", "placeHere", "()I"⟩, prog_6_method_14_code, 1, some (FieldType.int), 1, 2, 4),
  (⟨"ClockZones", "edgeRules", "(I)I"⟩, prog_1_method_79_code, 1, some (FieldType.int), 1, 0, 8),
  (⟨"ClockZones$Plan", "numberSet", "(II)I"⟩, prog_5_method_8_code, 4, some (FieldType.int), 3, 0, 3),
  (⟨"ClockZones$Plan", "addSet", "(III)V"⟩, prog_5_method_7_code, 5, none, 4, 0, 3),
  (⟨"ClockZones$Reader", "readSets", "(I)Z"⟩, prog_6_method_12_code, 4, some (FieldType.boolean), 2, 3, 4),
  (⟨"ClockZones$Reader", "readEdge", "()Z"⟩, prog_6_method_9_code, 4, some (FieldType.boolean), 1, 4, 4),
  (⟨"ClockZones$Reader", "readStart", "()Z"⟩, prog_6_method_10_code, 2, some (FieldType.boolean), 1, 3, 4),
  (⟨"ClockZones$Reader", "readLine", "()Z"⟩, prog_6_method_5_code, 1, some (FieldType.boolean), 1, 5, 4),
  (⟨"ClockZones$Reader", "readText", "(I)Z"⟩, prog_6_method_3_code, 3, some (FieldType.boolean), 2, 6, 4),
  (⟨"ClockZones$Zone", "layZero", "(I)V"⟩, prog_9_method_5_code, 2, none, 2, 1, 7),
  (⟨"ClockZones$History", "forgetAll", "()V"⟩, prog_3_method_2_code, 1, none, 1, 0, 1),
  (⟨"ClockZones", "beginAnew", "()V"⟩, prog_1_method_57_code, 2, none, 1, 2, 8),
  (⟨"ClockZones", "lessThan", "(I)I"⟩, prog_1_method_71_code, 1, some (FieldType.int), 1, 0, 8),
  (⟨"ClockZones", "atMost", "(I)I"⟩, prog_1_method_70_code, 1, some (FieldType.int), 1, 0, 8),
  (⟨"ClockZones", "upperOf", "(II)I"⟩, prog_1_method_75_code, 2, some (FieldType.int), 2, 1, 8),
  (⟨"ClockZones$Zone", "cell", "(II)I"⟩, prog_9_method_2_code, 3, some (FieldType.int), 3, 0, 7),
  (⟨"ClockZones", "sumOf", "(II)I"⟩, prog_1_method_74_code, 2, some (FieldType.int), 2, 0, 8),
  (⟨"ClockZones$Zone", "put", "(III)V"⟩, prog_9_method_3_code, 4, none, 4, 0, 7),
  (⟨"ClockZones$Zone", "tighten", "(III)V"⟩, prog_9_method_11_code, 7, none, 4, 1, 7),
  (⟨"ClockZones", "lowerOf", "(II)I"⟩, prog_1_method_76_code, 2, some (FieldType.int), 2, 1, 8),
  (⟨"ClockZones$Zone", "keepRules", "(LClockZones$Plan;I)V"⟩, prog_9_method_12_code, 6, none, 3, 2, 7),
  (⟨"ClockZones$Zone", "goUp", "()V"⟩, prog_9_method_14_code, 2, none, 1, 1, 7),
  (⟨"ClockZones$Zone", "waitIn", "(LClockZones$Plan;I)V"⟩, prog_9_method_18_code, 3, none, 3, 3, 7),
  (⟨"ClockZones$Zone", "greatOf", "(LClockZones$Plan;I)I"⟩, prog_9_method_25_code, 2, some (FieldType.int), 2, 0, 7),
  (⟨"ClockZones", "numberOf", "(I)I"⟩, prog_1_method_72_code, 1, some (FieldType.int), 1, 0, 8),
  (⟨"ClockZones$Zone", "roughBound", "(III)I"⟩, prog_9_method_26_code, 3, some (FieldType.int), 3, 1, 7),
  (⟨"ClockZones", "closeCells", "([III)Z"⟩, prog_1_method_80_code, 8, some (FieldType.boolean), 3, 1, 8),
  (⟨"ClockZones$Zone", "close", "()V"⟩, prog_9_method_28_code, 1, none, 1, 2, 7),
  (⟨"ClockZones$Zone", "roughen", "(LClockZones$Plan;)V"⟩, prog_9_method_24_code, 4, none, 2, 3, 7),
  (⟨"ClockZones$Zone", "become", "(LClockZones$Zone;)V"⟩, prog_9_method_8_code, 2, none, 2, 0, 7),
  (⟨"ClockZones$Graph", "append", "(IIII)V"⟩, prog_2_method_5_code, 5, none, 5, 1, 0),
  (⟨"ClockZones$Zone", "assign", "(II)V"⟩, prog_9_method_16_code, 4, none, 3, 1, 7),
  (⟨"ClockZones$Zone", "applySets", "(LClockZones$Plan;I)V"⟩, prog_9_method_13_code, 5, none, 3, 2, 7),
  (⟨"ClockZones$Zone", "stepBy", "(LClockZones$Plan;I)V"⟩, prog_9_method_19_code, 4, none, 3, 3, 7),
  (⟨"ClockZones$Zone", "covers", "(LClockZones$Zone;)Z"⟩, prog_9_method_23_code, 4, some (FieldType.boolean), 2, 1, 7),
  (⟨"ClockZones$Graph", "isCovered", "(I)Z"⟩, prog_2_method_4_code, 3, some (FieldType.boolean), 2, 2, 0),
  (⟨"ClockZones$Graph", "grow", "(LClockZones$Plan;II)V"⟩, prog_2_method_3_code, 4, none, 4, 4, 0),
  (⟨"ClockZones$Graph", "build", "(LClockZones$Plan;)V"⟩, prog_2_method_2_code, 4, none, 2, 5, 0),
  (⟨"ClockZones", "text", "(I)I"⟩, prog_1_method_3_code, 3, some (FieldType.int), 2, 7, 8),
  (⟨"ClockZonesModel", "isIn", "(III)Z"⟩, prog_11_method_2_code, 3, some (FieldType.boolean), 3, 0, 9),
  (⟨"ClockZonesModel", "see", "()I"⟩, prog_11_method_7_code, 1, some (FieldType.int), 1, 0, 9),
  (⟨"ClockZonesModel", "advance", "()V"⟩, prog_11_method_8_code, 3, none, 1, 1, 9),
  (⟨"ClockZonesModel", "isWord", "(I)Z"⟩, prog_11_method_10_code, 2, some (FieldType.boolean), 2, 0, 9),
  (⟨"ClockZonesModel", "must", "(ZI)V"⟩, prog_11_method_9_code, 3, none, 3, 0, 9),
  (⟨"ClockZonesModel", "opens", "(ZI)V"⟩, prog_11_method_14_code, 3, none, 3, 2, 9),
  (⟨"ClockZonesModel", "isName", "()Z"⟩, prog_11_method_11_code, 1, some (FieldType.boolean), 1, 0, 9),
  (⟨"ClockZonesModel", "at", "([III)I"⟩, prog_11_method_13_code, 4, some (FieldType.int), 3, 0, 9),
  (⟨"ClockZonesModel", "freshHere", "([II)I"⟩, prog_11_method_15_code, 4, some (FieldType.int), 3, 2, 9),
  (⟨"ClockZonesModel", "seenHere", "([II)I"⟩, prog_11_method_16_code, 3, some (FieldType.int), 3, 1, 9),
  (⟨"ClockZonesModel", "numberHere", "()I"⟩, prog_11_method_12_code, 2, some (FieldType.int), 1, 2, 9),
  (⟨"ClockZonesModel", "whensHere", "(I)V"⟩, prog_11_method_18_code, 6, none, 2, 3, 9),
  (⟨"ClockZonesModel", "placeHere", "()I"⟩, prog_11_method_17_code, 2, some (FieldType.int), 1, 2, 9),
  (⟨"ClockZonesModel", "setsHere", "(I)V"⟩, prog_11_method_19_code, 5, none, 2, 3, 9),
  (⟨"ClockZonesModel", "lineHere", "()V"⟩, prog_11_method_20_code, 3, none, 1, 4, 9),
  (⟨"ClockZonesModel", "copies", "([I[II)V"⟩, prog_11_method_22_code, 4, none, 3, 0, 9),
  (⟨"ClockZonesModel", "grows", "(II)V"⟩, prog_11_method_25_code, 3, none, 3, 0, 9),
  (⟨"ClockZonesModel", "greatens", "(I)V"⟩, prog_11_method_24_code, 3, none, 2, 1, 9),
  (⟨"ClockZonesModel", "reached", "(I)I"⟩, prog_11_method_27_code, 1, some (FieldType.int), 1, 0, 9),
  (⟨"ClockZonesModel", "tightens", "(III)V"⟩, prog_11_method_32_code, 4, none, 4, 1, 9),
  (⟨"ClockZonesModel", "meets", "(IIII)V"⟩, prog_11_method_36_code, 5, none, 5, 2, 9),
  (⟨"ClockZonesModel", "plus", "(II)I"⟩, prog_11_method_28_code, 2, some (FieldType.int), 2, 0, 9),
  (⟨"ClockZonesModel", "closes", "()V"⟩, prog_11_method_33_code, 4, none, 1, 2, 9),
  (⟨"ClockZonesModel", "whens", "(I)V"⟩, prog_11_method_37_code, 3, none, 2, 3, 9),
  (⟨"ClockZonesModel", "ups", "()V"⟩, prog_11_method_38_code, 2, none, 1, 1, 9),
  (⟨"ClockZonesModel", "stays", "(I)V"⟩, prog_11_method_42_code, 2, none, 2, 4, 9),
  (⟨"ClockZonesModel", "numberOf", "(I)I"⟩, prog_11_method_29_code, 1, some (FieldType.int), 1, 0, 9),
  (⟨"ClockZonesModel", "roughens", "()V"⟩, prog_11_method_45_code, 4, none, 1, 3, 9),
  (⟨"ClockZonesModel", "adds", "(III)V"⟩, prog_11_method_94_code, 6, none, 4, 1, 9),
  (⟨"ClockZonesModel", "loadsNode", "(I)V"⟩, prog_11_method_48_code, 4, none, 2, 1, 9),
  (⟨"ClockZonesModel", "sets", "(II)V"⟩, prog_11_method_40_code, 4, none, 3, 1, 9),
  (⟨"ClockZonesModel", "steps", "(I)V"⟩, prog_11_method_43_code, 3, none, 2, 5, 9),
  (⟨"ClockZonesModel", "isInside", "([II)Z"⟩, prog_11_method_80_code, 5, some (FieldType.boolean), 3, 1, 9),
  (⟨"ClockZonesModel", "isKnown", "(I)Z"⟩, prog_11_method_93_code, 3, some (FieldType.boolean), 2, 2, 9),
  (⟨"ClockZonesModel", "explores", "()V"⟩, prog_11_method_95_code, 3, none, 1, 6, 9),
  (⟨"ClockZonesModel", "becomes", "()V"⟩, prog_11_method_23_code, 2, none, 1, 7, 9),
  (⟨"ClockZonesModel", "text", "(I)I"⟩, prog_11_method_21_code, 2, some (FieldType.int), 2, 8, 9),
  (⟨"ClockZones", "fault", "(I)I"⟩, prog_1_method_4_code, 2, some (FieldType.int), 2, 0, 8),
  (⟨"ClockZonesModel", "fault", "(I)I"⟩, prog_11_method_26_code, 2, some (FieldType.int), 2, 0, 9),
  (⟨"ClockZones", "isPlace", "(I)Z"⟩, prog_1_method_60_code, 2, some (FieldType.boolean), 2, 0, 8),
  (⟨"ClockZones$Plan", "edgesFrom", "(I)I"⟩, prog_5_method_9_code, 4, some (FieldType.int), 2, 0, 3),
  (⟨"ClockZones$Plan", "edgesTo", "(I)I"⟩, prog_5_method_10_code, 4, some (FieldType.int), 2, 0, 3),
  (⟨"ClockZones$Graph", "nodesOf", "(I)I"⟩, prog_2_method_6_code, 4, some (FieldType.int), 2, 0, 0),
  (⟨"ClockZones", "place", "(II)I"⟩, prog_1_method_5_code, 3, some (FieldType.int), 3, 1, 8),
  (⟨"ClockZonesModel", "isPlace", "(I)Z"⟩, prog_11_method_51_code, 2, some (FieldType.boolean), 2, 1, 9),
  (⟨"ClockZonesModel", "firstNode", "(I)I"⟩, prog_11_method_100_code, 3, some (FieldType.int), 2, 0, 9),
  (⟨"ClockZonesModel", "place", "(II)I"⟩, prog_11_method_109_code, 5, some (FieldType.int), 3, 2, 9),
  (⟨"ClockZonesModel", "thrown", "()I"⟩, prog_11_method_1_code, 1, some (FieldType.int), 1, 0, 9),
  (⟨"ClockZones", "isEdge", "(I)Z"⟩, prog_1_method_61_code, 2, some (FieldType.boolean), 2, 0, 8),
  (⟨"ClockZones$Graph", "hasNodeBy", "(I)Z"⟩, prog_2_method_7_code, 3, some (FieldType.boolean), 2, 0, 0),
  (⟨"ClockZones", "edge", "(II)I"⟩, prog_1_method_6_code, 3, some (FieldType.int), 3, 1, 8),
  (⟨"ClockZonesModel", "isEdge", "(I)Z"⟩, prog_11_method_52_code, 2, some (FieldType.boolean), 2, 1, 9),
  (⟨"ClockZonesModel", "edge", "(II)I"⟩, prog_11_method_110_code, 4, some (FieldType.int), 3, 2, 9),
  (⟨"ClockZones", "when", "(III)I"⟩, prog_1_method_7_code, 6, some (FieldType.int), 4, 1, 8),
  (⟨"ClockZonesModel", "when", "(III)I"⟩, prog_11_method_111_code, 5, some (FieldType.int), 4, 2, 9),
  (⟨"ClockZones", "set", "(III)I"⟩, prog_1_method_8_code, 5, some (FieldType.int), 4, 1, 8),
  (⟨"ClockZonesModel", "isTwo", "(I)Z"⟩, prog_11_method_54_code, 1, some (FieldType.boolean), 1, 1, 9),
  (⟨"ClockZonesModel", "set", "(III)I"⟩, prog_11_method_112_code, 4, some (FieldType.int), 4, 2, 9),
  (⟨"ClockZones", "isClock", "(I)Z"⟩, prog_1_method_59_code, 2, some (FieldType.boolean), 2, 0, 8),
  (⟨"ClockZones", "great", "(I)I"⟩, prog_1_method_9_code, 2, some (FieldType.int), 2, 1, 8),
  (⟨"ClockZonesModel", "isClock", "(I)Z"⟩, prog_11_method_50_code, 2, some (FieldType.boolean), 2, 1, 9),
  (⟨"ClockZonesModel", "great", "(I)I"⟩, prog_11_method_116_code, 2, some (FieldType.int), 2, 2, 9),
  (⟨"ClockZones", "isTable", "(I)Z"⟩, prog_1_method_58_code, 1, some (FieldType.boolean), 1, 0, 8),
  (⟨"ClockZones$Zone", "release", "(I)V"⟩, prog_9_method_17_code, 3, none, 2, 1, 7),
  (⟨"ClockZones$Zone", "layAll", "(I)V"⟩, prog_9_method_6_code, 3, none, 2, 2, 7),
  (⟨"ClockZones$Zone", "layNothing", "(I)V"⟩, prog_9_method_7_code, 2, none, 2, 2, 7),
  (⟨"ClockZones$Zone", "goesBeyond", "(I)Z"⟩, prog_9_method_29_code, 5, some (FieldType.boolean), 2, 1, 7),
  (⟨"ClockZones$History", "goOn", "()V"⟩, prog_3_method_5_code, 1, none, 1, 0, 1),
  (⟨"ClockZones$History", "keepTable", "(ILClockZones$Zone;)V"⟩, prog_3_method_3_code, 3, none, 3, 1, 1),
  (⟨"ClockZones", "settle", "(I)I"⟩, prog_1_method_64_code, 2, some (FieldType.int), 2, 2, 8),
  (⟨"ClockZones", "lay", "(II)Z"⟩, prog_1_method_10_code, 4, some (FieldType.boolean), 3, 3, 8),
  (⟨"ClockZonesModel", "isTable", "(I)Z"⟩, prog_11_method_49_code, 1, some (FieldType.boolean), 1, 1, 9),
  (⟨"ClockZonesModel", "wide", "()V"⟩, prog_11_method_34_code, 3, none, 1, 1, 9),
  (⟨"ClockZonesModel", "isFar", "()Z"⟩, prog_11_method_57_code, 3, some (FieldType.boolean), 1, 1, 9),
  (⟨"ClockZonesModel", "keeps", "()V"⟩, prog_11_method_55_code, 2, none, 1, 0, 9),
  (⟨"ClockZonesModel", "becomesTable", "(I)I"⟩, prog_11_method_58_code, 2, some (FieldType.int), 2, 2, 9),
  (⟨"ClockZonesModel", "lay", "(II)Z"⟩, prog_11_method_59_code, 3, some (FieldType.boolean), 3, 3, 9),
  (⟨"ClockZones", "isPair", "(II)Z"⟩, prog_1_method_63_code, 3, some (FieldType.boolean), 3, 1, 8),
  (⟨"ClockZones$Zone", "relate", "(IIII)V"⟩, prog_9_method_10_code, 5, none, 5, 2, 7),
  (⟨"ClockZones", "meet", "(IIIII)I"⟩, prog_1_method_11_code, 6, some (FieldType.int), 6, 3, 8),
  (⟨"ClockZonesModel", "arePair", "(II)Z"⟩, prog_11_method_53_code, 3, some (FieldType.boolean), 3, 1, 9),
  (⟨"ClockZonesModel", "loads", "(I)V"⟩, prog_11_method_47_code, 4, none, 2, 1, 9),
  (⟨"ClockZonesModel", "meet", "(IIIII)I"⟩, prog_11_method_60_code, 6, some (FieldType.int), 6, 3, 9),
  (⟨"ClockZones$Zone", "goDown", "()V"⟩, prog_9_method_15_code, 4, none, 1, 1, 7),
  (⟨"ClockZones", "pass", "(II)I"⟩, prog_1_method_12_code, 3, some (FieldType.int), 3, 3, 8),
  (⟨"ClockZonesModel", "downs", "()V"⟩, prog_11_method_39_code, 2, none, 1, 3, 9),
  (⟨"ClockZonesModel", "pass", "(II)I"⟩, prog_11_method_61_code, 3, some (FieldType.int), 3, 4, 9),
  (⟨"ClockZones", "reset", "(III)I"⟩, prog_1_method_13_code, 4, some (FieldType.int), 4, 3, 8),
  (⟨"ClockZonesModel", "reset", "(III)I"⟩, prog_11_method_62_code, 4, some (FieldType.int), 4, 3, 9),
  (⟨"ClockZones", "free", "(II)I"⟩, prog_1_method_14_code, 3, some (FieldType.int), 3, 3, 8),
  (⟨"ClockZonesModel", "frees", "(I)V"⟩, prog_11_method_41_code, 3, none, 2, 1, 9),
  (⟨"ClockZonesModel", "free", "(II)I"⟩, prog_11_method_63_code, 3, some (FieldType.int), 3, 3, 9),
  (⟨"ClockZones", "copy", "(II)I"⟩, prog_1_method_15_code, 3, some (FieldType.int), 3, 3, 8),
  (⟨"ClockZonesModel", "copy", "(II)I"⟩, prog_11_method_64_code, 3, some (FieldType.int), 3, 3, 9),
  (⟨"ClockZones$Zone", "widenTo", "(LClockZones$Zone;)V"⟩, prog_9_method_21_code, 3, none, 2, 1, 7),
  (⟨"ClockZones", "join", "(II)I"⟩, prog_1_method_16_code, 3, some (FieldType.int), 3, 3, 8),
  (⟨"ClockZonesModel", "other", "(III)I"⟩, prog_11_method_65_code, 4, some (FieldType.int), 4, 0, 9),
  (⟨"ClockZonesModel", "join", "(II)I"⟩, prog_11_method_66_code, 5, some (FieldType.int), 3, 3, 9),
  (⟨"ClockZones$Zone", "narrowTo", "(LClockZones$Zone;)V"⟩, prog_9_method_22_code, 3, none, 2, 3, 7),
  (⟨"ClockZones", "both", "(II)I"⟩, prog_1_method_17_code, 3, some (FieldType.int), 3, 4, 8),
  (⟨"ClockZonesModel", "meetsTable", "(II)V"⟩, prog_11_method_67_code, 5, none, 3, 3, 9),
  (⟨"ClockZonesModel", "both", "(II)I"⟩, prog_11_method_68_code, 3, some (FieldType.int), 3, 4, 9),
  (⟨"ClockZones", "step", "(II)I"⟩, prog_1_method_18_code, 3, some (FieldType.int), 3, 4, 8),
  (⟨"ClockZonesModel", "step", "(II)I"⟩, prog_11_method_70_code, 3, some (FieldType.int), 3, 6, 9),
  (⟨"ClockZones", "stay", "(II)I"⟩, prog_1_method_19_code, 3, some (FieldType.int), 3, 4, 8),
  (⟨"ClockZonesModel", "stay", "(II)I"⟩, prog_11_method_72_code, 3, some (FieldType.int), 3, 5, 9),
  (⟨"ClockZones", "rough", "(I)I"⟩, prog_1_method_20_code, 2, some (FieldType.int), 2, 4, 8),
  (⟨"ClockZonesModel", "rough", "(I)I"⟩, prog_11_method_73_code, 2, some (FieldType.int), 2, 4, 9),
  (⟨"ClockZones", "isNode", "(I)Z"⟩, prog_1_method_62_code, 2, some (FieldType.boolean), 2, 0, 8),
  (⟨"ClockZones", "take", "(II)I"⟩, prog_1_method_21_code, 3, some (FieldType.int), 3, 3, 8),
  (⟨"ClockZonesModel", "take", "(II)I"⟩, prog_11_method_74_code, 3, some (FieldType.int), 3, 3, 9),
  (⟨"ClockZones$History", "dropLatest", "()I"⟩, prog_3_method_6_code, 1, some (FieldType.int), 1, 0, 1),
  (⟨"ClockZones$History", "restorePath", "(ILClockZones$Path;)V"⟩, prog_3_method_7_code, 3, none, 3, 0, 1),
  (⟨"ClockZones", "undo", "()I"⟩, prog_1_method_23_code, 3, some (FieldType.int), 1, 1, 8),
  (⟨"ClockZonesModel", "undo", "()I"⟩, prog_11_method_56_code, 2, some (FieldType.int), 1, 0, 9),
  (⟨"ClockZones", "reachedOf", "(I)I"⟩, prog_1_method_73_code, 1, some (FieldType.int), 1, 0, 8),
  (⟨"ClockZones", "tellBound", "(II)I"⟩, prog_1_method_68_code, 2, some (FieldType.int), 2, 1, 8),
  (⟨"ClockZones", "boundOf", "(LClockZones$Zone;III)I"⟩, prog_1_method_67_code, 5, some (FieldType.int), 5, 2, 8),
  (⟨"ClockZones", "bound", "(IIII)I"⟩, prog_1_method_24_code, 5, some (FieldType.int), 5, 3, 8),
  (⟨"ClockZonesModel", "told", "(II)I"⟩, prog_11_method_75_code, 3, some (FieldType.int), 3, 1, 9),
  (⟨"ClockZonesModel", "bound", "(IIII)I"⟩, prog_11_method_76_code, 5, some (FieldType.int), 5, 2, 9),
  (⟨"ClockZones", "empty", "(I)I"⟩, prog_1_method_25_code, 2, some (FieldType.int), 2, 1, 8),
  (⟨"ClockZonesModel", "empty", "(I)I"⟩, prog_11_method_78_code, 2, some (FieldType.int), 2, 2, 9),
  (⟨"ClockZones", "within", "(II)I"⟩, prog_1_method_26_code, 3, some (FieldType.int), 3, 2, 8),
  (⟨"ClockZonesModel", "within", "(II)I"⟩, prog_11_method_79_code, 3, some (FieldType.int), 3, 2, 9),
  (⟨"ClockZones$Zone", "holdsHalves", "([I)Z"⟩, prog_9_method_30_code, 4, some (FieldType.boolean), 2, 1, 7),
  (⟨"ClockZones", "has", "(IIIII)I"⟩, prog_1_method_27_code, 6, some (FieldType.int), 6, 2, 8),
  (⟨"ClockZonesModel", "hasTimes", "(I)Z"⟩, prog_11_method_81_code, 7, some (FieldType.boolean), 2, 1, 9),
  (⟨"ClockZonesModel", "has", "(IIIII)I"⟩, prog_11_method_82_code, 6, some (FieldType.int), 6, 2, 9),
  (⟨"ClockZones$Zone", "followsFromOthers", "(II)Z"⟩, prog_9_method_32_code, 4, some (FieldType.boolean), 3, 1, 7),
  (⟨"ClockZones$Zone", "countsAsPair", "(III)Z"⟩, prog_9_method_31_code, 5, some (FieldType.boolean), 4, 2, 7),
  (⟨"ClockZones", "pairs", "(II)I"⟩, prog_1_method_28_code, 7, some (FieldType.int), 3, 3, 8),
  (⟨"ClockZonesModel", "follows", "(II)Z"⟩, prog_11_method_83_code, 4, some (FieldType.boolean), 3, 1, 9),
  (⟨"ClockZonesModel", "pairs", "(II)I"⟩, prog_11_method_84_code, 6, some (FieldType.int), 3, 2, 9),
  (⟨"ClockZones", "wholeBound", "(I)I"⟩, prog_1_method_77_code, 1, some (FieldType.int), 1, 1, 8),
  (⟨"ClockZones$Zone", "keepWhole", "()V"⟩, prog_9_method_27_code, 2, none, 1, 3, 7),
  (⟨"ClockZones", "pointsFrom", "(LClockZones$Zone;[II)I"⟩, prog_1_method_69_code, 7, some (FieldType.int), 3, 1, 20),
  (⟨"ClockZones", "pointsFrom", "(LClockZones$Zone;[II)I"⟩, prog_1_method_69_code, 7, some (FieldType.int), 3, 2, 21),
  (⟨"ClockZones", "pointsFrom", "(LClockZones$Zone;[II)I"⟩, prog_1_method_69_code, 7, some (FieldType.int), 3, 3, 22),
  (⟨"ClockZones", "pointsFrom", "(LClockZones$Zone;[II)I"⟩, prog_1_method_69_code, 7, some (FieldType.int), 3, 4, 23),
  (⟨"ClockZones", "pointsFrom", "(LClockZones$Zone;[II)I"⟩, prog_1_method_69_code, 7, some (FieldType.int), 3, 5, 24),
  (⟨"ClockZones", "pointsFrom", "(LClockZones$Zone;[II)I"⟩, prog_1_method_69_code, 7, some (FieldType.int), 3, 6, 25),
  (⟨"ClockZones", "whole", "(II)I"⟩, prog_1_method_29_code, 4, some (FieldType.int), 3, 7, 8),
  (⟨"ClockZonesModel", "whole", "(II)I"⟩, prog_11_method_86_code, 8, some (FieldType.int), 3, 2, 9),
  (⟨"ClockZones$Zone", "leastOf", "(I)I"⟩, prog_9_method_4_code, 2, some (FieldType.int), 2, 1, 7),
  (⟨"ClockZones", "first", "(II)I"⟩, prog_1_method_30_code, 4, some (FieldType.int), 3, 4, 8),
  (⟨"ClockZonesModel", "wholes", "()V"⟩, prog_11_method_87_code, 3, none, 1, 3, 9),
  (⟨"ClockZonesModel", "first", "(II)I"⟩, prog_11_method_88_code, 4, some (FieldType.int), 3, 4, 9),
  (⟨"ClockZones", "nodes", "()I"⟩, prog_1_method_36_code, 1, some (FieldType.int), 1, 0, 8),
  (⟨"ClockZonesModel", "nodes", "()I"⟩, prog_11_method_96_code, 1, some (FieldType.int), 1, 0, 9),
  (⟨"ClockZones", "node", "(II)I"⟩, prog_1_method_37_code, 3, some (FieldType.int), 3, 1, 8),
  (⟨"ClockZonesModel", "depth", "(I)I"⟩, prog_11_method_97_code, 4, some (FieldType.int), 2, 0, 9),
  (⟨"ClockZonesModel", "node", "(II)I"⟩, prog_11_method_98_code, 3, some (FieldType.int), 3, 1, 9),
  (⟨"ClockZones", "nodeBound", "(IIII)I"⟩, prog_1_method_38_code, 5, some (FieldType.int), 5, 3, 8),
  (⟨"ClockZonesModel", "nodeBound", "(IIII)I"⟩, prog_11_method_99_code, 5, some (FieldType.int), 5, 2, 9),
  (⟨"ClockZones$Graph", "findWay", "(I)I"⟩, prog_2_method_8_code, 5, some (FieldType.int), 2, 0, 0),
  (⟨"ClockZones", "way", "(II)I"⟩, prog_1_method_39_code, 4, some (FieldType.int), 3, 1, 8),
  (⟨"ClockZonesModel", "laysRoad", "(I)Z"⟩, prog_11_method_101_code, 5, some (FieldType.boolean), 2, 1, 9),
  (⟨"ClockZonesModel", "way", "(II)I"⟩, prog_11_method_102_code, 3, some (FieldType.int), 3, 2, 9),
  (⟨"ClockZones$Graph", "openEdges", "(LClockZones$Plan;I)I"⟩, prog_2_method_9_code, 5, some (FieldType.int), 3, 4, 0),
  (⟨"ClockZones", "open", "(I)I"⟩, prog_1_method_40_code, 2, some (FieldType.int), 2, 5, 8),
  (⟨"ClockZonesModel", "openOf", "(I)I"⟩, prog_11_method_104_code, 4, some (FieldType.int), 2, 6, 9),
  (⟨"ClockZonesModel", "open", "(I)I"⟩, prog_11_method_105_code, 2, some (FieldType.int), 2, 7, 9),
  (⟨"ClockZones", "stuck", "()I"⟩, prog_1_method_41_code, 2, some (FieldType.int), 1, 5, 8),
  (⟨"ClockZonesModel", "stuck", "()I"⟩, prog_11_method_106_code, 2, some (FieldType.int), 1, 7, 9),
  (⟨"ClockZones", "reached", "()I"⟩, prog_1_method_42_code, 3, some (FieldType.int), 1, 0, 8),
  (⟨"ClockZonesModel", "reached", "()I"⟩, prog_11_method_107_code, 3, some (FieldType.int), 1, 0, 9),
  (⟨"ClockZones$Path", "endIn", "(LClockZones$Plan;)I"⟩, prog_4_method_2_code, 2, some (FieldType.int), 2, 0, 2),
  (⟨"ClockZones$History", "keepPath", "(LClockZones$Path;)V"⟩, prog_3_method_4_code, 2, none, 2, 1, 1),
  (⟨"ClockZones", "changePath", "()V"⟩, prog_1_method_65_code, 1, none, 1, 2, 8),
  (⟨"ClockZones", "add", "(I)I"⟩, prog_1_method_47_code, 2, some (FieldType.int), 2, 3, 8),
  (⟨"ClockZonesModel", "traced", "()I"⟩, prog_11_method_120_code, 1, some (FieldType.int), 1, 0, 9),
  (⟨"ClockZonesModel", "add", "(I)I"⟩, prog_11_method_122_code, 3, some (FieldType.int), 2, 2, 9),
  (⟨"ClockZones", "lead", "(I)I"⟩, prog_1_method_48_code, 4, some (FieldType.int), 2, 3, 8),
  (⟨"ClockZonesModel", "lead", "(I)I"⟩, prog_11_method_123_code, 3, some (FieldType.int), 2, 2, 9),
  (⟨"ClockZones", "trace", "(I)I"⟩, prog_1_method_49_code, 2, some (FieldType.int), 2, 0, 8),
  (⟨"ClockZonesModel", "trace", "(I)I"⟩, prog_11_method_124_code, 2, some (FieldType.int), 2, 1, 9),
  (⟨"ClockZones$Times", "lower", "(III)V"⟩, prog_7_method_6_code, 5, none, 4, 0, 5),
  (⟨"ClockZones$Times", "keepRules", "(LClockZones$Plan;II)V"⟩, prog_7_method_5_code, 9, none, 4, 2, 5),
  (⟨"ClockZones$Times", "takeEdge", "(LClockZones$Plan;II)V"⟩, prog_7_method_4_code, 6, none, 4, 3, 5),
  (⟨"ClockZones$Times", "build", "(LClockZones$Plan;LClockZones$Path;)V"⟩, prog_7_method_2_code, 5, none, 3, 4, 5),
  (⟨"ClockZones", "timesOfPath", "()LClockZones$Times;"⟩, prog_1_method_66_code, 1, some ((FieldType.object "ClockZones$Times")), 1, 5, 8),
  (⟨"ClockZones", "can", "()I"⟩, prog_1_method_50_code, 1, some (FieldType.int), 1, 6, 8),
  (⟨"ClockZonesModel", "holds", "(III)Z"⟩, prog_11_method_117_code, 3, some (FieldType.boolean), 3, 0, 9),
  (⟨"ClockZonesModel", "holdsAt", "(II)V"⟩, prog_11_method_118_code, 5, none, 3, 3, 9),
  (⟨"ClockZonesModel", "laysTimes", "([III)V"⟩, prog_11_method_119_code, 9, none, 4, 4, 9),
  (⟨"ClockZonesModel", "laysTrace", "()V"⟩, prog_11_method_121_code, 1, none, 1, 5, 9),
  (⟨"ClockZonesModel", "can", "()I"⟩, prog_11_method_125_code, 1, some (FieldType.int), 1, 6, 9),
  (⟨"ClockZones$Times", "span", "(IIII)I"⟩, prog_7_method_7_code, 7, some (FieldType.int), 5, 1, 5),
  (⟨"ClockZones", "window", "(II)I"⟩, prog_1_method_51_code, 3, some (FieldType.int), 3, 6, 8),
  (⟨"ClockZonesModel", "spanOf", "(IIII)I"⟩, prog_11_method_126_code, 6, some (FieldType.int), 5, 1, 9),
  (⟨"ClockZonesModel", "window", "(II)I"⟩, prog_11_method_127_code, 3, some (FieldType.int), 3, 6, 9),
  (⟨"ClockZones", "between", "(III)I"⟩, prog_1_method_52_code, 4, some (FieldType.int), 4, 6, 8),
  (⟨"ClockZonesModel", "between", "(III)I"⟩, prog_11_method_128_code, 4, some (FieldType.int), 4, 6, 9),
  (⟨"ClockZones$Path", "setterAhead", "(LClockZones$Plan;II)I"⟩, prog_4_method_3_code, 5, some (FieldType.int), 4, 1, 2),
  (⟨"ClockZones", "value", "(III)I"⟩, prog_1_method_53_code, 6, some (FieldType.int), 4, 6, 8),
  (⟨"ClockZonesModel", "value", "(III)I"⟩, prog_11_method_129_code, 4, some (FieldType.int), 4, 6, 9),
  (⟨"ClockZones$Walk", "goAlong", "(LClockZones$Plan;I)V"⟩, prog_8_method_3_code, 3, none, 3, 3, 6),
  (⟨"ClockZones$Walk", "breakIn", "(LClockZones$Plan;[II)I"⟩, prog_8_method_2_code, 5, some (FieldType.int), 4, 4, 6),
  (⟨"ClockZones", "breaks", "()I"⟩, prog_1_method_54_code, 1, some (FieldType.int), 1, 5, 8),
  (⟨"ClockZonesModel", "breaks", "()I"⟩, prog_11_method_130_code, 2, some (FieldType.int), 1, 5, 9),
  (⟨"ClockZones", "width", "(IIII)I"⟩, prog_1_method_31_code, 6, some (FieldType.int), 5, 2, 8),
  (⟨"ClockZonesModel", "width", "(IIII)I"⟩, prog_11_method_77_code, 5, some (FieldType.int), 5, 2, 9),
  (⟨"ClockZones", "touch", "(II)I"⟩, prog_1_method_32_code, 3, some (FieldType.int), 3, 4, 8),
  (⟨"ClockZonesModel", "touch", "(II)I"⟩, prog_11_method_69_code, 3, some (FieldType.int), 3, 4, 9),
  (⟨"ClockZones$Zone", "stepBackBy", "(LClockZones$Plan;I)V"⟩, prog_9_method_20_code, 5, none, 3, 3, 7),
  (⟨"ClockZones", "back", "(II)I"⟩, prog_1_method_22_code, 3, some (FieldType.int), 3, 4, 8),
  (⟨"ClockZonesModel", "backs", "(I)V"⟩, prog_11_method_44_code, 3, none, 2, 4, 9),
  (⟨"ClockZonesModel", "back", "(II)I"⟩, prog_11_method_71_code, 3, some (FieldType.int), 3, 5, 9),
  (⟨"ClockZones$Zone", "becomeTimed", "(LClockZones$Zone;)V"⟩, prog_9_method_9_code, 3, none, 2, 2, 7),
  (⟨"ClockZones", "longest", "(III)I"⟩, prog_1_method_33_code, 4, some (FieldType.int), 4, 4, 8),
  (⟨"ClockZonesModel", "stretches", "()V"⟩, prog_11_method_89_code, 3, none, 1, 1, 9),
  (⟨"ClockZonesModel", "longest", "(III)I"⟩, prog_11_method_90_code, 4, some (FieldType.int), 4, 4, 9),
  (⟨"ClockZones", "soonest", "(III)I"⟩, prog_1_method_34_code, 5, some (FieldType.int), 4, 4, 8),
  (⟨"ClockZonesModel", "low", "(II)I"⟩, prog_11_method_92_code, 2, some (FieldType.int), 2, 1, 9),
  (⟨"ClockZonesModel", "soonest", "(III)I"⟩, prog_11_method_91_code, 4, some (FieldType.int), 4, 4, 9),
  (⟨"ClockZones$Plan", "placesBehind", "(I)I"⟩, prog_5_method_14_code, 5, some (FieldType.int), 2, 0, 3),
  (⟨"ClockZones", "leads", "(I)I"⟩, prog_1_method_43_code, 2, some (FieldType.int), 2, 1, 8),
  (⟨"ClockZonesModel", "leads", "(I)I"⟩, prog_11_method_108_code, 5, some (FieldType.int), 2, 2, 9),
  (⟨"ClockZones", "fastest", "(II)I"⟩, prog_1_method_44_code, 6, some (FieldType.int), 3, 5, 8),
  (⟨"ClockZonesModel", "fastest", "(II)I"⟩, prog_11_method_131_code, 3, some (FieldType.int), 3, 5, 9),
  (⟨"ClockZones$Times", "buildWhole", "(LClockZones$Path;)V"⟩, prog_7_method_3_code, 3, none, 2, 2, 5),
  (⟨"ClockZones$Times", "leastWhole", "(I)I"⟩, prog_7_method_8_code, 2, some (FieldType.int), 2, 1, 5),
  (⟨"ClockZones", "moment", "(I)I"⟩, prog_1_method_55_code, 2, some (FieldType.int), 2, 6, 8),
  (⟨"ClockZonesModel", "moment", "(I)I"⟩, prog_11_method_132_code, 2, some (FieldType.int), 2, 6, 9),
  (⟨"ClockZones", "deepest", "(I)I"⟩, prog_1_method_45_code, 6, some (FieldType.int), 2, 0, 8),
  (⟨"ClockZonesModel", "deepest", "(I)I"⟩, prog_11_method_103_code, 6, some (FieldType.int), 2, 2, 9),
  (⟨"ClockZones$Plan", "hasRuleOf", "(II)Z"⟩, prog_5_method_13_code, 4, some (FieldType.boolean), 3, 0, 3),
  (⟨"ClockZones$Plan", "listsWith", "(III)I"⟩, prog_5_method_12_code, 6, some (FieldType.int), 4, 1, 3),
  (⟨"ClockZones$Plan", "edgesThatSet", "(I)I"⟩, prog_5_method_11_code, 4, some (FieldType.int), 2, 1, 3),
  (⟨"ClockZones", "tells", "(II)I"⟩, prog_1_method_46_code, 3, some (FieldType.int), 3, 2, 8),
  (⟨"ClockZonesModel", "hasWhen", "(II)Z"⟩, prog_11_method_113_code, 4, some (FieldType.boolean), 3, 0, 9),
  (⟨"ClockZonesModel", "hasSet", "(II)Z"⟩, prog_11_method_114_code, 4, some (FieldType.boolean), 3, 0, 9),
  (⟨"ClockZonesModel", "tells", "(II)I"⟩, prog_11_method_115_code, 5, some (FieldType.int), 3, 2, 9),
  (⟨"ClockZones", "single", "(I)I"⟩, prog_1_method_35_code, 5, some (FieldType.int), 2, 1, 8),
  (⟨"ClockZonesModel", "single", "(I)I"⟩, prog_11_method_85_code, 4, some (FieldType.int), 2, 2, 9),
  (⟨"ClockZones", "count", "(I)I"⟩, prog_1_method_56_code, 2, some (FieldType.int), 2, 0, 8),
  (⟨"ClockZonesModel", "count", "(I)I"⟩, prog_11_method_133_code, 2, some (FieldType.int), 2, 1, 9),
  (⟨"ClockZonesLaw", "law", "([I)Z"⟩, code, 7, some (FieldType.boolean), 1, 11, 10)]
/-- methods that make cells, write references or throw -/
def mj_imps : List Nat := [0, 1, 3, 4, 5, 6, 7, 8, 9, 15, 75, 119, 126, 314]
def mj_ft_0 : List (Nat × Nat × Nat × Nat) := [(11, 0, 0, 382), (17, 0, 1, 384), (21, 0, 2, 386), (24, 0, 3, 388), (27, 0, 4, 390), (30, 0, 5, 392), (33, 0, 6, 393), (36, 0, 7, 395), (40, 0, 8, 397), (44, 0, 9, 398), (54, 3, 1, 205), (63, 3, 4, 218), (74, 7, 2, 364), (82, 3, 3, 212), (84, 3, 13, 248), (98, 3, 14, 255)]
def mj_ct_0 : List (Nat × Nat × Nat × Nat) := [(3, 6, 0, 378), (9, 9, 7, 379), (39, 5, 3, 380), (48, 2, 2, 381), (59, 1, 46, 693), (66, 1, 59, 694), (70, 1, 65, 737), (78, 0, 67, 759), (87, 0, 73, 770), (91, 1, 66, 763), (95, 1, 70, 774), (101, 0, 72, 788), (105, 1, 71, 792)]
def mj_kt_0 : List (Nat × Int32 × Nat) := []
def mj_ft_1 : List (Nat × Nat × Nat × Nat) := [(9, 1, 0, 496), (17, 1, 1, 498), (21, 1, 2, 500), (24, 1, 3, 501), (27, 1, 4, 502), (31, 1, 5, 503), (42, 2, 1, 433), (47, 2, 0, 429)]
def mj_ct_1 : List (Nat × Nat × Nat × Nat) := [(3, 6, 0, 493), (15, 9, 7, 494), (34, 5, 3, 495), (35, 1, 66, 856), (39, 0, 143, 857), (50, 7, 0, 964), (56, 13, 0, 861)]
def mj_kt_1 : List (Nat × Int32 × Nat) := []
def mj_ft_2 : List (Nat × Nat × Nat × Nat) := [(9, 2, 0, 427), (15, 2, 1, 431), (19, 3, 4, 215), (24, 3, 14, 254)]
def mj_ct_2 : List (Nat × Nat × Nat × Nat) := [(3, 6, 0, 426), (27, 1, 39, 1222)]
def mj_kt_2 : List (Nat × Int32 × Nat) := []
def mj_ft_3 : List (Nat × Nat × Nat × Nat) := [(9, 3, 6, 224), (15, 3, 7, 226), (18, 3, 8, 228), (21, 3, 9, 231), (24, 3, 10, 235), (27, 3, 11, 239), (30, 3, 12, 243), (33, 3, 13, 247), (36, 3, 14, 253), (39, 3, 15, 261), (42, 3, 16, 265), (45, 3, 17, 269), (48, 3, 0, 200), (52, 3, 1, 204), (55, 3, 2, 208), (58, 3, 3, 211), (61, 3, 4, 217), (64, 3, 5, 222)]
def mj_ct_3 : List (Nat × Nat × Nat × Nat) := [(3, 6, 0, 199), (68, 2, 2, 572), (74, 2, 26, 613), (78, 12, 0, 647), (84, 0, 39, 1143), (87, 0, 303, 1135)]
def mj_kt_3 : List (Nat × Int32 × Nat) := []
def mj_ft_4 : List (Nat × Nat × Nat × Nat) := [(9, 4, 0, 312), (15, 4, 1, 313), (22, 4, 2, 315), (26, 4, 3, 317), (29, 4, 4, 318), (32, 4, 5, 319), (35, 4, 6, 320), (38, 4, 7, 321), (41, 4, 8, 322), (44, 4, 9, 324), (63, 3, 0, 201), (66, 3, 2, 209), (88, 3, 1, 206), (95, 3, 6, 225), (102, 3, 7, 227), (111, 3, 3, 213), (118, 3, 13, 252), (121, 3, 14, 259), (130, 3, 5, 223), (134, 3, 4, 220)]
def mj_ct_4 : List (Nat × Nat × Nat × Nat) := [(3, 6, 0, 193), (19, 9, 3, 194), (21, 5, 0, 196), (47, 1, 20, 568), (50, 13, 0, 573), (56, 0, 24, 576), (59, 0, 44, 597), (69, 0, 25, 605), (73, 0, 28, 601), (76, 0, 29, 616), (79, 0, 36, 620), (82, 0, 42, 650), (85, 0, 43, 673), (91, 1, 27, 609), (99, 1, 30, 624), (105, 3, 31, 628), (108, 0, 35, 631), (114, 0, 37, 654), (124, 3, 38, 658), (127, 0, 41, 661), (137, 0, 32, 635), (140, 0, 33, 639), (143, 1, 34, 643), (147, 1, 39, 665), (150, 1, 40, 669), (154, 0, 21, 580), (157, 0, 22, 589), (160, 0, 23, 593)]
def mj_kt_4 : List (Nat × Int32 × Nat) := [(163, 3554411, 584), (164, 17171557, 585), (165, 168165, 586), (166, 20579924, 587), (167, 762030, 588)]
def mj_ft_5 : List (Nat × Nat × Nat × Nat) := [(9, 5, 0, 446), (15, 5, 1, 447), (18, 5, 2, 448), (21, 5, 3, 449), (24, 5, 4, 450), (28, 5, 5, 452), (31, 5, 6, 454), (34, 5, 7, 456), (37, 2, 1, 432), (54, 3, 4, 219), (67, 2, 0, 428), (80, 3, 13, 250), (86, 3, 15, 262), (89, 3, 16, 266), (92, 3, 17, 270), (93, 3, 14, 257), (96, 3, 9, 232), (99, 3, 10, 236), (102, 3, 11, 240), (105, 3, 12, 244)]
def mj_ct_5 : List (Nat × Nat × Nat × Nat) := [(3, 6, 0, 445), (44, 2, 2, 1181), (50, 0, 253, 1182), (59, 3, 31, 1187), (63, 0, 254, 1188), (70, 0, 255, 1194), (73, 3, 63, 1199), (77, 3, 210, 1236), (83, 3, 38, 1198), (108, 3, 51, 1192), (112, 3, 56, 1193), (115, 13, 0, 1186), (120, 3, 61, 1208), (123, 3, 191, 1209)]
def mj_kt_5 : List (Nat × Int32 × Nat) := [(43, 268435456, 1180)]
def mj_ft_6 : List (Nat × Nat × Nat × Nat) := [(10, 6, 0, 483), (16, 3, 1, 203), (26, 3, 4, 216), (39, 7, 2, 363), (49, 3, 13, 249), (59, 3, 14, 256)]
def mj_ct_6 : List (Nat × Nat × Nat × Nat) := [(1, 6, 0, 480), (7, 9, 7, 481), (9, 5, 3, 482), (22, 1, 46, 1113), (29, 3, 31, 1114), (35, 1, 57, 1115), (43, 0, 273, 1116), (46, 1, 58, 1120), (53, 3, 38, 1121), (56, 1, 69, 1122)]
def mj_kt_6 : List (Nat × Int32 × Nat) := []
def mj_ft_7 : List (Nat × Nat × Nat × Nat) := [(9, 7, 0, 359), (15, 7, 1, 360), (19, 7, 2, 362), (80, 3, 9, 234), (85, 3, 10, 238), (88, 3, 11, 242), (91, 3, 12, 246), (94, 3, 15, 264), (97, 3, 16, 268), (100, 3, 17, 272), (116, 3, 14, 260), (143, 3, 8, 230)]
def mj_ct_7 : List (Nat × Nat × Nat × Nat) := [(3, 6, 0, 355), (23, 2, 2, 356), (29, 0, 52, 717), (33, 3, 61, 747), (37, 0, 46, 832), (41, 0, 139, 833), (44, 7, 0, 767), (50, 0, 66, 906), (54, 0, 54, 726), (58, 0, 68, 783), (62, 3, 51, 703), (65, 0, 55, 713), (68, 3, 56, 730), (71, 3, 53, 721), (75, 13, 0, 725), (103, 3, 50, 787), (106, 3, 31, 698), (109, 0, 57, 699), (113, 0, 58, 733), (119, 3, 38, 778), (122, 0, 69, 779), (125, 0, 154, 951), (129, 12, 0, 907), (132, 0, 64, 751), (135, 2, 60, 741), (139, 2, 62, 744), (146, 3, 49, 750), (149, 3, 210, 1020), (152, 3, 63, 755), (156, 14, 0, 849), (159, 3, 191, 1006), (162, 0, 205, 1007)]
def mj_kt_7 : List (Nat × Int32 × Nat) := [(74, 268435456, 724)]
def mj_ft_8 : List (Nat × Nat × Nat × Nat) := [(12, 8, 0, 518), (19, 8, 1, 519), (25, 8, 2, 520), (30, 8, 3, 521), (34, 8, 4, 522), (37, 8, 5, 523), (44, 8, 6, 524), (51, 8, 7, 525), (58, 8, 8, 526), (65, 8, 9, 527), (72, 8, 10, 528), (76, 4, 1, 314), (88, 4, 2, 316), (98, 3, 0, 202), (101, 4, 8, 323), (104, 4, 9, 325), (117, 3, 9, 233), (130, 0, 6, 394), (146, 3, 13, 251), (149, 3, 14, 258), (155, 3, 15, 263), (161, 3, 10, 237), (164, 3, 11, 241), (167, 3, 12, 245), (170, 3, 16, 267), (173, 3, 17, 271), (179, 3, 8, 229), (185, 3, 1, 207), (244, 0, 0, 383), (250, 1, 5, 504), (257, 1, 0, 497), (260, 1, 1, 499), (265, 5, 4, 451), (273, 7, 2, 365), (284, 7, 1, 361), (327, 0, 9, 399), (328, 0, 1, 385), (331, 0, 2, 387), (334, 0, 3, 389), (337, 0, 4, 391), (343, 0, 7, 396), (350, 3, 2, 210), (359, 6, 0, 484), (362, 3, 3, 214), (375, 2, 1, 434), (381, 2, 0, 430), (391, 5, 6, 455), (405, 5, 5, 453), (412, 5, 7, 457), (418, 3, 4, 221)]
def mj_ct_8 : List (Nat × Nat × Nat × Nat) := [(3, 6, 0, 185), (9, 9, 4, 188), (11, 5, 1, 190), (16, 9, 3, 347), (18, 5, 0, 348), (23, 9, 7, 349), (29, 5, 3, 352), (41, 9, 0, 373), (43, 5, 4, 375), (48, 9, 2, 421), (50, 5, 5, 423), (55, 9, 5, 440), (57, 5, 6, 442), (62, 9, 6, 475), (64, 5, 7, 477), (69, 9, 1, 488), (71, 5, 8, 490), (80, 1, 16, 556), (84, 1, 45, 564), (91, 0, 48, 677), (94, 1, 74, 689), (107, 0, 115, 925), (110, 11, 1, 1254), (120, 2, 31, 1320), (124, 1, 116, 1321), (127, 1, 117, 1325), (133, 1, 118, 1329), (136, 11, 2, 1333), (141, 0, 124, 804), (152, 2, 38, 808), (158, 1, 125, 1357), (176, 0, 134, 817), (182, 2, 138, 825), (188, 1, 46, 681), (191, 1, 140, 828), (194, 1, 141, 837), (197, 0, 145, 841), (200, 0, 153, 867), (204, 1, 66, 862), (208, 1, 154, 871), (212, 1, 58, 879), (215, 1, 159, 880), (218, 1, 68, 888), (222, 1, 139, 893), (225, 1, 170, 902), (228, 1, 174, 912), (231, 1, 70, 920), (235, 1, 59, 929), (238, 1, 65, 934), (241, 0, 184, 939), (247, 1, 281, 947), (253, 1, 187, 956), (261, 1, 188, 960), (269, 0, 193, 969), (276, 1, 71, 989), (280, 1, 201, 994), (287, 1, 206, 1002), (291, 2, 50, 709), (294, 1, 55, 1015), (298, 1, 211, 1016), (301, 2, 217, 1023), (305, 1, 220, 1032), (308, 1, 52, 973), (312, 2, 53, 758), (315, 2, 192, 974), (318, 1, 285, 1048), (321, 1, 57, 1056), (324, 2, 191, 978), (340, 1, 231, 1077), (346, 1, 235, 1085), (352, 1, 292, 1101), (355, 1, 274, 1109), (364, 1, 304, 1131), (368, 1, 305, 1139), (371, 1, 243, 1148), (378, 0, 245, 1152), (382, 13, 0, 1027), (387, 0, 257, 1172), (394, 1, 264, 1204), (398, 1, 270, 1218), (402, 1, 39, 1223), (408, 1, 297, 1232), (415, 1, 298, 1237), (421, 1, 47, 685), (424, 1, 142, 845), (427, 1, 144, 852), (431, 1, 244, 1156), (434, 1, 256, 1176), (438, 2, 61, 977), (444, 2, 49, 706)]
def mj_kt_8 : List (Nat × Int32 × Nat) := [(437, 268435456, 712)]
def mj_ft_9 : List (Nat × Nat × Nat × Nat) := [(1, 9, 0, 1391), (13, 9, 6, 1397), (17, 9, 7, 1398), (20, 9, 8, 1399), (23, 9, 9, 1400), (26, 9, 10, 1401), (29, 9, 11, 1402), (32, 9, 12, 1403), (35, 9, 13, 1404), (38, 9, 14, 1405), (41, 9, 15, 1406), (44, 9, 16, 1407), (47, 9, 17, 1408), (50, 9, 19, 1410), (53, 9, 20, 1411), (56, 9, 21, 1412), (59, 9, 22, 1413), (62, 9, 24, 1415), (66, 9, 32, 1423), (69, 9, 34, 1425), (72, 9, 35, 1426), (75, 9, 42, 1433), (78, 9, 43, 1434), (81, 9, 44, 1435), (84, 9, 45, 1436), (87, 9, 46, 1437), (90, 9, 47, 1438), (93, 9, 48, 1439), (96, 9, 49, 1440), (99, 9, 50, 1441), (102, 9, 51, 1442), (105, 9, 54, 1445), (108, 9, 55, 1446), (111, 9, 57, 1448), (114, 9, 58, 1449), (117, 9, 59, 1450), (120, 9, 60, 1451), (133, 9, 25, 1416), (139, 9, 27, 1418), (142, 9, 26, 1417), (149, 9, 28, 1419), (152, 9, 30, 1421), (155, 9, 29, 1420), (162, 9, 33, 1424), (166, 9, 31, 1422), (189, 9, 37, 1428), (203, 9, 36, 1427), (215, 9, 38, 1429), (224, 9, 40, 1431), (227, 9, 39, 1430), (230, 9, 41, 1432), (239, 9, 1, 1392), (242, 9, 2, 1393), (245, 9, 3, 1394), (248, 9, 4, 1395), (251, 9, 5, 1396), (261, 9, 18, 1409), (280, 9, 52, 1443), (289, 9, 53, 1444), (374, 9, 23, 1414), (414, 9, 56, 1447)]
def mj_ct_9 : List (Nat × Nat × Nat × Nat) := [(7, 6, 0, 1370), (123, 0, 14, 1371), (126, 0, 11, 1375), (129, 0, 13, 1383), (136, 0, 18, 1579), (145, 0, 77, 1594), (158, 2, 76, 1587), (174, 0, 80, 1611), (178, 0, 78, 1590), (181, 0, 82, 1619), (185, 2, 83, 1627), (192, 0, 85, 1634), (196, 0, 79, 1603), (200, 0, 81, 1607), (206, 0, 86, 1638), (209, 0, 84, 1615), (212, 0, 87, 1630), (218, 0, 88, 1642), (221, 0, 89, 1646), (233, 0, 90, 1598), (236, 0, 111, 1650), (254, 2, 91, 1654), (258, 0, 93, 1657), (264, 0, 110, 1665), (267, 0, 92, 1661), (272, 0, 12, 1387), (276, 0, 10, 1379), (283, 2, 97, 1693), (286, 0, 95, 1684), (292, 2, 94, 1681), (296, 0, 96, 1677), (300, 0, 98, 1688), (303, 0, 99, 1673), (306, 0, 100, 1696), (309, 0, 106, 1719), (312, 0, 101, 1669), (315, 0, 166, 1797), (318, 2, 102, 1704), (321, 0, 149, 1754), (324, 0, 150, 1758), (327, 2, 147, 1743), (330, 0, 148, 1746), (333, 0, 151, 1750), (336, 0, 156, 1766), (340, 0, 157, 1770), (343, 2, 132, 1778), (346, 0, 161, 1781), (349, 0, 136, 1789), (352, 0, 172, 1809), (356, 0, 176, 1817), (359, 0, 127, 1829), (362, 0, 107, 1715), (365, 0, 283, 1837), (368, 0, 120, 1845), (371, 0, 103, 1700), (377, 0, 105, 1711), (380, 0, 195, 1861), (383, 0, 108, 1727), (387, 0, 203, 1881), (390, 0, 208, 1889), (393, 0, 222, 1905), (396, 0, 287, 1913), (399, 2, 290, 1921), (402, 0, 104, 1707), (405, 0, 109, 1723), (408, 0, 227, 1932), (411, 0, 121, 1948), (417, 0, 233, 1944), (420, 0, 237, 1960), (423, 0, 307, 1996), (426, 0, 308, 2000), (429, 2, 259, 2040), (432, 0, 260, 2036), (435, 0, 247, 2012), (438, 0, 261, 2032), (442, 0, 262, 2028), (445, 0, 266, 2047)]
def mj_kt_9 : List (Nat × Int32 × Nat) := [(169, 3554411, 1602), (170, 17171557, 1623), (171, 168165, 1624), (172, 20579924, 1625), (173, 762030, 1626), (271, 1000000, 1692)]
def mj_ft_10 : List (Nat × Nat × Nat × Nat) := []
def mj_ct_10 : List (Nat × Nat × Nat × Nat) := [(8, 9, 8, 180), (20, 4, 9, 182), (21, 9, 9, 1365), (23, 4, 15, 1367), (24, 0, 17, 552), (28, 0, 19, 1575), (29, 0, 75, 560), (33, 0, 112, 1583), (34, 0, 113, 796), (37, 0, 114, 1731), (38, 8, 119, 1245), (43, 0, 122, 1976), (44, 0, 123, 1361), (48, 8, 126, 1349), (50, 0, 128, 1980), (51, 0, 129, 800), (55, 0, 130, 1984), (56, 0, 131, 809), (59, 0, 133, 1988), (60, 0, 135, 813), (63, 0, 137, 2004), (64, 0, 146, 821), (68, 0, 152, 1739), (69, 0, 155, 863), (72, 0, 158, 1762), (73, 0, 160, 875), (76, 0, 162, 1774), (77, 0, 163, 884), (80, 0, 164, 1785), (81, 0, 165, 889), (84, 0, 167, 1793), (85, 0, 168, 894), (88, 0, 169, 1801), (89, 0, 171, 898), (92, 0, 173, 1805), (93, 0, 175, 908), (96, 0, 177, 1813), (97, 0, 178, 916), (100, 0, 179, 1825), (101, 0, 180, 921), (104, 0, 181, 1841), (105, 0, 182, 930), (108, 0, 183, 1849), (109, 0, 185, 935), (112, 0, 186, 1853), (113, 0, 189, 952), (116, 0, 190, 1735), (117, 0, 194, 965), (121, 0, 196, 1857), (122, 0, 197, 981), (125, 0, 198, 1869), (126, 0, 199, 985), (129, 0, 200, 1873), (130, 0, 202, 990), (133, 0, 204, 1877), (134, 0, 207, 998), (137, 0, 209, 1885), (138, 0, 218, 1011), (141, 0, 219, 1897), (142, 0, 221, 1028), (145, 0, 223, 1901), (146, 0, 224, 1061), (149, 0, 225, 1924), (150, 0, 226, 1065), (153, 0, 228, 1928), (154, 0, 229, 1069), (157, 0, 230, 1936), (158, 0, 232, 1073), (161, 0, 234, 1940), (162, 0, 236, 1081), (165, 0, 238, 1956), (166, 0, 239, 1089), (169, 0, 240, 1964), (170, 0, 241, 1093), (173, 0, 242, 1968), (174, 0, 246, 1144), (177, 0, 248, 2008), (178, 0, 249, 1160), (181, 0, 250, 2016), (182, 0, 251, 1164), (185, 0, 252, 2020), (186, 0, 258, 1168), (189, 0, 263, 2024), (190, 0, 265, 1200), (193, 0, 267, 2043), (194, 0, 268, 1210), (197, 0, 269, 2051), (198, 0, 271, 1214), (201, 0, 272, 2055), (202, 0, 275, 1224), (205, 0, 276, 2059), (206, 0, 277, 1036), (209, 0, 278, 1865), (210, 0, 279, 1040), (213, 0, 280, 1821), (214, 0, 282, 943), (217, 0, 284, 1833), (218, 0, 286, 1044), (221, 0, 288, 1909), (222, 0, 289, 1052), (225, 0, 291, 1917), (226, 0, 293, 1097), (229, 0, 294, 1972), (230, 0, 295, 1105), (233, 0, 296, 2063), (234, 0, 299, 1228), (237, 0, 300, 2067), (238, 0, 301, 1123), (241, 0, 302, 1952), (242, 0, 306, 1127), (245, 0, 309, 1992), (246, 0, 310, 1057), (249, 0, 311, 1893), (250, 0, 312, 1241), (253, 0, 313, 2071)]
def mj_kt_10 : List (Nat × Int32 × Nat) := []
def mj_ft_12 : List (Nat × Nat × Nat × Nat) := []
def mj_ct_12 : List (Nat × Nat × Nat × Nat) := []
def mj_kt_12 : List (Nat × Int32 × Nat) := []
def mj_ft_20 : List (Nat × Nat × Nat × Nat) := [(284, 7, 1, 361)]
def mj_ct_20 : List (Nat × Nat × Nat × Nat) := [(308, 1, 52, 973), (382, 13, 0, 1027), (438, 2, 61, 977), (441, 12, 0, 1026)]
def mj_kt_20 : List (Nat × Int32 × Nat) := []
def mj_ft_21 : List (Nat × Nat × Nat × Nat) := [(284, 7, 1, 361)]
def mj_ct_21 : List (Nat × Nat × Nat × Nat) := [(301, 2, 212, 1023), (308, 1, 52, 973), (382, 13, 0, 1027), (438, 2, 61, 977), (441, 12, 0, 1026)]
def mj_kt_21 : List (Nat × Int32 × Nat) := []
def mj_ft_22 : List (Nat × Nat × Nat × Nat) := [(284, 7, 1, 361)]
def mj_ct_22 : List (Nat × Nat × Nat × Nat) := [(301, 2, 213, 1023), (308, 1, 52, 973), (382, 13, 0, 1027), (438, 2, 61, 977), (441, 12, 0, 1026)]
def mj_kt_22 : List (Nat × Int32 × Nat) := []
def mj_ft_23 : List (Nat × Nat × Nat × Nat) := [(284, 7, 1, 361)]
def mj_ct_23 : List (Nat × Nat × Nat × Nat) := [(301, 2, 214, 1023), (308, 1, 52, 973), (382, 13, 0, 1027), (438, 2, 61, 977), (441, 12, 0, 1026)]
def mj_kt_23 : List (Nat × Int32 × Nat) := []
def mj_ft_24 : List (Nat × Nat × Nat × Nat) := [(284, 7, 1, 361)]
def mj_ct_24 : List (Nat × Nat × Nat × Nat) := [(301, 2, 215, 1023), (308, 1, 52, 973), (382, 13, 0, 1027), (438, 2, 61, 977), (441, 12, 0, 1026)]
def mj_kt_24 : List (Nat × Int32 × Nat) := []
def mj_ft_25 : List (Nat × Nat × Nat × Nat) := [(284, 7, 1, 361)]
def mj_ct_25 : List (Nat × Nat × Nat × Nat) := [(301, 2, 216, 1023), (308, 1, 52, 973), (382, 13, 0, 1027), (438, 2, 61, 977), (441, 12, 0, 1026)]
def mj_kt_25 : List (Nat × Int32 × Nat) := []
/-- by the pool -/
def mj_fts : List (List (Nat × Nat × Nat × Nat)) := [mj_ft_0, mj_ft_1, mj_ft_2, mj_ft_3, mj_ft_4, mj_ft_5, mj_ft_6, mj_ft_7, mj_ft_8, mj_ft_9, mj_ft_10, [], mj_ft_12, [], [], [], [], [], [], [], mj_ft_20, mj_ft_21, mj_ft_22, mj_ft_23, mj_ft_24, mj_ft_25]
/-- by the pool -/
def mj_cts : List (List (Nat × Nat × Nat × Nat)) := [mj_ct_0, mj_ct_1, mj_ct_2, mj_ct_3, mj_ct_4, mj_ct_5, mj_ct_6, mj_ct_7, mj_ct_8, mj_ct_9, mj_ct_10, [], mj_ct_12, [], [], [], [], [], [], [], mj_ct_20, mj_ct_21, mj_ct_22, mj_ct_23, mj_ct_24, mj_ct_25]
/-- by the pool -/
def mj_kts : List (List (Nat × Int32 × Nat)) := [mj_kt_0, mj_kt_1, mj_kt_2, mj_kt_3, mj_kt_4, mj_kt_5, mj_kt_6, mj_kt_7, mj_kt_8, mj_kt_9, mj_kt_10, [], mj_kt_12, [], [], [], [], [], [], [], mj_kt_20, mj_kt_21, mj_kt_22, mj_kt_23, mj_kt_24, mj_kt_25]
/-- by the pool -/
def mj_owns : List (String) := ["ClockZones$Graph", "ClockZones$History", "ClockZones$Path", "ClockZones$Plan", "ClockZones$Reader", "ClockZones$Times", "ClockZones$Walk", "ClockZones$Zone", "ClockZones", "ClockZonesModel", "ClockZonesLaw", "", "java/util/Arrays", "", "", "", "", "", "", "", "ClockZones", "ClockZones", "ClockZones", "ClockZones", "ClockZones", "ClockZones"]
