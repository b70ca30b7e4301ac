-- printed by a program: the classes, their fields
def R0 : String := "LateBinder$Bench"
def T0 : u_T := fun k => match k with
  | 0 => ("LateBinder$Bench", "plan", "LLateBinder$Plan;", false)
  | 1 => ("LateBinder$Bench", "journal", "LLateBinder$Journal;", true)
  | 2 => ("LateBinder$Bench", "state", "[I", true)
  | 3 => ("LateBinder$Bench", "driverOf", "[I", true)
  | 4 => ("LateBinder$Bench", "reason", "[I", true)
  | 5 => ("LateBinder$Bench", "cause", "[I", true)
  | 6 => ("LateBinder$Bench", "high", "[I", true)
  | 7 => ("LateBinder$Bench", "consumes", "[I", true)
  | 8 => ("LateBinder$Bench", "linked", "[I", true)
  | 9 => ("LateBinder$Bench", "lineOwner", "[I", true)
  | 10 => ("LateBinder$Bench", "giver", "[I", true)
  | 11 => ("LateBinder$Bench", "row", "LLateBinder$Row;", true)
  | 12 => ("LateBinder$Bench", "pass", "LLateBinder$Row;", true)
  | 13 => ("LateBinder$Bench", "bound", "LLateBinder$Row;", true)
  | 14 => ("LateBinder$Bench", "gone", "LLateBinder$Row;", true)
  | 15 => ("LateBinder$Bench", "pool", "I", false)
  | 16 => ("LateBinder$Bench", "loaded", "I", false)
  | 17 => ("LateBinder$Bench", "synced", "I", false)
  | _ => ("LateBinder$Bench", "boundNow", "I", false)
def ty0 : Nat → FieldType := fun k => match k with
  | 0 => .object "LateBinder$Plan"
  | 1 => .object "LateBinder$Journal"
  | 2 => .array .int
  | 3 => .array .int
  | 4 => .array .int
  | 5 => .array .int
  | 6 => .array .int
  | 7 => .array .int
  | 8 => .array .int
  | 9 => .array .int
  | 10 => .array .int
  | 11 => .object "LateBinder$Row"
  | 12 => .object "LateBinder$Row"
  | 13 => .object "LateBinder$Row"
  | 14 => .object "LateBinder$Row"
  | 15 => .int
  | 16 => .int
  | 17 => .int
  | _ => .int
def lx0 : Nat → Nat := fun k => [403, 405, 407, 409, 411, 413, 415, 417, 419, 421, 423, 425, 427, 429, 431, 433, 435, 437, 439].getD k 0
theorem ty0_ok : ∀ k, k < 19 → parseFieldDescriptor (T0 k).2.2.1 = some (ty0 k) := by decide +kernel
theorem nm0_ok : ∀ a, a < 19 → ∀ b, b < 19 → a ≠ b → (T0 a).2.1 ≠ (T0 b).2.1 := by decide +kernel
theorem in0_c : ∀ k, k < 19 → lw_tbl[lx0 k]? = some (u_lay R0 T0 k) := by decide +kernel
theorem in0_ok : ∀ w ∈ u_ws R0 T0 19, w ∈ lw_tbl := by
  intro w hw
  obtain ⟨k, hk, rfl⟩ := List.mem_map.mp hw
  exact List.mem_of_getElem? (in0_c k (List.mem_range.mp hk))
def R1 : String := "LateBinder$Journal"
def T1 : u_T := fun k => match k with
  | 0 => ("LateBinder$Journal", "rows", "I", true)
  | 1 => ("LateBinder$Journal", "cells", "[I", true)
  | 2 => ("LateBinder$Journal", "next", "I", false)
  | _ => ("LateBinder$Journal", "size", "I", false)
def ty1 : Nat → FieldType := fun k => match k with
  | 0 => .int
  | 1 => .array .int
  | 2 => .int
  | _ => .int
def lx1 : Nat → Nat := fun k => [215, 217, 219, 221].getD k 0
theorem ty1_ok : ∀ k, k < 4 → parseFieldDescriptor (T1 k).2.2.1 = some (ty1 k) := by decide +kernel
theorem nm1_ok : ∀ a, a < 4 → ∀ b, b < 4 → a ≠ b → (T1 a).2.1 ≠ (T1 b).2.1 := by decide +kernel
theorem in1_c : ∀ k, k < 4 → lw_tbl[lx1 k]? = some (u_lay R1 T1 k) := by decide +kernel
theorem in1_ok : ∀ w ∈ u_ws R1 T1 4, w ∈ lw_tbl := by
  intro w hw
  obtain ⟨k, hk, rfl⟩ := List.mem_map.mp hw
  exact List.mem_of_getElem? (in1_c k (List.mem_range.mp hk))
def R2 : String := "LateBinder$Parser"
def T2 : u_T := fun k => match k with
  | 0 => ("LateBinder$Parser", "tape", "LLateBinder$Tape;", true)
  | 1 => ("LateBinder$Parser", "plan", "LLateBinder$Plan;", false)
  | 2 => ("LateBinder$Parser", "kind", "I", false)
  | 3 => ("LateBinder$Parser", "begin", "I", false)
  | 4 => ("LateBinder$Parser", "after", "I", false)
  | 5 => ("LateBinder$Parser", "code", "J", false)
  | 6 => ("LateBinder$Parser", "key", "LLateBinder$Key;", false)
  | 7 => ("LateBinder$Parser", "fault", "I", false)
  | 8 => ("LateBinder$Parser", "idFrom", "[I", true)
  | 9 => ("LateBinder$Parser", "idTo", "[I", true)
  | 10 => ("LateBinder$Parser", "patternFrom", "[I", true)
  | _ => ("LateBinder$Parser", "patternTo", "[I", true)
def ty2 : Nat → FieldType := fun k => match k with
  | 0 => .object "LateBinder$Tape"
  | 1 => .object "LateBinder$Plan"
  | 2 => .int
  | 3 => .int
  | 4 => .int
  | 5 => .long
  | 6 => .object "LateBinder$Key"
  | 7 => .int
  | 8 => .array .int
  | 9 => .array .int
  | 10 => .array .int
  | _ => .array .int
def lx2 : Nat → Nat := fun k => [178, 180, 182, 184, 186, 188, 190, 192, 194, 196, 198, 200].getD k 0
theorem ty2_ok : ∀ k, k < 12 → parseFieldDescriptor (T2 k).2.2.1 = some (ty2 k) := by decide +kernel
theorem nm2_ok : ∀ a, a < 12 → ∀ b, b < 12 → a ≠ b → (T2 a).2.1 ≠ (T2 b).2.1 := by decide +kernel
theorem in2_c : ∀ k, k < 12 → lw_tbl[lx2 k]? = some (u_lay R2 T2 k) := by decide +kernel
theorem in2_ok : ∀ w ∈ u_ws R2 T2 12, w ∈ lw_tbl := by
  intro w hw
  obtain ⟨k, hk, rfl⟩ := List.mem_map.mp hw
  exact List.mem_of_getElem? (in2_c k (List.mem_range.mp hk))
def R3 : String := "LateBinder$Plan"
def T3 : u_T := fun k => match k with
  | 0 => ("LateBinder$Plan", "devices", "I", false)
  | 1 => ("LateBinder$Plan", "drivers", "I", false)
  | 2 => ("LateBinder$Plan", "supplies", "I", false)
  | 3 => ("LateBinder$Plan", "deviceName", "[J", true)
  | 4 => ("LateBinder$Plan", "driverName", "[J", true)
  | 5 => ("LateBinder$Plan", "supplyName", "[J", true)
  | 6 => ("LateBinder$Plan", "parent", "[I", true)
  | 7 => ("LateBinder$Plan", "parentBit", "[I", true)
  | 8 => ("LateBinder$Plan", "needs", "[I", true)
  | 9 => ("LateBinder$Plan", "need", "[I", true)
  | 10 => ("LateBinder$Plan", "needBits", "[I", true)
  | 11 => ("LateBinder$Plan", "patterns", "[I", true)
  | 12 => ("LateBinder$Plan", "steps", "[I", true)
  | 13 => ("LateBinder$Plan", "stepKey", "[LLateBinder$Key;", true)
  | 14 => ("LateBinder$Plan", "stepValue", "[I", true)
  | 15 => ("LateBinder$Plan", "getBits", "[I", true)
  | 16 => ("LateBinder$Plan", "giveBits", "[I", true)
  | 17 => ("LateBinder$Plan", "score", "[[I", true)
  | 18 => ("LateBinder$Plan", "rank", "[[I", true)
  | _ => ("LateBinder$Plan", "ranked", "[I", true)
def ty3 : Nat → FieldType := fun k => match k with
  | 0 => .int
  | 1 => .int
  | 2 => .int
  | 3 => .array .long
  | 4 => .array .long
  | 5 => .array .long
  | 6 => .array .int
  | 7 => .array .int
  | 8 => .array .int
  | 9 => .array .int
  | 10 => .array .int
  | 11 => .array .int
  | 12 => .array .int
  | 13 => .array (.object "LateBinder$Key")
  | 14 => .array .int
  | 15 => .array .int
  | 16 => .array .int
  | 17 => .array (.array .int)
  | 18 => .array (.array .int)
  | _ => .array .int
def lx3 : Nat → Nat := fun k => [288, 290, 292, 294, 296, 298, 300, 302, 304, 306, 308, 310, 312, 314, 316, 318, 320, 322, 324, 326].getD k 0
theorem ty3_ok : ∀ k, k < 20 → parseFieldDescriptor (T3 k).2.2.1 = some (ty3 k) := by decide +kernel
theorem nm3_ok : ∀ a, a < 20 → ∀ b, b < 20 → a ≠ b → (T3 a).2.1 ≠ (T3 b).2.1 := by decide +kernel
theorem in3_c : ∀ k, k < 20 → lw_tbl[lx3 k]? = some (u_lay R3 T3 k) := by decide +kernel
theorem in3_ok : ∀ w ∈ u_ws R3 T3 20, w ∈ lw_tbl := by
  intro w hw
  obtain ⟨k, hk, rfl⟩ := List.mem_map.mp hw
  exact List.mem_of_getElem? (in3_c k (List.mem_range.mp hk))
def R4 : String := "LateBinder$Ring"
def T4 : u_T := fun k => match k with
  | 0 => ("LateBinder$Ring", "waits", "[I", true)
  | 1 => ("LateBinder$Ring", "near", "[I", true)
  | _ => ("LateBinder$Ring", "row", "LLateBinder$Row;", true)
def ty4 : Nat → FieldType := fun k => match k with
  | 0 => .array .int
  | 1 => .array .int
  | _ => .object "LateBinder$Row"
def lx4 : Nat → Nat := fun k => [454, 456, 458].getD k 0
theorem ty4_ok : ∀ k, k < 3 → parseFieldDescriptor (T4 k).2.2.1 = some (ty4 k) := by decide +kernel
theorem nm4_ok : ∀ a, a < 3 → ∀ b, b < 3 → a ≠ b → (T4 a).2.1 ≠ (T4 b).2.1 := by decide +kernel
theorem in4_c : ∀ k, k < 3 → lw_tbl[lx4 k]? = some (u_lay R4 T4 k) := by decide +kernel
theorem in4_ok : ∀ w ∈ u_ws R4 T4 3, w ∈ lw_tbl := by
  intro w hw
  obtain ⟨k, hk, rfl⟩ := List.mem_map.mp hw
  exact List.mem_of_getElem? (in4_c k (List.mem_range.mp hk))
def R5 : String := "LateBinder$Row"
def T5 : u_T := fun k => match k with
  | 0 => ("LateBinder$Row", "items", "[I", true)
  | _ => ("LateBinder$Row", "size", "I", false)
def ty5 : Nat → FieldType := fun k => match k with
  | 0 => .array .int
  | _ => .int
def lx5 : Nat → Nat := fun k => [347, 349].getD k 0
theorem ty5_ok : ∀ k, k < 2 → parseFieldDescriptor (T5 k).2.2.1 = some (ty5 k) := by decide +kernel
theorem nm5_ok : ∀ a, a < 2 → ∀ b, b < 2 → a ≠ b → (T5 a).2.1 ≠ (T5 b).2.1 := by decide +kernel
theorem in5_c : ∀ k, k < 2 → lw_tbl[lx5 k]? = some (u_lay R5 T5 k) := by decide +kernel
theorem in5_ok : ∀ w ∈ u_ws R5 T5 2, w ∈ lw_tbl := by
  intro w hw
  obtain ⟨k, hk, rfl⟩ := List.mem_map.mp hw
  exact List.mem_of_getElem? (in5_c k (List.mem_range.mp hk))
def R6 : String := "LateBinder$Tape"
def T6 : u_T := fun k => match k with
  | 0 => ("LateBinder$Tape", "bytes", "[B", true)
  | _ => ("LateBinder$Tape", "size", "I", false)
def ty6 : Nat → FieldType := fun k => match k with
  | 0 => .array .byte
  | _ => .int
def lx6 : Nat → Nat := fun k => [154, 156].getD k 0
theorem ty6_ok : ∀ k, k < 2 → parseFieldDescriptor (T6 k).2.2.1 = some (ty6 k) := by decide +kernel
theorem nm6_ok : ∀ a, a < 2 → ∀ b, b < 2 → a ≠ b → (T6 a).2.1 ≠ (T6 b).2.1 := by decide +kernel
theorem in6_c : ∀ k, k < 2 → lw_tbl[lx6 k]? = some (u_lay R6 T6 k) := by decide +kernel
theorem in6_ok : ∀ w ∈ u_ws R6 T6 2, w ∈ lw_tbl := by
  intro w hw
  obtain ⟨k, hk, rfl⟩ := List.mem_map.mp hw
  exact List.mem_of_getElem? (in6_c k (List.mem_range.mp hk))
def R7 : String := "LateBinder"
def T7 : u_T := fun k => match k with
  | 0 => ("LateBinder", "tape", "LLateBinder$Tape;", true)
  | 1 => ("LateBinder", "parser", "LLateBinder$Parser;", true)
  | 2 => ("LateBinder", "journal", "LLateBinder$Journal;", true)
  | 3 => ("LateBinder", "bench", "LLateBinder$Bench;", true)
  | 4 => ("LateBinder", "trials", "[LLateBinder$Bench;", true)
  | 5 => ("LateBinder", "rings", "LLateBinder$Ring;", true)
  | 6 => ("LateBinder", "wantedBits", "[I", true)
  | 7 => ("LateBinder", "wantedKnown", "Z", false)
  | 8 => ("LateBinder", "plan", "LLateBinder$Plan;", false)
  | _ => ("LateBinder", "spare", "LLateBinder$Plan;", false)
def ty7 : Nat → FieldType := fun k => match k with
  | 0 => .object "LateBinder$Tape"
  | 1 => .object "LateBinder$Parser"
  | 2 => .object "LateBinder$Journal"
  | 3 => .object "LateBinder$Bench"
  | 4 => .array (.object "LateBinder$Bench")
  | 5 => .object "LateBinder$Ring"
  | 6 => .array .int
  | 7 => .boolean
  | 8 => .object "LateBinder$Plan"
  | _ => .object "LateBinder$Plan"
def lx7 : Nat → Nat := fun k => [471, 473, 475, 477, 479, 481, 483, 485, 487, 489].getD k 0
theorem ty7_ok : ∀ k, k < 10 → parseFieldDescriptor (T7 k).2.2.1 = some (ty7 k) := by decide +kernel
theorem nm7_ok : ∀ a, a < 10 → ∀ b, b < 10 → a ≠ b → (T7 a).2.1 ≠ (T7 b).2.1 := by decide +kernel
theorem in7_c : ∀ k, k < 10 → lw_tbl[lx7 k]? = some (u_lay R7 T7 k) := by decide +kernel
theorem in7_ok : ∀ w ∈ u_ws R7 T7 10, w ∈ lw_tbl := by
  intro w hw
  obtain ⟨k, hk, rfl⟩ := List.mem_map.mp hw
  exact List.mem_of_getElem? (in7_c k (List.mem_range.mp hk))
def R8 : String := "LateBinderModel"
def T8 : u_T := fun k => match k with
  | 0 => ("LateBinderModel", "tape", "[I", true)
  | 1 => ("LateBinderModel", "taped", "I", false)
  | 2 => ("LateBinderModel", "thrown", "I", false)
  | 3 => ("LateBinderModel", "many", "[I", true)
  | 4 => ("LateBinderModel", "deviceName", "[J", true)
  | 5 => ("LateBinderModel", "id", "[I", true)
  | 6 => ("LateBinderModel", "idLong", "[I", true)
  | 7 => ("LateBinderModel", "parent", "[I", true)
  | 8 => ("LateBinderModel", "needMany", "[I", true)
  | 9 => ("LateBinderModel", "need", "[I", true)
  | 10 => ("LateBinderModel", "driverName", "[J", true)
  | 11 => ("LateBinderModel", "patternMany", "[I", true)
  | 12 => ("LateBinderModel", "pattern", "[I", true)
  | 13 => ("LateBinderModel", "patternLong", "[I", true)
  | 14 => ("LateBinderModel", "stepMany", "[I", true)
  | 15 => ("LateBinderModel", "stepKind", "[I", true)
  | 16 => ("LateBinderModel", "stepOf", "[I", true)
  | 17 => ("LateBinderModel", "supplyName", "[J", true)
  | 18 => ("LateBinderModel", "side", "I", false)
  | 19 => ("LateBinderModel", "s", "[I", true)
  | 20 => ("LateBinderModel", "kept", "[I", true)
  | 21 => ("LateBinderModel", "size", "I", false)
  | 22 => ("LateBinderModel", "at", "I", false)
  | 23 => ("LateBinderModel", "token", "I", false)
  | 24 => ("LateBinderModel", "place", "I", false)
  | 25 => ("LateBinderModel", "end", "I", false)
  | 26 => ("LateBinderModel", "word", "J", false)
  | 27 => ("LateBinderModel", "number", "I", false)
  | 28 => ("LateBinderModel", "fault", "I", false)
  | 29 => ("LateBinderModel", "faultAt", "I", false)
  | 30 => ("LateBinderModel", "with", "I", false)
  | 31 => ("LateBinderModel", "boundNow", "I", false)
  | 32 => ("LateBinderModel", "pass", "[I", true)
  | 33 => ("LateBinderModel", "gone", "I", false)
  | 34 => ("LateBinderModel", "goneRow", "[I", true)
  | 35 => ("LateBinderModel", "far", "[I", true)
  | _ => ("LateBinderModel", "asIs", "[I", true)
def ty8 : Nat → FieldType := fun k => match k with
  | 0 => .array .int
  | 1 => .int
  | 2 => .int
  | 3 => .array .int
  | 4 => .array .long
  | 5 => .array .int
  | 6 => .array .int
  | 7 => .array .int
  | 8 => .array .int
  | 9 => .array .int
  | 10 => .array .long
  | 11 => .array .int
  | 12 => .array .int
  | 13 => .array .int
  | 14 => .array .int
  | 15 => .array .int
  | 16 => .array .int
  | 17 => .array .long
  | 18 => .int
  | 19 => .array .int
  | 20 => .array .int
  | 21 => .int
  | 22 => .int
  | 23 => .int
  | 24 => .int
  | 25 => .int
  | 26 => .long
  | 27 => .int
  | 28 => .int
  | 29 => .int
  | 30 => .int
  | 31 => .int
  | 32 => .array .int
  | 33 => .int
  | 34 => .array .int
  | 35 => .array .int
  | _ => .array .int
def lx8 : Nat → Nat := fun k => [1127, 1129, 1131, 1133, 1135, 1137, 1139, 1141, 1143, 1145, 1147, 1149, 1151, 1153, 1155, 1157, 1159, 1161, 1163, 1165, 1167, 1169, 1171, 1173, 1175, 1177, 1179, 1181, 1183, 1185, 1187, 1189, 1191, 1193, 1195, 1197, 1199].getD k 0
theorem ty8_ok : ∀ k, k < 37 → parseFieldDescriptor (T8 k).2.2.1 = some (ty8 k) := by decide +kernel
theorem nm8_ok : ∀ a, a < 37 → ∀ b, b < 37 → a ≠ b → (T8 a).2.1 ≠ (T8 b).2.1 := by decide +kernel
theorem in8_c : ∀ k, k < 37 → lw_tbl[lx8 k]? = some (u_lay R8 T8 k) := by decide +kernel
theorem in8_ok : ∀ w ∈ u_ws R8 T8 37, w ∈ lw_tbl := by
  intro w hw
  obtain ⟨k, hk, rfl⟩ := List.mem_map.mp hw
  exact List.mem_of_getElem? (in8_c k (List.mem_range.mp hk))
abbrev clz : List vw_C := [(R0, T0, 19), (R1, T1, 4), (R2, T2, 12), (R3, T3, 20), (R4, T4, 3), (R5, T5, 2), (R6, T6, 2), (R7, T7, 10), (R8, T8, 37)]
def TY (c : Nat) : Nat → FieldType := match c with
  | 0 => ty0
  | 1 => ty1
  | 2 => ty2
  | 3 => ty3
  | 4 => ty4
  | 5 => ty5
  | 6 => ty6
  | 7 => ty7
  | _ => ty8
theorem clz_ty : ∀ (c : Nat) (q : vw_C), clz[c]? = some q → ∀ k, k < q.2.2 → parseFieldDescriptor (q.2.1 k).2.2.1 = some (TY c k)
  | 0, q, h => by cases h; exact ty0_ok
  | 1, q, h => by cases h; exact ty1_ok
  | 2, q, h => by cases h; exact ty2_ok
  | 3, q, h => by cases h; exact ty3_ok
  | 4, q, h => by cases h; exact ty4_ok
  | 5, q, h => by cases h; exact ty5_ok
  | 6, q, h => by cases h; exact ty6_ok
  | 7, q, h => by cases h; exact ty7_ok
  | 8, q, h => by cases h; exact ty8_ok
  | n + 9, q, h => by simp at h
theorem clz_nm : ∀ (c : Nat) (q : vw_C), clz[c]? = some q → ∀ a, a < q.2.2 → ∀ b, b < q.2.2 → a ≠ b → (q.2.1 a).2.1 ≠ (q.2.1 b).2.1
  | 0, q, h => by cases h; exact nm0_ok
  | 1, q, h => by cases h; exact nm1_ok
  | 2, q, h => by cases h; exact nm2_ok
  | 3, q, h => by cases h; exact nm3_ok
  | 4, q, h => by cases h; exact nm4_ok
  | 5, q, h => by cases h; exact nm5_ok
  | 6, q, h => by cases h; exact nm6_ok
  | 7, q, h => by cases h; exact nm7_ok
  | 8, q, h => by cases h; exact nm8_ok
  | n + 9, q, h => by simp at h
theorem clz_in : ∀ (c : Nat) (q : vw_C), clz[c]? = some q → ∀ w ∈ u_ws q.1 q.2.1 q.2.2, w ∈ lw_tbl
  | 0, q, h => by cases h; exact in0_ok
  | 1, q, h => by cases h; exact in1_ok
  | 2, q, h => by cases h; exact in2_ok
  | 3, q, h => by cases h; exact in3_ok
  | 4, q, h => by cases h; exact in4_ok
  | 5, q, h => by cases h; exact in5_ok
  | 6, q, h => by cases h; exact in6_ok
  | 7, q, h => by cases h; exact in7_ok
  | 8, q, h => by cases h; exact in8_ok
  | n + 9, q, h => by simp at h
def fk (k j : Nat) : Nat := bif Nat.blt k 4 then (bif Nat.blt k 2 then (bif Nat.blt k 1 then (bif Nat.beq k 0 then (bif Nat.blt j 9 then (bif Nat.blt j 4 then (bif Nat.blt j 2 then (bif Nat.blt j 1 then (bif Nat.beq j 0 then 3 else 0) else (bif Nat.beq j 1 then 2 else 0)) else (bif Nat.blt j 3 then (bif Nat.beq j 2 then 2 else 0) else (bif Nat.beq j 3 then 2 else 0))) else (bif Nat.blt j 6 then (bif Nat.blt j 5 then (bif Nat.beq j 4 then 2 else 0) else (bif Nat.beq j 5 then 2 else 0)) else (bif Nat.blt j 7 then (bif Nat.beq j 6 then 2 else 0) else (bif Nat.blt j 8 then (bif Nat.beq j 7 then 2 else 0) else (bif Nat.beq j 8 then 2 else 0))))) else (bif Nat.blt j 14 then (bif Nat.blt j 11 then (bif Nat.blt j 10 then (bif Nat.beq j 9 then 2 else 0) else (bif Nat.beq j 10 then 2 else 0)) else (bif Nat.blt j 12 then (bif Nat.beq j 11 then 2 else 0) else (bif Nat.blt j 13 then (bif Nat.beq j 12 then 2 else 0) else (bif Nat.beq j 13 then 2 else 0)))) else (bif Nat.blt j 16 then (bif Nat.blt j 15 then (bif Nat.beq j 14 then 2 else 0) else (bif Nat.beq j 15 then 0 else 0)) else (bif Nat.blt j 17 then (bif Nat.beq j 16 then 0 else 0) else (bif Nat.blt j 18 then (bif Nat.beq j 17 then 0 else 0) else (bif Nat.beq j 18 then 0 else 0)))))) else 0) else (bif Nat.beq k 1 then (bif Nat.blt j 2 then (bif Nat.blt j 1 then (bif Nat.beq j 0 then 0 else 0) else (bif Nat.beq j 1 then 2 else 0)) else (bif Nat.blt j 3 then (bif Nat.beq j 2 then 0 else 0) else (bif Nat.beq j 3 then 0 else 0))) else 0)) else (bif Nat.blt k 3 then (bif Nat.beq k 2 then (bif Nat.blt j 6 then (bif Nat.blt j 3 then (bif Nat.blt j 1 then (bif Nat.beq j 0 then 2 else 0) else (bif Nat.blt j 2 then (bif Nat.beq j 1 then 3 else 0) else (bif Nat.beq j 2 then 0 else 0))) else (bif Nat.blt j 4 then (bif Nat.beq j 3 then 0 else 0) else (bif Nat.blt j 5 then (bif Nat.beq j 4 then 0 else 0) else (bif Nat.beq j 5 then 1 else 0)))) else (bif Nat.blt j 9 then (bif Nat.blt j 7 then (bif Nat.beq j 6 then 3 else 0) else (bif Nat.blt j 8 then (bif Nat.beq j 7 then 0 else 0) else (bif Nat.beq j 8 then 2 else 0))) else (bif Nat.blt j 10 then (bif Nat.beq j 9 then 2 else 0) else (bif Nat.blt j 11 then (bif Nat.beq j 10 then 2 else 0) else (bif Nat.beq j 11 then 2 else 0))))) else 0) else (bif Nat.beq k 3 then (bif Nat.blt j 10 then (bif Nat.blt j 5 then (bif Nat.blt j 2 then (bif Nat.blt j 1 then (bif Nat.beq j 0 then 0 else 0) else (bif Nat.beq j 1 then 0 else 0)) else (bif Nat.blt j 3 then (bif Nat.beq j 2 then 0 else 0) else (bif Nat.blt j 4 then (bif Nat.beq j 3 then 2 else 0) else (bif Nat.beq j 4 then 2 else 0)))) else (bif Nat.blt j 7 then (bif Nat.blt j 6 then (bif Nat.beq j 5 then 2 else 0) else (bif Nat.beq j 6 then 2 else 0)) else (bif Nat.blt j 8 then (bif Nat.beq j 7 then 2 else 0) else (bif Nat.blt j 9 then (bif Nat.beq j 8 then 2 else 0) else (bif Nat.beq j 9 then 2 else 0))))) else (bif Nat.blt j 15 then (bif Nat.blt j 12 then (bif Nat.blt j 11 then (bif Nat.beq j 10 then 2 else 0) else (bif Nat.beq j 11 then 2 else 0)) else (bif Nat.blt j 13 then (bif Nat.beq j 12 then 2 else 0) else (bif Nat.blt j 14 then (bif Nat.beq j 13 then 2 else 0) else (bif Nat.beq j 14 then 2 else 0)))) else (bif Nat.blt j 17 then (bif Nat.blt j 16 then (bif Nat.beq j 15 then 2 else 0) else (bif Nat.beq j 16 then 2 else 0)) else (bif Nat.blt j 18 then (bif Nat.beq j 17 then 2 else 0) else (bif Nat.blt j 19 then (bif Nat.beq j 18 then 2 else 0) else (bif Nat.beq j 19 then 2 else 0)))))) else 0))) else (bif Nat.blt k 6 then (bif Nat.blt k 5 then (bif Nat.beq k 4 then (bif Nat.blt j 1 then (bif Nat.beq j 0 then 2 else 0) else (bif Nat.blt j 2 then (bif Nat.beq j 1 then 2 else 0) else (bif Nat.beq j 2 then 2 else 0))) else 0) else (bif Nat.beq k 5 then (bif Nat.blt j 1 then (bif Nat.beq j 0 then 2 else 0) else (bif Nat.beq j 1 then 0 else 0)) else 0)) else (bif Nat.blt k 7 then (bif Nat.beq k 6 then (bif Nat.blt j 1 then (bif Nat.beq j 0 then 2 else 0) else (bif Nat.beq j 1 then 0 else 0)) else 0) else (bif Nat.blt k 8 then (bif Nat.beq k 7 then (bif Nat.blt j 5 then (bif Nat.blt j 2 then (bif Nat.blt j 1 then (bif Nat.beq j 0 then 2 else 0) else (bif Nat.beq j 1 then 2 else 0)) else (bif Nat.blt j 3 then (bif Nat.beq j 2 then 2 else 0) else (bif Nat.blt j 4 then (bif Nat.beq j 3 then 2 else 0) else (bif Nat.beq j 4 then 2 else 0)))) else (bif Nat.blt j 7 then (bif Nat.blt j 6 then (bif Nat.beq j 5 then 2 else 0) else (bif Nat.beq j 6 then 2 else 0)) else (bif Nat.blt j 8 then (bif Nat.beq j 7 then 4 else 0) else (bif Nat.blt j 9 then (bif Nat.beq j 8 then 3 else 0) else (bif Nat.beq j 9 then 3 else 0))))) else 0) else (bif Nat.beq k 8 then (bif Nat.blt j 18 then (bif Nat.blt j 9 then (bif Nat.blt j 4 then (bif Nat.blt j 2 then (bif Nat.blt j 1 then (bif Nat.beq j 0 then 2 else 0) else (bif Nat.beq j 1 then 0 else 0)) else (bif Nat.blt j 3 then (bif Nat.beq j 2 then 0 else 0) else (bif Nat.beq j 3 then 2 else 0))) else (bif Nat.blt j 6 then (bif Nat.blt j 5 then (bif Nat.beq j 4 then 2 else 0) else (bif Nat.beq j 5 then 2 else 0)) else (bif Nat.blt j 7 then (bif Nat.beq j 6 then 2 else 0) else (bif Nat.blt j 8 then (bif Nat.beq j 7 then 2 else 0) else (bif Nat.beq j 8 then 2 else 0))))) else (bif Nat.blt j 13 then (bif Nat.blt j 11 then (bif Nat.blt j 10 then (bif Nat.beq j 9 then 2 else 0) else (bif Nat.beq j 10 then 2 else 0)) else (bif Nat.blt j 12 then (bif Nat.beq j 11 then 2 else 0) else (bif Nat.beq j 12 then 2 else 0))) else (bif Nat.blt j 15 then (bif Nat.blt j 14 then (bif Nat.beq j 13 then 2 else 0) else (bif Nat.beq j 14 then 2 else 0)) else (bif Nat.blt j 16 then (bif Nat.beq j 15 then 2 else 0) else (bif Nat.blt j 17 then (bif Nat.beq j 16 then 2 else 0) else (bif Nat.beq j 17 then 2 else 0)))))) else (bif Nat.blt j 27 then (bif Nat.blt j 22 then (bif Nat.blt j 20 then (bif Nat.blt j 19 then (bif Nat.beq j 18 then 0 else 0) else (bif Nat.beq j 19 then 2 else 0)) else (bif Nat.blt j 21 then (bif Nat.beq j 20 then 2 else 0) else (bif Nat.beq j 21 then 0 else 0))) else (bif Nat.blt j 24 then (bif Nat.blt j 23 then (bif Nat.beq j 22 then 0 else 0) else (bif Nat.beq j 23 then 0 else 0)) else (bif Nat.blt j 25 then (bif Nat.beq j 24 then 0 else 0) else (bif Nat.blt j 26 then (bif Nat.beq j 25 then 0 else 0) else (bif Nat.beq j 26 then 1 else 0))))) else (bif Nat.blt j 32 then (bif Nat.blt j 29 then (bif Nat.blt j 28 then (bif Nat.beq j 27 then 0 else 0) else (bif Nat.beq j 28 then 0 else 0)) else (bif Nat.blt j 30 then (bif Nat.beq j 29 then 0 else 0) else (bif Nat.blt j 31 then (bif Nat.beq j 30 then 0 else 0) else (bif Nat.beq j 31 then 0 else 0)))) else (bif Nat.blt j 34 then (bif Nat.blt j 33 then (bif Nat.beq j 32 then 2 else 0) else (bif Nat.beq j 33 then 0 else 0)) else (bif Nat.blt j 35 then (bif Nat.beq j 34 then 2 else 0) else (bif Nat.blt j 36 then (bif Nat.beq j 35 then 2 else 0) else (bif Nat.beq j 36 then 2 else 0))))))) else 0))))
