section
/-- a private method of a class that the tables say can be made, by its rows of tables_1 -/
def lw_okq (q : MethodName × Nat) : Prop := (q.1.cls ≠ "java/lang/invoke/MethodHandle" ∧ q.1.cls ≠ "java/lang/invoke/VarHandle") ∧ Cond.instantiable q.1.cls q.2 ∈ tables_1 ∧ Cond.privateMethod q.1 ∈ tables_1 ∧ Cond.instanceMethod q.1 ∈ tables_1
theorem lw_p0 : lw_okq (⟨"PatchDesk", "numberRead", "(III)J"⟩, 14) := ⟨⟨by decide +kernel, by decide +kernel⟩, List.mem_of_getElem? (i := 14) (by decide +kernel), List.mem_of_getElem? (i := 341) (by decide +kernel), List.mem_of_getElem? (i := 342) (by decide +kernel)⟩
theorem lw_p1 : lw_okq (⟨"PatchDesk", "refuse", "(III)I"⟩, 14) := ⟨⟨by decide +kernel, by decide +kernel⟩, List.mem_of_getElem? (i := 14) (by decide +kernel), List.mem_of_getElem? (i := 425) (by decide +kernel), List.mem_of_getElem? (i := 426) (by decide +kernel)⟩
theorem lw_p2 : lw_okq (⟨"PatchDesk", "appliedError", "(I)I"⟩, 14) := ⟨⟨by decide +kernel, by decide +kernel⟩, List.mem_of_getElem? (i := 14) (by decide +kernel), List.mem_of_getElem? (i := 467) (by decide +kernel), List.mem_of_getElem? (i := 468) (by decide +kernel)⟩
theorem lw_p3 : lw_okq (⟨"PatchDesk", "isPatch", "(I)Z"⟩, 14) := ⟨⟨by decide +kernel, by decide +kernel⟩, List.mem_of_getElem? (i := 14) (by decide +kernel), List.mem_of_getElem? (i := 471) (by decide +kernel), List.mem_of_getElem? (i := 472) (by decide +kernel)⟩
theorem lw_p4 : lw_okq (⟨"PatchDesk", "isApplied", "(I)Z"⟩, 14) := ⟨⟨by decide +kernel, by decide +kernel⟩, List.mem_of_getElem? (i := 14) (by decide +kernel), List.mem_of_getElem? (i := 475) (by decide +kernel), List.mem_of_getElem? (i := 476) (by decide +kernel)⟩
theorem lw_p5 : lw_okq (⟨"PatchDesk", "carryOut", "()I"⟩, 14) := ⟨⟨by decide +kernel, by decide +kernel⟩, List.mem_of_getElem? (i := 14) (by decide +kernel), List.mem_of_getElem? (i := 491) (by decide +kernel), List.mem_of_getElem? (i := 492) (by decide +kernel)⟩
theorem lw_p6 : lw_okq (⟨"PatchDesk", "rearranged", "(I)I"⟩, 14) := ⟨⟨by decide +kernel, by decide +kernel⟩, List.mem_of_getElem? (i := 14) (by decide +kernel), List.mem_of_getElem? (i := 495) (by decide +kernel), List.mem_of_getElem? (i := 496) (by decide +kernel)⟩
theorem lw_p7 : lw_okq (⟨"PatchDesk", "elementError", "(II)I"⟩, 14) := ⟨⟨by decide +kernel, by decide +kernel⟩, List.mem_of_getElem? (i := 14) (by decide +kernel), List.mem_of_getElem? (i := 532) (by decide +kernel), List.mem_of_getElem? (i := 533) (by decide +kernel)⟩
theorem lw_p8 : lw_okq (⟨"PatchDesk", "allDifferences", "(LPatchDesk$Values;LPatchDesk$Values;)I"⟩, 14) := ⟨⟨by decide +kernel, by decide +kernel⟩, List.mem_of_getElem? (i := 14) (by decide +kernel), List.mem_of_getElem? (i := 583) (by decide +kernel), List.mem_of_getElem? (i := 584) (by decide +kernel)⟩
theorem lw_p9 : lw_okq (⟨"PatchDesk", "differences", "(ILPatchDesk$Values;LPatchDesk$Values;)I"⟩, 14) := ⟨⟨by decide +kernel, by decide +kernel⟩, List.mem_of_getElem? (i := 14) (by decide +kernel), List.mem_of_getElem? (i := 588) (by decide +kernel), List.mem_of_getElem? (i := 589) (by decide +kernel)⟩
theorem lw_p10 : lw_okq (⟨"PatchDesk", "appliedChanges", "()I"⟩, 14) := ⟨⟨by decide +kernel, by decide +kernel⟩, List.mem_of_getElem? (i := 14) (by decide +kernel), List.mem_of_getElem? (i := 593) (by decide +kernel), List.mem_of_getElem? (i := 594) (by decide +kernel)⟩
theorem lw_p11 : lw_okq (⟨"PatchDesk", "deadChanges", "()I"⟩, 14) := ⟨⟨by decide +kernel, by decide +kernel⟩, List.mem_of_getElem? (i := 14) (by decide +kernel), List.mem_of_getElem? (i := 597) (by decide +kernel), List.mem_of_getElem? (i := 598) (by decide +kernel)⟩
theorem lw_p12 : lw_okq (⟨"PatchDesk", "isInUse", "(I)Z"⟩, 14) := ⟨⟨by decide +kernel, by decide +kernel⟩, List.mem_of_getElem? (i := 14) (by decide +kernel), List.mem_of_getElem? (i := 622) (by decide +kernel), List.mem_of_getElem? (i := 623) (by decide +kernel)⟩
def lw_privs_1 : List (MethodName × Nat) := [(⟨"PatchDesk", "numberRead", "(III)J"⟩, 14), (⟨"PatchDesk", "refuse", "(III)I"⟩, 14), (⟨"PatchDesk", "appliedError", "(I)I"⟩, 14), (⟨"PatchDesk", "isPatch", "(I)Z"⟩, 14), (⟨"PatchDesk", "isApplied", "(I)Z"⟩, 14), (⟨"PatchDesk", "carryOut", "()I"⟩, 14), (⟨"PatchDesk", "rearranged", "(I)I"⟩, 14), (⟨"PatchDesk", "elementError", "(II)I"⟩, 14), (⟨"PatchDesk", "allDifferences", "(LPatchDesk$Values;LPatchDesk$Values;)I"⟩, 14), (⟨"PatchDesk", "differences", "(ILPatchDesk$Values;LPatchDesk$Values;)I"⟩, 14), (⟨"PatchDesk", "appliedChanges", "()I"⟩, 14), (⟨"PatchDesk", "deadChanges", "()I"⟩, 14), (⟨"PatchDesk", "isInUse", "(I)Z"⟩, 14)]
theorem lw_r1 : ∀ q ∈ lw_privs_1, lw_okq q := List.forall_mem_cons.mpr ⟨lw_p0, List.forall_mem_cons.mpr ⟨lw_p1, List.forall_mem_cons.mpr ⟨lw_p2, List.forall_mem_cons.mpr ⟨lw_p3, List.forall_mem_cons.mpr ⟨lw_p4, List.forall_mem_cons.mpr ⟨lw_p5, List.forall_mem_cons.mpr ⟨lw_p6, List.forall_mem_cons.mpr ⟨lw_p7, List.forall_mem_cons.mpr ⟨lw_p8, List.forall_mem_cons.mpr ⟨lw_p9, List.forall_mem_cons.mpr ⟨lw_p10, List.forall_mem_cons.mpr ⟨lw_p11, List.forall_mem_cons.mpr ⟨lw_p12, fun _ h => absurd h List.not_mem_nil⟩⟩⟩⟩⟩⟩⟩⟩⟩⟩⟩⟩⟩
def lw_privs : List (MethodName × Nat) := lw_privs_1
def lw_tbl : List Cond := k2_sels lw_privs ++ tables_1
theorem lw_privs_ok : ∀ q ∈ lw_privs, lw_okq q := lw_r1
end
section
def RX0 : String := "PatchDesk$Book"
def TX0 : u_T := fun k => match k with
  | 0 => ("PatchDesk$Book", "changes", "[LPatchDesk$Change;", true)
  | 1 => ("PatchDesk$Book", "lengths", "[I", true)
  | _ => ("PatchDesk$Book", "patchCount", "I", false)
def tyX0 : Nat → FieldType := fun k => match k with
  | 0 => .array (.object "PatchDesk$Change")
  | 1 => .array .int
  | _ => .int
theorem nmX0 : ∀ a, a < 3 → ∀ b, b < 3 → a ≠ b → (TX0 a).2.1 ≠ (TX0 b).2.1 := by decide +kernel
theorem tyX0_ok : ∀ k, k < 3 → parseFieldDescriptor (TX0 k).2.2.1 = some (tyX0 k) := by decide +kernel
abbrev cX0_init : ByteArray := prog_2_method_1_code
def yX0_init : MethodName := ⟨RX0, "<init>", "()V"⟩
abbrev cX0_nextOfDraft : ByteArray := prog_2_method_2_code
def yX0_nextOfDraft : MethodName := ⟨RX0, "nextOfDraft", "()LPatchDesk$Change;"⟩
abbrev cX0_makePatchOfDraft : ByteArray := prog_2_method_3_code
def yX0_makePatchOfDraft : MethodName := ⟨RX0, "makePatchOfDraft", "()I"⟩
abbrev cX0_removeChanges : ByteArray := prog_2_method_4_code
def yX0_removeChanges : MethodName := ⟨RX0, "removeChanges", "(II)I"⟩
abbrev cX0_touches : ByteArray := prog_2_method_5_code
def yX0_touches : MethodName := ⟨RX0, "touches", "(II)Z"⟩
def RX1 : String := "PatchDesk$Change"
def TX1 : u_T := fun k => match k with
  | 0 => ("PatchDesk$Change", "from", "I", false)
  | 1 => ("PatchDesk$Change", "fromIndex", "I", false)
  | 2 => ("PatchDesk$Change", "way", "I", false)
  | 3 => ("PatchDesk$Change", "to", "I", false)
  | 4 => ("PatchDesk$Change", "toIndex", "I", false)
  | _ => ("PatchDesk$Change", "value", "I", false)
def tyX1 : Nat → FieldType := fun k => match k with
  | 0 => .int
  | 1 => .int
  | 2 => .int
  | 3 => .int
  | 4 => .int
  | _ => .int
theorem nmX1 : ∀ a, a < 6 → ∀ b, b < 6 → a ≠ b → (TX1 a).2.1 ≠ (TX1 b).2.1 := by decide +kernel
theorem tyX1_ok : ∀ k, k < 6 → parseFieldDescriptor (TX1 k).2.2.1 = some (tyX1 k) := by decide +kernel
abbrev cX1_init : ByteArray := prog_3_method_1_code
def yX1_init : MethodName := ⟨RX1, "<init>", "()V"⟩
abbrev cX1_become : ByteArray := prog_3_method_2_code
def yX1_become : MethodName := ⟨RX1, "become", "(IIIIII)V"⟩
abbrev cX1_becomeLike : ByteArray := prog_3_method_3_code
def yX1_becomeLike : MethodName := ⟨RX1, "becomeLike", "(LPatchDesk$Change;)V"⟩
abbrev cX1_isCopy : ByteArray := prog_3_method_4_code
def yX1_isCopy : MethodName := ⟨RX1, "isCopy", "()Z"⟩
def RX2 : String := "PatchDesk$Run"
def TX2 : u_T := fun k => match k with
  | 0 => ("PatchDesk$Run", "shelf", "LPatchDesk$Shelf;", true)
  | 1 => ("PatchDesk$Run", "book", "LPatchDesk$Book;", true)
  | 2 => ("PatchDesk$Run", "order", "LPatchDesk$Sequence;", true)
  | 3 => ("PatchDesk$Run", "cells", "LPatchDesk$Values;", true)
  | 4 => ("PatchDesk$Run", "writers", "[I", true)
  | 5 => ("PatchDesk$Run", "needed", "[Z", true)
  | 6 => ("PatchDesk$Run", "before", "LPatchDesk$Values;", true)
  | 7 => ("PatchDesk$Run", "after", "LPatchDesk$Values;", true)
  | 8 => ("PatchDesk$Run", "sources", "[I", true)
  | 9 => ("PatchDesk$Run", "deadSets", "[I", true)
  | 10 => ("PatchDesk$Run", "finding", "I", false)
  | 11 => ("PatchDesk$Run", "failedPatch", "I", false)
  | 12 => ("PatchDesk$Run", "failedChange", "I", false)
  | 13 => ("PatchDesk$Run", "readWay", "I", false)
  | 14 => ("PatchDesk$Run", "readFinding", "I", false)
  | 15 => ("PatchDesk$Run", "writeWay", "I", false)
  | 16 => ("PatchDesk$Run", "writeFinding", "I", false)
  | 17 => ("PatchDesk$Run", "heldType", "I", false)
  | _ => ("PatchDesk$Run", "heldNumber", "J", false)
def tyX2 : Nat → FieldType := fun k => match k with
  | 0 => .object "PatchDesk$Shelf"
  | 1 => .object "PatchDesk$Book"
  | 2 => .object "PatchDesk$Sequence"
  | 3 => .object "PatchDesk$Values"
  | 4 => .array .int
  | 5 => .array .boolean
  | 6 => .object "PatchDesk$Values"
  | 7 => .object "PatchDesk$Values"
  | 8 => .array .int
  | 9 => .array .int
  | 10 => .int
  | 11 => .int
  | 12 => .int
  | 13 => .int
  | 14 => .int
  | 15 => .int
  | 16 => .int
  | 17 => .int
  | _ => .long
theorem nmX2 : ∀ a, a < 19 → ∀ b, b < 19 → a ≠ b → (TX2 a).2.1 ≠ (TX2 b).2.1 := by decide +kernel
theorem tyX2_ok : ∀ k, k < 19 → parseFieldDescriptor (TX2 k).2.2.1 = some (tyX2 k) := by decide +kernel
abbrev cX2_init : ByteArray := prog_4_method_1_code
def yX2_init : MethodName := ⟨RX2, "<init>", "(LPatchDesk$Shelf;LPatchDesk$Book;)V"⟩
abbrev cX2_standLike : ByteArray := prog_4_method_2_code
def yX2_standLike : MethodName := ⟨RX2, "standLike", "(LPatchDesk$Run;)V"⟩
abbrev cX2_play : ByteArray := prog_4_method_3_code
def yX2_play : MethodName := ⟨RX2, "play", "()V"⟩
abbrev cX2_step : ByteArray := prog_4_method_4_code
def yX2_step : MethodName := ⟨RX2, "step", "(II)I"⟩
abbrev cX2_pickUp : ByteArray := prog_4_method_5_code
def yX2_pickUp : MethodName := ⟨RX2, "pickUp", "(LPatchDesk$Change;I)V"⟩
abbrev cX2_putDown : ByteArray := prog_4_method_6_code
def yX2_putDown : MethodName := ⟨RX2, "putDown", "(LPatchDesk$Change;I)V"⟩
abbrev cX2_markDead : ByteArray := prog_4_method_7_code
def yX2_markDead : MethodName := ⟨RX2, "markDead", "()V"⟩
abbrev cX2_isNeeded : ByteArray := prog_4_method_8_code
def yX2_isNeeded : MethodName := ⟨RX2, "isNeeded", "(LPatchDesk$Change;)Z"⟩
abbrev cX2_dependents : ByteArray := prog_4_method_9_code
def yX2_dependents : MethodName := ⟨RX2, "dependents", "(I)I"⟩
abbrev cX2_readsFrom : ByteArray := prog_4_method_10_code
def yX2_readsFrom : MethodName := ⟨RX2, "readsFrom", "(II)Z"⟩
abbrev cX2_movedFrom : ByteArray := prog_4_method_11_code
def yX2_movedFrom : MethodName := ⟨RX2, "movedFrom", "(LPatchDesk$Run;)I"⟩
abbrev cX2_unchangedAfter : ByteArray := prog_4_method_12_code
def yX2_unchangedAfter : MethodName := ⟨RX2, "unchangedAfter", "(I)I"⟩
abbrev cX2_lastChangeOf : ByteArray := prog_4_method_13_code
def yX2_lastChangeOf : MethodName := ⟨RX2, "lastChangeOf", "(II)I"⟩
def RX3 : String := "PatchDesk$Script"
def TX3 : u_T := fun k => match k with
  | 0 => ("PatchDesk$Script", "bytes", "[I", true)
  | _ => ("PatchDesk$Script", "length", "I", false)
def tyX3 : Nat → FieldType := fun k => match k with
  | 0 => .array .int
  | _ => .int
theorem nmX3 : ∀ a, a < 2 → ∀ b, b < 2 → a ≠ b → (TX3 a).2.1 ≠ (TX3 b).2.1 := by decide +kernel
theorem tyX3_ok : ∀ k, k < 2 → parseFieldDescriptor (TX3 k).2.2.1 = some (tyX3 k) := by decide +kernel
abbrev cX3_init : ByteArray := prog_5_method_1_code
def yX3_init : MethodName := ⟨RX3, "<init>", "()V"⟩
def RX4 : String := "PatchDesk$Sequence"
def TX4 : u_T := fun k => match k with
  | 0 => ("PatchDesk$Sequence", "items", "[I", true)
  | _ => ("PatchDesk$Sequence", "length", "I", false)
def tyX4 : Nat → FieldType := fun k => match k with
  | 0 => .array .int
  | _ => .int
theorem nmX4 : ∀ a, a < 2 → ∀ b, b < 2 → a ≠ b → (TX4 a).2.1 ≠ (TX4 b).2.1 := by decide +kernel
theorem tyX4_ok : ∀ k, k < 2 → parseFieldDescriptor (TX4 k).2.2.1 = some (tyX4 k) := by decide +kernel
abbrev cX4_init : ByteArray := prog_6_method_1_code
def yX4_init : MethodName := ⟨RX4, "<init>", "()V"⟩
abbrev cX4_append : ByteArray := prog_6_method_2_code
def yX4_append : MethodName := ⟨RX4, "append", "(I)V"⟩
abbrev cX4_indexOf : ByteArray := prog_6_method_3_code
def yX4_indexOf : MethodName := ⟨RX4, "indexOf", "(I)I"⟩
abbrev cX4_remove : ByteArray := prog_6_method_4_code
def yX4_remove : MethodName := ⟨RX4, "remove", "(I)V"⟩
abbrev cX4_becomeLike : ByteArray := prog_6_method_5_code
def yX4_becomeLike : MethodName := ⟨RX4, "becomeLike", "(LPatchDesk$Sequence;)V"⟩
def RX5 : String := "PatchDesk$Shelf"
def TX5 : u_T := fun k => match k with
  | 0 => ("PatchDesk$Shelf", "kinds", "[I", true)
  | 1 => ("PatchDesk$Shelf", "sizes", "[I", true)
  | _ => ("PatchDesk$Shelf", "base", "LPatchDesk$Values;", true)
def tyX5 : Nat → FieldType := fun k => match k with
  | 0 => .array .int
  | 1 => .array .int
  | _ => .object "PatchDesk$Values"
theorem nmX5 : ∀ a, a < 3 → ∀ b, b < 3 → a ≠ b → (TX5 a).2.1 ≠ (TX5 b).2.1 := by decide +kernel
theorem tyX5_ok : ∀ k, k < 3 → parseFieldDescriptor (TX5 k).2.2.1 = some (tyX5 k) := by decide +kernel
abbrev cX5_init : ByteArray := prog_7_method_1_code
def yX5_init : MethodName := ⟨RX5, "<init>", "()V"⟩
abbrev cX5_place : ByteArray := prog_7_method_2_code
def yX5_place : MethodName := ⟨RX5, "place", "(III)V"⟩
abbrev cX5_arrayFinding : ByteArray := prog_7_method_3_code
def yX5_arrayFinding : MethodName := ⟨RX5, "arrayFinding", "(I)I"⟩
abbrev cX5_elementFinding : ByteArray := prog_7_method_4_code
def yX5_elementFinding : MethodName := ⟨RX5, "elementFinding", "(II)I"⟩
abbrev cX5_indexFinding : ByteArray := prog_7_method_5_code
def yX5_indexFinding : MethodName := ⟨RX5, "indexFinding", "(II)I"⟩
abbrev cX5_readingFinding : ByteArray := prog_7_method_6_code
def yX5_readingFinding : MethodName := ⟨RX5, "readingFinding", "(III)I"⟩
abbrev cX5_writingFinding : ByteArray := prog_7_method_7_code
def yX5_writingFinding : MethodName := ⟨RX5, "writingFinding", "(III)I"⟩
abbrev cX5_takes : ByteArray := prog_7_method_8_code
def yX5_takes : MethodName := ⟨RX5, "takes", "(II)Z"⟩
def RX6 : String := "PatchDesk$Tally"
def TX6 : u_T := fun k => match k with
  | _ => ("PatchDesk$Tally", "counts", "[I", true)
def tyX6 : Nat → FieldType := fun k => match k with
  | _ => .array .int
theorem nmX6 : ∀ a, a < 1 → ∀ b, b < 1 → a ≠ b → (TX6 a).2.1 ≠ (TX6 b).2.1 := by decide +kernel
theorem tyX6_ok : ∀ k, k < 1 → parseFieldDescriptor (TX6 k).2.2.1 = some (tyX6 k) := by decide +kernel
abbrev cX6_init : ByteArray := prog_8_method_1_code
def yX6_init : MethodName := ⟨RX6, "<init>", "()V"⟩
abbrev cX6_add : ByteArray := prog_8_method_2_code
def yX6_add : MethodName := ⟨RX6, "add", "(II)V"⟩
abbrev cX6_addStep : ByteArray := prog_8_method_3_code
def yX6_addStep : MethodName := ⟨RX6, "addStep", "(LPatchDesk$Run;)V"⟩
def RX7 : String := "PatchDesk$Tape"
def TX7 : u_T := fun k => match k with
  | 0 => ("PatchDesk$Tape", "bytes", "[I", true)
  | 1 => ("PatchDesk$Tape", "parsed", "LPatchDesk$Change;", true)
  | 2 => ("PatchDesk$Tape", "length", "I", false)
  | 3 => ("PatchDesk$Tape", "at", "I", false)
  | 4 => ("PatchDesk$Tape", "passed", "I", false)
  | 5 => ("PatchDesk$Tape", "number", "I", false)
  | _ => ("PatchDesk$Tape", "changesPassed", "I", false)
def tyX7 : Nat → FieldType := fun k => match k with
  | 0 => .array .int
  | 1 => .object "PatchDesk$Change"
  | 2 => .int
  | 3 => .int
  | 4 => .int
  | 5 => .int
  | _ => .int
theorem nmX7 : ∀ a, a < 7 → ∀ b, b < 7 → a ≠ b → (TX7 a).2.1 ≠ (TX7 b).2.1 := by decide +kernel
theorem tyX7_ok : ∀ k, k < 7 → parseFieldDescriptor (TX7 k).2.2.1 = some (tyX7 k) := by decide +kernel
abbrev cX7_init : ByteArray := prog_9_method_1_code
def yX7_init : MethodName := ⟨RX7, "<init>", "()V"⟩
def RX8 : String := "PatchDesk$Values"
def TX8 : u_T := fun k => match k with
  | 0 => ("PatchDesk$Values", "types", "[I", true)
  | _ => ("PatchDesk$Values", "numbers", "[J", true)
def tyX8 : Nat → FieldType := fun k => match k with
  | 0 => .array .int
  | _ => .array .long
theorem nmX8 : ∀ a, a < 2 → ∀ b, b < 2 → a ≠ b → (TX8 a).2.1 ≠ (TX8 b).2.1 := by decide +kernel
theorem tyX8_ok : ∀ k, k < 2 → parseFieldDescriptor (TX8 k).2.2.1 = some (tyX8 k) := by decide +kernel
abbrev cX8_init : ByteArray := prog_10_method_1_code
def yX8_init : MethodName := ⟨RX8, "<init>", "(I)V"⟩
abbrev cX8_put : ByteArray := prog_10_method_2_code
def yX8_put : MethodName := ⟨RX8, "put", "(IIJ)V"⟩
abbrev cX8_isAt : ByteArray := prog_10_method_3_code
def yX8_isAt : MethodName := ⟨RX8, "isAt", "(IIJ)Z"⟩
abbrev cX8_equalAt : ByteArray := prog_10_method_4_code
def yX8_equalAt : MethodName := ⟨RX8, "equalAt", "(ILPatchDesk$Values;)Z"⟩
abbrev cX8_becomeLike : ByteArray := prog_10_method_5_code
def yX8_becomeLike : MethodName := ⟨RX8, "becomeLike", "(LPatchDesk$Values;)V"⟩
def RX9 : String := "PatchDesk"
def TX9 : u_T := fun k => match k with
  | 0 => ("PatchDesk", "shelf", "LPatchDesk$Shelf;", true)
  | 1 => ("PatchDesk", "book", "LPatchDesk$Book;", true)
  | 2 => ("PatchDesk", "tape", "LPatchDesk$Tape;", true)
  | 3 => ("PatchDesk", "script", "LPatchDesk$Script;", true)
  | 4 => ("PatchDesk", "tally", "LPatchDesk$Tally;", true)
  | 5 => ("PatchDesk", "undone", "LPatchDesk$Sequence;", true)
  | 6 => ("PatchDesk", "versions", "[LPatchDesk$Sequence;", true)
  | 7 => ("PatchDesk", "versionCount", "I", false)
  | 8 => ("PatchDesk", "now", "LPatchDesk$Run;", false)
  | 9 => ("PatchDesk", "trial", "LPatchDesk$Run;", false)
  | 10 => ("PatchDesk", "rival", "LPatchDesk$Run;", true)
  | 11 => ("PatchDesk", "faultPatch", "I", false)
  | 12 => ("PatchDesk", "faultChange", "I", false)
  | _ => ("PatchDesk", "faultFinding", "I", false)
def tyX9 : Nat → FieldType := fun k => match k with
  | 0 => .object "PatchDesk$Shelf"
  | 1 => .object "PatchDesk$Book"
  | 2 => .object "PatchDesk$Tape"
  | 3 => .object "PatchDesk$Script"
  | 4 => .object "PatchDesk$Tally"
  | 5 => .object "PatchDesk$Sequence"
  | 6 => .array (.object "PatchDesk$Sequence")
  | 7 => .int
  | 8 => .object "PatchDesk$Run"
  | 9 => .object "PatchDesk$Run"
  | 10 => .object "PatchDesk$Run"
  | 11 => .int
  | 12 => .int
  | _ => .int
theorem nmX9 : ∀ a, a < 14 → ∀ b, b < 14 → a ≠ b → (TX9 a).2.1 ≠ (TX9 b).2.1 := by decide +kernel
theorem tyX9_ok : ∀ k, k < 14 → parseFieldDescriptor (TX9 k).2.2.1 = some (tyX9 k) := by decide +kernel
abbrev cX9_init : ByteArray := prog_1_method_1_code
def yX9_init : MethodName := ⟨RX9, "<init>", "()V"⟩
abbrev cX9_row : ByteArray := prog_1_method_2_code
def yX9_row : MethodName := ⟨RX9, "row", "(III)I"⟩
abbrev cX9_get : ByteArray := prog_1_method_6_code
def yX9_get : MethodName := ⟨RX9, "get", "(III)J"⟩
abbrev cX9_what : ByteArray := prog_1_method_7_code
def yX9_what : MethodName := ⟨RX9, "what", "(II)I"⟩
abbrev cX9_change : ByteArray := prog_1_method_10_code
def yX9_change : MethodName := ⟨RX9, "change", "(IIII)I"⟩
abbrev cX9_move : ByteArray := prog_1_method_11_code
def yX9_move : MethodName := ⟨RX9, "move", "(IIIII)I"⟩
abbrev cX9_drop : ByteArray := prog_1_method_12_code
def yX9_drop : MethodName := ⟨RX9, "drop", "()I"⟩
abbrev cX9_lay : ByteArray := prog_1_method_19_code
def yX9_lay : MethodName := ⟨RX9, "lay", "()I"⟩
abbrev cX9_undo : ByteArray := prog_1_method_20_code
def yX9_undo : MethodName := ⟨RX9, "undo", "()I"⟩
abbrev cX9_out : ByteArray := prog_1_method_23_code
def yX9_out : MethodName := ⟨RX9, "out", "(I)I"⟩
abbrev cX9_with : ByteArray := prog_1_method_26_code
def yX9_with : MethodName := ⟨RX9, "with", "(I)I"⟩
abbrev cX9_hangs : ByteArray := prog_1_method_27_code
def yX9_hangs : MethodName := ⟨RX9, "hangs", "(I)I"⟩
abbrev cX9_without : ByteArray := prog_1_method_28_code
def yX9_without : MethodName := ⟨RX9, "without", "(III)J"⟩
abbrev cX9_trace : ByteArray := prog_1_method_29_code
def yX9_trace : MethodName := ⟨RX9, "trace", "(III)J"⟩
abbrev cX9_prune : ByteArray := prog_1_method_31_code
def yX9_prune : MethodName := ⟨RX9, "prune", "()I"⟩
abbrev cX9_blame : ByteArray := prog_1_method_33_code
def yX9_blame : MethodName := ⟨RX9, "blame", "(II)I"⟩
abbrev cX9_since : ByteArray := prog_1_method_34_code
def yX9_since : MethodName := ⟨RX9, "since", "(II)I"⟩
abbrev cX9_settle : ByteArray := prog_1_method_35_code
def yX9_settle : MethodName := ⟨RX9, "settle", "()I"⟩
abbrev cX9_fault : ByteArray := prog_1_method_39_code
def yX9_fault : MethodName := ⟨RX9, "fault", "(I)I"⟩
abbrev cX9_count : ByteArray := prog_1_method_41_code
def yX9_count : MethodName := ⟨RX9, "count", "(I)I"⟩
abbrev cX9_findingCode : ByteArray := prog_1_method_46_code
def yX9_findingCode : MethodName := ⟨RX9, "findingCode", "(I)I"⟩
abbrev cX9_longError : ByteArray := prog_1_method_47_code
def yX9_longError : MethodName := ⟨RX9, "longError", "(I)J"⟩
abbrev cX9_elementError : ByteArray := prog_1_method_48_code
def yX9_elementError : MethodName := ⟨RX9, "elementError", "(II)I"⟩
abbrev cX9_appliedError : ByteArray := prog_1_method_49_code
def yX9_appliedError : MethodName := ⟨RX9, "appliedError", "(I)I"⟩
abbrev cX9_refuse : ByteArray := prog_1_method_50_code
def yX9_refuse : MethodName := ⟨RX9, "refuse", "(III)I"⟩
abbrev cX9_isSlot : ByteArray := prog_1_method_51_code
def yX9_isSlot : MethodName := ⟨RX9, "isSlot", "(I)Z"⟩
abbrev cX9_isPatch : ByteArray := prog_1_method_52_code
def yX9_isPatch : MethodName := ⟨RX9, "isPatch", "(I)Z"⟩
abbrev cX9_isApplied : ByteArray := prog_1_method_53_code
def yX9_isApplied : MethodName := ⟨RX9, "isApplied", "(I)Z"⟩
abbrev cX9_isInUse : ByteArray := prog_1_method_55_code
def yX9_isInUse : MethodName := ⟨RX9, "isInUse", "(I)Z"⟩
abbrev cX9_appliedChanges : ByteArray := prog_1_method_56_code
def yX9_appliedChanges : MethodName := ⟨RX9, "appliedChanges", "()I"⟩
abbrev cX9_deadChanges : ByteArray := prog_1_method_57_code
def yX9_deadChanges : MethodName := ⟨RX9, "deadChanges", "()I"⟩
abbrev cX9_carryOut : ByteArray := prog_1_method_58_code
def yX9_carryOut : MethodName := ⟨RX9, "carryOut", "()I"⟩
abbrev cX9_rearranged : ByteArray := prog_1_method_59_code
def yX9_rearranged : MethodName := ⟨RX9, "rearranged", "(I)I"⟩
abbrev cX9_cellOf : ByteArray := prog_1_method_61_code
def yX9_cellOf : MethodName := ⟨RX9, "cellOf", "(II)I"⟩
abbrev cX9_stepOf : ByteArray := prog_1_method_62_code
def yX9_stepOf : MethodName := ⟨RX9, "stepOf", "(II)I"⟩
abbrev cX9_numberRead : ByteArray := prog_1_method_63_code
def yX9_numberRead : MethodName := ⟨RX9, "numberRead", "(III)J"⟩
abbrev cX9_numberAt : ByteArray := prog_1_method_64_code
def yX9_numberAt : MethodName := ⟨RX9, "numberAt", "(LPatchDesk$Values;I)J"⟩
abbrev cX9_differences : ByteArray := prog_1_method_65_code
def yX9_differences : MethodName := ⟨RX9, "differences", "(ILPatchDesk$Values;LPatchDesk$Values;)I"⟩
abbrev cX9_allDifferences : ByteArray := prog_1_method_66_code
def yX9_allDifferences : MethodName := ⟨RX9, "allDifferences", "(LPatchDesk$Values;LPatchDesk$Values;)I"⟩
abbrev cX9_widens : ByteArray := prog_1_method_67_code
def yX9_widens : MethodName := ⟨RX9, "widens", "(II)Z"⟩
abbrev cX9_widened : ByteArray := prog_1_method_68_code
def yX9_widened : MethodName := ⟨RX9, "widened", "(IJI)J"⟩
abbrev cX9_numberMade : ByteArray := prog_1_method_69_code
def yX9_numberMade : MethodName := ⟨RX9, "numberMade", "(II)J"⟩
abbrev cX9_typeWritten : ByteArray := prog_1_method_70_code
def yX9_typeWritten : MethodName := ⟨RX9, "typeWritten", "(I)I"⟩
def RX10 : String := "PatchDeskModel"
def TX10 : u_T := fun k => match k with
  | _ => ("", "", "", false)
def tyX10 : Nat → FieldType := fun k => match k with
  | _ => .int
theorem nmX10 : ∀ a, a < 0 → ∀ b, b < 0 → a ≠ b → (TX10 a).2.1 ≠ (TX10 b).2.1 := by decide +kernel
theorem tyX10_ok : ∀ k, k < 0 → parseFieldDescriptor (TX10 k).2.2.1 = some (tyX10 k) := by decide +kernel
def RJ6 : String := "java/lang/Integer"
abbrev cJ6_bitCount_0f7a4 : ByteArray := prog_13_method_49_code
def yJ6_bitCount_0f7a4 : MethodName := ⟨RJ6, "bitCount", "(I)I"⟩
def RJ9 : String := "java/lang/Math"
abbrev cJ9_min_7cf53 : ByteArray := prog_14_method_69_code
def yJ9_min_7cf53 : MethodName := ⟨RJ9, "min", "(II)I"⟩
def RL : String := "PatchDeskLaw"
abbrev cL_cell : ByteArray := method_2_code
def yL_cell : MethodName := ⟨RL, "cell", "([II)I"⟩
abbrev cL_low : ByteArray := method_3_code
def yL_low : MethodName := ⟨RL, "low", "(II)I"⟩
abbrev cL_rows : ByteArray := method_4_code
def yL_rows : MethodName := ⟨RL, "rows", "(LPatchDesk;[I[I)Z"⟩
abbrev cL_way : ByteArray := method_5_code
def yL_way : MethodName := ⟨RL, "way", "(II)I"⟩
abbrev cL_change : ByteArray := method_6_code
def yL_change : MethodName := ⟨RL, "change", "(LPatchDesk;I[I)Z"⟩
abbrev cL_draft : ByteArray := method_7_code
def yL_draft : MethodName := ⟨RL, "draft", "(LPatchDesk;[II[I)Z"⟩
abbrev cL_alike : ByteArray := method_8_code
def yL_alike : MethodName := ⟨RL, "alike", "(LPatchDesk;LPatchDesk;[I)Z"⟩
abbrev cL_size : ByteArray := method_9_code
def yL_size : MethodName := ⟨RL, "size", "(I)I"⟩
abbrev cL_lays : ByteArray := method_10_code
def yL_lays : MethodName := ⟨RL, "lays", "(LPatchDesk;[I[II)I"⟩
abbrev cL_law : ByteArray := code
def yL_law : MethodName := ⟨RL, "law", "([I)Z"⟩
abbrev vwCl : List vw_C := [(RX0, TX0, 3), (RX1, TX1, 6), (RX2, TX2, 19), (RX3, TX3, 2), (RX4, TX4, 2), (RX5, TX5, 3), (RX6, TX6, 1), (RX7, TX7, 7), (RX8, TX8, 2), (RX9, TX9, 14)]
end
section
/-! The things of one desk, by number: 0 to 229. Tag (a class by its place in vwCl; 20 ints, 21 longs, 22 booleans, 23 changes, 24 sequences, 30 the script), length. -/
def pd_l1 : List (Nat × Nat) := [(9, 0), (5, 0), (20, 6), (20, 6), (8, 0), (20, 72), (21, 72), (0, 0), (23, 150), (20, 25), (7, 0), (20, 80), (1, 0), (3, 0), (20, 167), (6, 0), (20, 108), (4, 0), (20, 24), (24, 6), (4, 0), (20, 24), (4, 0), (20, 24), (4, 0), (20, 24), (4, 0), (20, 24), (4, 0), (20, 24), (4, 0), (20, 24), (2, 0), (4, 0), (20, 24), (8, 0), (20, 72), (21, 72), (20, 72), (22, 72), (8, 0), (20, 150), (21, 150), (8, 0), (20, 150), (21, 150), (20, 150), (20, 25), (2, 0), (4, 0), (20, 24), (8, 0), (20, 72), (21, 72), (20, 72), (22, 72), (8, 0), (20, 150), (21, 150), (8, 0), (20, 150), (21, 150), (20, 150), (20, 25), (2, 0), (4, 0), (20, 24), (8, 0), (20, 72), (21, 72), (20, 72), (22, 72), (8, 0), (20, 150), (21, 150), (8, 0), (20, 150), (21, 150), (20, 150), (20, 25)]
def pd_tl (k : Nat) : Nat × Nat := cond (Nat.ble k 79) (pd_l1.getD k (99, 0)) (cond (Nat.ble k 229) (1, 0) (99, 0))
def pd_tag (k : Nat) : Nat := (pd_tl k).1
def pd_len (k : Nat) : Nat := (pd_tl k).2
/-- what a field holds: 0 an int, 1 a long (of its slot), 2 a thing beside, 3 a thing of its own place, 4 one that moves -/
def pd_fkd (c k : Nat) : Nat × Nat × Nat := ([[(2, 1, 23), (2, 2, 20), (0, 2, 0)], [(0, 0, 0), (0, 1, 0), (0, 2, 0), (0, 3, 0), (0, 4, 0), (0, 5, 0)], [(3, 1, 5), (3, 7, 0), (2, 1, 4), (2, 3, 8), (2, 6, 20), (2, 7, 22), (2, 8, 8), (2, 11, 8), (2, 14, 20), (2, 15, 20), (0, 10, 0), (0, 11, 0), (0, 12, 0), (0, 13, 0), (0, 14, 0), (0, 15, 0), (0, 16, 0), (0, 17, 0), (1, 18, 0)], [(2, 1, 20), (0, 1, 0)], [(2, 1, 20), (0, 1, 0)], [(2, 1, 20), (2, 2, 20), (2, 3, 8)], [(2, 1, 20)], [(2, 1, 20), (2, 2, 1), (0, 2, 0), (0, 3, 0), (0, 4, 0), (0, 5, 0), (0, 6, 0)], [(2, 1, 20), (2, 2, 21)], [(2, 1, 5), (2, 7, 0), (2, 10, 7), (2, 13, 3), (2, 15, 6), (2, 17, 4), (2, 19, 24), (0, 7, 0), (4, 0, 2), (4, 1, 2), (2, 64, 2), (0, 11, 0), (0, 12, 0), (0, 13, 0)], [(2, 1, 20), (2, 2, 20), (2, 3, 20), (2, 4, 21), (2, 5, 20), (2, 6, 21), (2, 7, 20), (2, 8, 22), (2, 9, 20), (2, 10, 20), (2, 11, 20), (2, 12, 20), (2, 13, 20), (2, 14, 20), (2, 15, 20), (2, 16, 21), (2, 17, 20), (2, 18, 21), (2, 19, 20), (0, 19, 0), (2, 20, 20), (0, 21, 0), (2, 21, 20), (0, 23, 0), (2, 22, 20), (0, 25, 0), (2, 23, 20), (2, 24, 20), (0, 28, 0), (2, 25, 20), (2, 26, 20), (0, 31, 0), (1, 32, 0), (0, 33, 0), (0, 34, 0), (2, 27, 20), (2, 28, 21), (0, 37, 0), (2, 29, 20), (0, 39, 0), (0, 40, 0), (0, 41, 0), (0, 42, 0), (1, 43, 0), (2, 30, 20), (0, 45, 0), (2, 31, 20), (2, 32, 22), (0, 48, 0), (2, 33, 20), (2, 34, 21)]].getD c []).getD k (9, 0, 0)
end
section
/-! The things of all, by number: 230 d + j the desk d's (d below 4), 920 the law's ints, 921 its longs, 922 the script. -/
def p4_tl (k : Nat) : Nat × Nat := cond (Nat.ble k 919) (pd_tl (k % 230)) (cond (Nat.beq k 920) (20, 20) (cond (Nat.beq k 921) (21, 24) (cond (Nat.beq k 922) (30, 0) (99, 0))))
def p4_tag (k : Nat) : Nat := (p4_tl k).1
def p4_len (k : Nat) : Nat := (p4_tl k).2
/-- where a thing's desk begins -/
def p4_bs (k : Nat) : Nat := 230 * (k / 230)
end
section
/-! The abstract machine: values, heap, one step, the limit of its runs. A reference is (tag, number of the thing). -/
abbrev pd_V : Type := (Int32 ⊕ Int64) ⊕ ((UInt32 ⊕ UInt64) ⊕ (Nat × Nat))
abbrev pd_i (x : Int32) : pd_V := .inl (.inl x)
abbrev pd_j (x : Int64) : pd_V := .inl (.inr x)
abbrev pd_f (x : UInt32) : pd_V := .inr (.inl (.inl x))
abbrev pd_d (x : UInt64) : pd_V := .inr (.inl (.inr x))
abbrev pd_r (t k : Nat) : pd_V := .inr (.inr (t, k))
/-- ints, longs, the references that move -/
abbrev pd_H : Type := (Nat → Nat → Int32) × (Nat → Nat → Int64) × (Nat → Nat)
abbrev pd_L : Type := List (Option pd_V)
abbrev pd_C : Type := Nat × Nat × pd_L × List pd_V × pd_H
abbrev pd_R : Type := pd_H × Option pd_V
/-- an instruction; its length; what its operand names; a constant; a switch's arms -/
abbrev pd_O : Type := Instr × Nat × (Nat × Nat × Nat × Nat) × Int32 × Int64 × List (Int32 × Nat)
/-- done; goes on; a branch; a switch; a call (its entry, the kind of its answer, the answer's tag, where it comes back) -/
abbrev pd_S : Type := (Option pd_R ⊕ pd_C) ⊕ ((Bool × Option pd_C × Option pd_C) ⊕ ((Int32 × List (Int32 × Nat) × pd_C) ⊕ (pd_C × Nat × Nat × pd_C)))
def pd_two : pd_V → Bool
  | .inl (.inr _) => true
  | .inr (.inl (.inr _)) => true
  | _ => false
def pd_cats : List pd_V → Nat
  | [] => 0
  | v :: r => cond (pd_two v) 2 1 + pd_cats r
def pd_nth : pd_L → Nat → Option pd_V
  | [], _ => none
  | a :: _, 0 => a
  | _ :: t, n + 1 => pd_nth t n
def pd_is2 : Option pd_V → Bool
  | some v => pd_two v
  | none => false
def pd_set1 : pd_L → Nat → pd_V → pd_L
  | [], _, _ => []
  | _ :: t, 0, v => some v :: t
  | a :: t, 1, v => cond (pd_is2 a) none a :: pd_set1 t 0 v
  | a :: t, n + 2, v => a :: pd_set1 t (n + 1) v
def pd_clr : pd_L → pd_L
  | [] => []
  | _ :: t => none :: t
def pd_set2 : pd_L → Nat → pd_V → pd_L
  | [], _, _ => []
  | _ :: t, 0, v => some v :: pd_clr t
  | a :: t, 1, v => cond (pd_is2 a) none a :: pd_set2 t 0 v
  | a :: t, n + 2, v => a :: pd_set2 t (n + 1) v
def pd_none : Nat → pd_L
  | 0 => []
  | n + 1 => none :: pd_none n
/-- the locals at a method's entry -/
def pd_en : List pd_V → Nat → pd_L
  | [], n => pd_none n
  | v :: r, n => cond (pd_two v) (some v :: none :: pd_en r (n - 2)) (some v :: pd_en r (n - 1))
def pd_upI (σ : pd_H) (k i : Nat) (x : Int32) : pd_H := (fun q => if q = k then upd (σ.1 k) i x else σ.1 q, σ.2)
def pd_upJ (σ : pd_H) (k i : Nat) (x : Int64) : pd_H := (σ.1, fun q => if q = k then vp_updL (σ.2.1 k) i x else σ.2.1 q, σ.2.2)
def pd_upR (σ : pd_H) (k o : Nat) : pd_H := (σ.1, σ.2.1, fun q => if q = k then o else σ.2.2 q)
/-- no such place -/
def pd_ob (i : Int32) (n : Nat) : Bool := decide (i < 0 ∨ n ≤ i.toNatClampNeg)
def pd_cc (k : ClassFile.Cond) (x y : Int32) : Bool := match k with
  | .eq => decide (x = y)
  | .ne => decide (x = y)
  | .lt => decide (x < y)
  | .ge => decide (y ≤ x)
  | .gt => decide (y < x)
  | .le => decide (x ≤ y)
def pd_br (k : ClassFile.Cond) (x y : Int32) (c1 c2 : pd_C) : pd_S := match k with
  | .ne => .inr (.inl (pd_cc k x y, some c2, some c1))
  | _ => .inr (.inl (pd_cc k x y, some c1, some c2))
def pd_no : pd_S := .inl (.inl none)
abbrev pd_go (c : pd_C) : pd_S := .inl (.inr c)
def pd_gd (b : Bool) (c : pd_C) : pd_S := .inr (.inl (b, none, some c))
def pd_ii (f : Int32 → Int32 → Int32) (m pc : Nat) (ls : pd_L) (st : List pd_V) (σ : pd_H) : pd_S := match st with
  | .inl (.inl y) :: .inl (.inl x) :: r => pd_go (m, pc, ls, pd_i (f x y) :: r, σ)
  | _ => pd_no
def pd_jj (f : Int64 → Int64 → Int64) (m pc : Nat) (ls : pd_L) (st : List pd_V) (σ : pd_H) : pd_S := match st with
  | .inl (.inr y) :: .inl (.inr x) :: r => pd_go (m, pc, ls, pd_j (f x y) :: r, σ)
  | _ => pd_no
def pd_ji (f : Int64 → Int32 → Int64) (m pc : Nat) (ls : pd_L) (st : List pd_V) (σ : pd_H) : pd_S := match st with
  | .inl (.inl y) :: .inl (.inr x) :: r => pd_go (m, pc, ls, pd_j (f x y) :: r, σ)
  | _ => pd_no
/-- the length of an array, the script's apart -/
def pd_cv1 (f : Int32 → Int32) (m pc : Nat) (ls : pd_L) (st : List pd_V) (σ : pd_H) : pd_S := match st with
  | .inl (.inl x) :: r => pd_go (m, pc, ls, pd_i (f x) :: r, σ)
  | _ => pd_no
def pd_ldi (m pc : Nat) (ls : pd_L) (st : List pd_V) (σ : pd_H) (k : Nat) : pd_S := match pd_nth ls k with
  | some (.inl (.inl x)) => pd_go (m, pc, ls, pd_i x :: st, σ)
  | _ => pd_no
def pd_ldj (m pc : Nat) (ls : pd_L) (st : List pd_V) (σ : pd_H) (k : Nat) : pd_S := match pd_nth ls k with
  | some (.inl (.inr x)) => pd_go (m, pc, ls, pd_j x :: st, σ)
  | _ => pd_no
def pd_lda (m pc : Nat) (ls : pd_L) (st : List pd_V) (σ : pd_H) (k : Nat) : pd_S := match pd_nth ls k with
  | some (.inr (.inr (t, o))) => pd_go (m, pc, ls, pd_r t o :: st, σ)
  | _ => pd_no
def pd_sti (m pc : Nat) (ls : pd_L) (st : List pd_V) (σ : pd_H) (k : Nat) : pd_S := match st with
  | .inl (.inl x) :: r => pd_go (m, pc, pd_set1 ls k (pd_i x), r, σ)
  | _ => pd_no
def pd_stj (m pc : Nat) (ls : pd_L) (st : List pd_V) (σ : pd_H) (k : Nat) : pd_S := match st with
  | .inl (.inr x) :: r => pd_go (m, pc, pd_set2 ls k (pd_j x), r, σ)
  | _ => pd_no
def pd_sta (m pc : Nat) (ls : pd_L) (st : List pd_V) (σ : pd_H) (k : Nat) : pd_S := match st with
  | .inr (.inr (t, o)) :: r => pd_go (m, pc, pd_set1 ls k (pd_r t o), r, σ)
  | _ => pd_no
def pd_inc (m pc : Nat) (ls : pd_L) (st : List pd_V) (σ : pd_H) (k : Nat) (v : Int32) : pd_S := match pd_nth ls k with
  | some (.inl (.inl x)) => pd_go (m, pc, pd_set1 ls k (pd_i (x + v)), st, σ)
  | _ => pd_no
/-- k: 0 an int, 1 a long, 2 a thing beside, 3 a thing of its own place, 4 one that moves; x: the tag of the owner; y: the slot (the way there); z: the tag of what is there -/
def pd_gf (m pc : Nat) (ls : pd_L) (st : List pd_V) (σ : pd_H) (k x y z : Nat) : pd_S := match st with
  | .inr (.inr (t, o)) :: r => cond (Nat.beq t x) (match k with
      | 0 => pd_go (m, pc, ls, pd_i (σ.1 o y) :: r, σ)
      | 1 => pd_go (m, pc, ls, pd_j (σ.2.1 o y) :: r, σ)
      | 2 => pd_go (m, pc, ls, pd_r z (o + y) :: r, σ)
      | 3 => pd_go (m, pc, ls, pd_r z y :: r, σ)
      | _ => pd_go (m, pc, ls, pd_r z (σ.2.2 y) :: r, σ)) pd_no
  | _ => pd_no
/-- k: 0 an int, 1 a long, 4 a reference that moves, 5 a boolean -/
def pd_pf (m pc : Nat) (ls : pd_L) (st : List pd_V) (σ : pd_H) (k x y z : Nat) : pd_S := match st with
  | .inl (.inl v) :: .inr (.inr (t, o)) :: r => cond (Nat.beq t x) (match k with
      | 0 => pd_go (m, pc, ls, r, pd_upI σ o y v)
      | 5 => .inr (.inl (decide (v = 0 ∨ v = 1), some (m, pc, ls, r, pd_upI σ o y v), none))
      | _ => pd_no) pd_no
  | .inl (.inr v) :: .inr (.inr (t, o)) :: r => cond (Nat.beq t x) (match k with
      | 1 => pd_go (m, pc, ls, r, pd_upJ σ o y v)
      | _ => pd_no) pd_no
  | .inr (.inr (t2, o2)) :: .inr (.inr (t, _)) :: r => cond (Nat.beq t x) (cond (Nat.beq t2 z) (match k with
      | 4 => pd_go (m, pc, ls, r, pd_upR σ y o2)
      | _ => pd_no) pd_no) pd_no
  | _ => pd_no
/-- the return: k = 1 a boolean -/
def pd_ri (st : List pd_V) (σ : pd_H) (k : Nat) : pd_S := match st with
  | [.inl (.inl x)] => match k with
    | 0 => .inl (.inl (some (σ, some (pd_i x))))
    | _ => .inl (.inl (cond (decide (x = 0 ∨ x = 1)) (some (σ, some (pd_i x))) none))
  | _ => pd_no
/-- a call: k the method, x the number of its arguments, y its locals, z 256 times the tag of its answer and the answer's kind -/
def pd_ca (m pc : Nat) (ls : pd_L) (st : List pd_V) (σ : pd_H) (k x y z : Nat) : pd_S :=
  cond (Nat.ble x st.length) (cond (Nat.ble (pd_cats (st.drop x)) 8) (cond (Nat.ble (pd_cats (st.take x)) y) (.inr (.inr (.inr ((k, 0, pd_en (st.take x).reverse y, [], σ), z % 8, z / 8, (m, pc, ls, st.drop x, σ))))) pd_no) pd_no) pd_no
/-- a call of an object: its tag (z / 256) is looked at -/
def pd_cav (m pc : Nat) (ls : pd_L) (st : List pd_V) (σ : pd_H) (k x y z : Nat) : pd_S := match (st.take x).reverse with
  | .inr (.inr (t, _)) :: _ => cond (Nat.beq t (z / 256)) (pd_ca m pc ls st σ k x y (z % 256)) pd_no
  | _ => pd_no
section PDS
variable (cd : Nat → Nat → Option pd_O)
/-- tags: 20 ints, 21 longs, 22 booleans, 23 changes, 24 sequences, 30 the script -/
def pd_ald (m pc : Nat) (ls : pd_L) (st : List pd_V) (σ : pd_H) : pd_S := match st with
  | .inl (.inl i) :: .inr (.inr (t, o)) :: r => match t with
    | 20 => pd_gd (pd_ob i (pd_len o)) (m, pc, ls, pd_i (σ.1 o i.toNatClampNeg) :: r, σ)
    | 30 => pd_gd (pd_ob i (σ.1 266 0).toNatClampNeg) (m, pc, ls, pd_i (σ.1 265 i.toNatClampNeg) :: r, σ)
    | _ => pd_no
  | _ => pd_no
def pd_bld (m pc : Nat) (ls : pd_L) (st : List pd_V) (σ : pd_H) : pd_S := match st with
  | .inl (.inl i) :: .inr (.inr (t, o)) :: r => match t with
    | 22 => pd_gd (pd_ob i (pd_len o)) (m, pc, ls, pd_i (σ.1 o i.toNatClampNeg) :: r, σ)
    | _ => pd_no
  | _ => pd_no
def pd_lld (m pc : Nat) (ls : pd_L) (st : List pd_V) (σ : pd_H) : pd_S := match st with
  | .inl (.inl i) :: .inr (.inr (t, o)) :: r => match t with
    | 21 => pd_gd (pd_ob i (pd_len o)) (m, pc, ls, pd_j (σ.2.1 o i.toNatClampNeg) :: r, σ)
    | _ => pd_no
  | _ => pd_no
def pd_qld (m pc : Nat) (ls : pd_L) (st : List pd_V) (σ : pd_H) : pd_S := match st with
  | .inl (.inl i) :: .inr (.inr (t, o)) :: r => match t with
    | 23 => pd_gd (pd_ob i (pd_len o)) (m, pc, ls, pd_r 1 (80 + i.toNatClampNeg) :: r, σ)
    | 24 => pd_gd (pd_ob i (pd_len o)) (m, pc, ls, pd_r 4 (20 + 2 * i.toNatClampNeg) :: r, σ)
    | _ => pd_no
  | _ => pd_no
def pd_ast (m pc : Nat) (ls : pd_L) (st : List pd_V) (σ : pd_H) : pd_S := match st with
  | .inl (.inl v) :: .inl (.inl i) :: .inr (.inr (t, o)) :: r => match t with
    | 20 => pd_gd (pd_ob i (pd_len o)) (m, pc, ls, r, pd_upI σ o i.toNatClampNeg v)
    | _ => pd_no
  | _ => pd_no
def pd_bst (m pc : Nat) (ls : pd_L) (st : List pd_V) (σ : pd_H) : pd_S := match st with
  | .inl (.inl v) :: .inl (.inl i) :: .inr (.inr (t, o)) :: r => match t with
    | 22 => pd_gd (pd_ob i (pd_len o)) (m, pc, ls, r, pd_upI σ o i.toNatClampNeg (vp_nar .boolean v))
    | _ => pd_no
  | _ => pd_no
def pd_lst (m pc : Nat) (ls : pd_L) (st : List pd_V) (σ : pd_H) : pd_S := match st with
  | .inl (.inr v) :: .inl (.inl i) :: .inr (.inr (t, o)) :: r => match t with
    | 21 => pd_gd (pd_ob i (pd_len o)) (m, pc, ls, r, pd_upJ σ o i.toNatClampNeg v)
    | _ => pd_no
  | _ => pd_no
def pd_aln (m pc : Nat) (ls : pd_L) (st : List pd_V) (σ : pd_H) : pd_S := match st with
  | .inr (.inr (t, o)) :: r => match t with
    | 30 => pd_go (m, pc, ls, pd_i (σ.1 266 0) :: r, σ)
    | _ => cond (Nat.ble 20 t) (pd_go (m, pc, ls, pd_i (Int32.ofNat (pd_len o)) :: r, σ)) pd_no
  | _ => pd_no
def pd_op (m pc : Nat) (ls : pd_L) (st : List pd_V) (σ : pd_H) (op : pd_O) : pd_S := match op with
  | (i, n, (k, x, y, z), v, w, tb) => match i with
    | .iconst _ => pd_go (m, pc + n, ls, pd_i v :: st, σ)
    | .bipush _ => pd_go (m, pc + n, ls, pd_i v :: st, σ)
    | .sipush _ => pd_go (m, pc + n, ls, pd_i v :: st, σ)
    | .ldc _ => pd_go (m, pc + n, ls, pd_i v :: st, σ)
    | .ldc_w _ => pd_go (m, pc + n, ls, pd_i v :: st, σ)
    | .lconst _ => pd_go (m, pc + n, ls, pd_j w :: st, σ)
    | .ldc2_w _ => pd_go (m, pc + n, ls, pd_j w :: st, σ)
    | .iload _ => pd_ldi m (pc + n) ls st σ k
    | .iload_n _ => pd_ldi m (pc + n) ls st σ k
    | .lload _ => pd_ldj m (pc + n) ls st σ k
    | .lload_n _ => pd_ldj m (pc + n) ls st σ k
    | .aload _ => pd_lda m (pc + n) ls st σ k
    | .aload_n _ => pd_lda m (pc + n) ls st σ k
    | .istore _ => pd_sti m (pc + n) ls st σ k
    | .istore_n _ => pd_sti m (pc + n) ls st σ k
    | .lstore _ => pd_stj m (pc + n) ls st σ k
    | .lstore_n _ => pd_stj m (pc + n) ls st σ k
    | .astore _ => pd_sta m (pc + n) ls st σ k
    | .astore_n _ => pd_sta m (pc + n) ls st σ k
    | .iinc _ _ => pd_inc m (pc + n) ls st σ k v
    | .dup => match st with
      | a :: r => cond (pd_two a) pd_no (pd_go (m, pc + n, ls, a :: a :: r, σ))
      | _ => pd_no
    | .dup2 => match st with
      | a :: b :: r => cond (pd_two a) pd_no (cond (pd_two b) pd_no (pd_go (m, pc + n, ls, a :: b :: a :: b :: r, σ)))
      | _ => pd_no
    | .pop => match st with
      | a :: r => cond (pd_two a) pd_no (pd_go (m, pc + n, ls, r, σ))
      | _ => pd_no
    | .iadd => pd_ii (fun x y => x + y) m (pc + n) ls st σ
    | .isub => pd_ii (fun x y => x - y) m (pc + n) ls st σ
    | .imul => pd_ii (fun x y => x * y) m (pc + n) ls st σ
    | .iand => pd_ii (fun x y => x &&& y) m (pc + n) ls st σ
    | .ior => pd_ii (fun x y => x ||| y) m (pc + n) ls st σ
    | .ishl => pd_ii (fun x y => x <<< (y &&& 31)) m (pc + n) ls st σ
    | .ishr => pd_ii (fun x y => x >>> (y &&& 31)) m (pc + n) ls st σ
    | .iushr => pd_ii (fun x y => (x.toUInt32 >>> (y.toUInt32 &&& Int32.toUInt32 31)).toInt32) m (pc + n) ls st σ
    | .idiv => match st with
      | .inl (.inl y) :: .inl (.inl x) :: r => pd_gd (decide (y = 0)) (m, pc + n, ls, pd_i (x / y) :: r, σ)
      | _ => pd_no
    | .irem => match st with
      | .inl (.inl y) :: .inl (.inl x) :: r => pd_gd (decide (y = 0)) (m, pc + n, ls, pd_i (x - x / y * y) :: r, σ)
      | _ => pd_no
    | .ladd => pd_jj (fun x y => x + y) m (pc + n) ls st σ
    | .lsub => pd_jj (fun x y => x - y) m (pc + n) ls st σ
    | .lmul => pd_jj (fun x y => x * y) m (pc + n) ls st σ
    | .land => pd_jj (fun x y => x &&& y) m (pc + n) ls st σ
    | .lor => pd_jj (fun x y => x ||| y) m (pc + n) ls st σ
    | .lshl => pd_ji (fun x y => x <<< (y.toInt64 &&& 63)) m (pc + n) ls st σ
    | .lshr => pd_ji (fun x y => x >>> (y.toInt64 &&& 63)) m (pc + n) ls st σ
    | .ldiv => match st with
      | .inl (.inr y) :: .inl (.inr x) :: r => pd_gd (decide (y = 0)) (m, pc + n, ls, pd_j (x / y) :: r, σ)
      | _ => pd_no
    | .lrem => match st with
      | .inl (.inr y) :: .inl (.inr x) :: r => pd_gd (decide (y = 0)) (m, pc + n, ls, pd_j (x - x / y * y) :: r, σ)
      | _ => pd_no
    | .lneg => match st with
      | .inl (.inr x) :: r => pd_go (m, pc + n, ls, pd_j (-x) :: r, σ)
      | _ => pd_no
    | .lcmp => match st with
      | .inl (.inr y) :: .inl (.inr x) :: r => pd_go (m, pc + n, ls, pd_i (lg_cmp x y) :: r, σ)
      | _ => pd_no
    | .i2l => match st with
      | .inl (.inl x) :: r => pd_go (m, pc + n, ls, pd_j x.toInt64 :: r, σ)
      | _ => pd_no
    | .l2i => match st with
      | .inl (.inr x) :: r => pd_go (m, pc + n, ls, pd_i x.toInt32 :: r, σ)
      | _ => pd_no
    | .i2b => pd_cv1 (fun x => x.toInt8.toInt32) m (pc + n) ls st σ
    | .i2c => pd_cv1 (fun x => (x.toUInt32 % 65536).toInt32) m (pc + n) ls st σ
    | .i2s => pd_cv1 (fun x => x.toInt16.toInt32) m (pc + n) ls st σ
    | .i2f => match st with
      | .inl (.inl x) :: r => pd_go (m, pc + n, ls, pd_f (FP.i2f x) :: r, σ)
      | _ => pd_no
    | .l2f => match st with
      | .inl (.inr x) :: r => pd_go (m, pc + n, ls, pd_f (FP.l2f x) :: r, σ)
      | _ => pd_no
    | .f2l => match st with
      | .inr (.inl (.inl x)) :: r => pd_go (m, pc + n, ls, pd_j (FP.f2l x) :: r, σ)
      | _ => pd_no
    | .l2d => match st with
      | .inl (.inr x) :: r => pd_go (m, pc + n, ls, pd_d (FP.l2d x) :: r, σ)
      | _ => pd_no
    | .d2l => match st with
      | .inr (.inl (.inr x)) :: r => pd_go (m, pc + n, ls, pd_j (FP.d2l x) :: r, σ)
      | _ => pd_no
    | .ifCond q _ => match st with
      | .inl (.inl a) :: r => pd_br q a 0 (m, k, ls, r, σ) (m, pc + n, ls, r, σ)
      | _ => pd_no
    | .if_icmp q _ => match st with
      | .inl (.inl b) :: .inl (.inl a) :: r => pd_br q a b (m, k, ls, r, σ) (m, pc + n, ls, r, σ)
      | _ => pd_no
    | .goto _ => pd_go (m, k, ls, st, σ)
    | .tableswitch _ _ _ _ => match st with
      | .inl (.inl a) :: r => .inr (.inr (.inl (a, tb, (m, k, ls, r, σ))))
      | _ => pd_no
    | .lookupswitch _ _ => match st with
      | .inl (.inl a) :: r => .inr (.inr (.inl (a, tb, (m, k, ls, r, σ))))
      | _ => pd_no
    | .getfield _ => pd_gf m (pc + n) ls st σ k x y z
    | .putfield _ => pd_pf m (pc + n) ls st σ k x y z
    | .iaload => pd_ald m (pc + n) ls st σ
    | .baload => pd_bld m (pc + n) ls st σ
    | .laload => pd_lld m (pc + n) ls st σ
    | .aaload => pd_qld m (pc + n) ls st σ
    | .iastore => pd_ast m (pc + n) ls st σ
    | .bastore => pd_bst m (pc + n) ls st σ
    | .lastore => pd_lst m (pc + n) ls st σ
    | .arraylength => pd_aln m (pc + n) ls st σ
    | .invokevirtual _ => pd_cav m (pc + n) ls st σ k x y z
    | .invokestatic _ => pd_ca m (pc + n) ls st σ k x y z
    | .ireturn => pd_ri st σ k
    | .lreturn => match st with
      | [.inl (.inr a)] => .inl (.inl (some (σ, some (pd_j a))))
      | _ => pd_no
    | .areturn => match st with
      | [.inr (.inr (t, o))] => .inl (.inl (some (σ, some (pd_r t o))))
      | _ => pd_no
    | .return_ => match st with
      | [] => .inl (.inl (some (σ, none)))
      | _ => pd_no
    | _ => pd_no
def pd_st (c : pd_C) : pd_S := match c with
  | (m, pc, ls, st, σ) => match cd m pc with
    | some op => pd_op m pc ls st σ op
    | none => pd_no
end PDS
def pd_bV (r : Option pd_R) (k : pd_H → Option pd_R) : Option pd_R := match r with
  | some (σ, none) => k σ
  | _ => none
def pd_bI (r : Option pd_R) (k : pd_H → Int32 → Option pd_R) : Option pd_R := match r with
  | some (σ, some (.inl (.inl x))) => k σ x
  | _ => none
def pd_bJ (r : Option pd_R) (k : pd_H → Int64 → Option pd_R) : Option pd_R := match r with
  | some (σ, some (.inl (.inr x))) => k σ x
  | _ => none
def pd_bR (r : Option pd_R) (t : Nat) (k : pd_H → Nat → Option pd_R) : Option pd_R := match r with
  | some (σ, some (.inr (.inr (u, o)))) => cond (Nat.beq u t) (k σ o) none
  | _ => none
section PDF
variable (g h : pd_C → Option pd_R)
def pd_ho : Option pd_C → Option pd_R
  | none => none
  | some c => h c
def pd_sw (x : Int32) : List (Int32 × Nat) → pd_C → Option pd_R
  | [], c => h c
  | q :: r, c => cond (decide (x = q.1)) (h (c.1, q.2, c.2.2)) (pd_sw x r c)
def pd_cl (r : Option pd_R) (z t : Nat) (c : pd_C) : Option pd_R := match c with
  | (m, pc, ls, st, _) => match z with
    | 0 => pd_bV r fun σ => h (m, pc, ls, st, σ)
    | 1 => pd_bI r fun σ a => h (m, pc, ls, pd_i a :: st, σ)
    | 2 => pd_bJ r fun σ a => h (m, pc, ls, pd_j a :: st, σ)
    | _ => pd_bR r t fun σ o => h (m, pc, ls, pd_r t o :: st, σ)
def pd_F : pd_S → Option pd_R
  | .inl (.inl r) => r
  | .inl (.inr c) => h c
  | .inr (.inl (b, o1, o2)) => cond b (pd_ho h o1) (pd_ho h o2)
  | .inr (.inr (.inl (x, tb, c))) => pd_sw h x tb c
  | .inr (.inr (.inr (cc, z, t, c))) => pd_cl h (g cc) z t c
end PDF
section PDR
variable (cd : Nat → Nat → Option pd_O)
def pd_ex : Nat → pd_C → Option pd_R
  | 0, _ => none
  | n + 1, c => pd_F (pd_ex n) (pd_ex n) (pd_st cd c)
/-- the limit: what a run comes to -/
noncomputable def pd_run (c : pd_C) : Option pd_R := @dite (Option pd_R) (∃ q : Nat × pd_R, pd_ex cd q.1 c = some q.2) (Classical.propDecidable _) (fun h => some (Classical.choose h).2) (fun _ => none)
/-- so many steps at the most, up to the next of the stops -/
def pd_dr (g : pd_C → Option pd_R) (sp : Nat → Bool) : Nat → pd_C → Option pd_R
  | 0, c => g c
  | n + 1, c => pd_F g (fun c => cond (sp c.2.1) (g c) (pd_dr g sp n c)) (pd_st cd c)
end PDR
end
section
/-! The machine over the things of all four desks. -/
/-- k: 0 an int, 1 a long, 2 a thing beside, 3 a thing of its own place, 4 one that moves; x: the tag of the owner; y: the slot (the way there); z: the tag of what is there -/
def p4_gf (m pc : Nat) (ls : pd_L) (st : List pd_V) (σ : pd_H) (k x y z : Nat) : pd_S := match st with
  | .inr (.inr (t, o)) :: r => cond (Nat.beq t x) (match k with
      | 0 => pd_go (m, pc, ls, pd_i (σ.1 o y) :: r, σ)
      | 1 => pd_go (m, pc, ls, pd_j (σ.2.1 o y) :: r, σ)
      | 2 => pd_go (m, pc, ls, pd_r z (o + y) :: r, σ)
      | 3 => pd_go (m, pc, ls, pd_r z (p4_bs o + y) :: r, σ)
      | _ => pd_go (m, pc, ls, pd_r z (σ.2.2 (p4_bs o + y)) :: r, σ)) pd_no
  | _ => pd_no
/-- k: 0 an int, 1 a long, 4 a reference that moves, 5 a boolean -/
def p4_pf (m pc : Nat) (ls : pd_L) (st : List pd_V) (σ : pd_H) (k x y z : Nat) : pd_S := match st with
  | .inl (.inl v) :: .inr (.inr (t, o)) :: r => cond (Nat.beq t x) (match k with
      | 0 => pd_go (m, pc, ls, r, pd_upI σ o y v)
      | 5 => .inr (.inl (decide (v = 0 ∨ v = 1), some (m, pc, ls, r, pd_upI σ o y v), none))
      | _ => pd_no) pd_no
  | .inl (.inr v) :: .inr (.inr (t, o)) :: r => cond (Nat.beq t x) (match k with
      | 1 => pd_go (m, pc, ls, r, pd_upJ σ o y v)
      | _ => pd_no) pd_no
  | .inr (.inr (t2, o2)) :: .inr (.inr (t, o)) :: r => cond (Nat.beq t x) (cond (Nat.beq t2 z) (match k with
      | 4 => pd_go (m, pc, ls, r, pd_upR σ (p4_bs o + y) o2)
      | _ => pd_no) pd_no) pd_no
  | _ => pd_no
section PDS
variable (cd : Nat → Nat → Option pd_O)
/-- tags: 20 ints, 21 longs, 22 booleans, 23 changes, 24 sequences, 30 the script -/
def p4_ald (m pc : Nat) (ls : pd_L) (st : List pd_V) (σ : pd_H) : pd_S := match st with
  | .inl (.inl i) :: .inr (.inr (t, o)) :: r => match t with
    | 20 => pd_gd (pd_ob i (p4_len o)) (m, pc, ls, pd_i (σ.1 o i.toNatClampNeg) :: r, σ)
    | 30 => pd_gd (pd_ob i (σ.1 923 0).toNatClampNeg) (m, pc, ls, pd_i (σ.1 922 i.toNatClampNeg) :: r, σ)
    | _ => pd_no
  | _ => pd_no
def p4_bld (m pc : Nat) (ls : pd_L) (st : List pd_V) (σ : pd_H) : pd_S := match st with
  | .inl (.inl i) :: .inr (.inr (t, o)) :: r => match t with
    | 22 => pd_gd (pd_ob i (p4_len o)) (m, pc, ls, pd_i (σ.1 o i.toNatClampNeg) :: r, σ)
    | _ => pd_no
  | _ => pd_no
def p4_lld (m pc : Nat) (ls : pd_L) (st : List pd_V) (σ : pd_H) : pd_S := match st with
  | .inl (.inl i) :: .inr (.inr (t, o)) :: r => match t with
    | 21 => pd_gd (pd_ob i (p4_len o)) (m, pc, ls, pd_j (σ.2.1 o i.toNatClampNeg) :: r, σ)
    | _ => pd_no
  | _ => pd_no
def p4_qld (m pc : Nat) (ls : pd_L) (st : List pd_V) (σ : pd_H) : pd_S := match st with
  | .inl (.inl i) :: .inr (.inr (t, o)) :: r => match t with
    | 23 => pd_gd (pd_ob i (p4_len o)) (m, pc, ls, pd_r 1 (p4_bs o + 80 + i.toNatClampNeg) :: r, σ)
    | 24 => pd_gd (pd_ob i (p4_len o)) (m, pc, ls, pd_r 4 (p4_bs o + 20 + 2 * i.toNatClampNeg) :: r, σ)
    | _ => pd_no
  | _ => pd_no
def p4_ast (m pc : Nat) (ls : pd_L) (st : List pd_V) (σ : pd_H) : pd_S := match st with
  | .inl (.inl v) :: .inl (.inl i) :: .inr (.inr (t, o)) :: r => match t with
    | 20 => pd_gd (pd_ob i (p4_len o)) (m, pc, ls, r, pd_upI σ o i.toNatClampNeg v)
    | _ => pd_no
  | _ => pd_no
def p4_bst (m pc : Nat) (ls : pd_L) (st : List pd_V) (σ : pd_H) : pd_S := match st with
  | .inl (.inl v) :: .inl (.inl i) :: .inr (.inr (t, o)) :: r => match t with
    | 22 => pd_gd (pd_ob i (p4_len o)) (m, pc, ls, r, pd_upI σ o i.toNatClampNeg (vp_nar .boolean v))
    | _ => pd_no
  | _ => pd_no
def p4_lst (m pc : Nat) (ls : pd_L) (st : List pd_V) (σ : pd_H) : pd_S := match st with
  | .inl (.inr v) :: .inl (.inl i) :: .inr (.inr (t, o)) :: r => match t with
    | 21 => pd_gd (pd_ob i (p4_len o)) (m, pc, ls, r, pd_upJ σ o i.toNatClampNeg v)
    | _ => pd_no
  | _ => pd_no
def p4_aln (m pc : Nat) (ls : pd_L) (st : List pd_V) (σ : pd_H) : pd_S := match st with
  | .inr (.inr (t, o)) :: r => match t with
    | 30 => pd_go (m, pc, ls, pd_i (σ.1 923 0) :: r, σ)
    | _ => cond (Nat.ble 20 t) (pd_go (m, pc, ls, pd_i (Int32.ofNat (p4_len o)) :: r, σ)) pd_no
  | _ => pd_no
def p4_op (m pc : Nat) (ls : pd_L) (st : List pd_V) (σ : pd_H) (op : pd_O) : pd_S := match op with
  | (i, n, (k, x, y, z), v, w, tb) => match i with
    | .iconst _ => pd_go (m, pc + n, ls, pd_i v :: st, σ)
    | .bipush _ => pd_go (m, pc + n, ls, pd_i v :: st, σ)
    | .sipush _ => pd_go (m, pc + n, ls, pd_i v :: st, σ)
    | .ldc _ => pd_go (m, pc + n, ls, pd_i v :: st, σ)
    | .ldc_w _ => pd_go (m, pc + n, ls, pd_i v :: st, σ)
    | .lconst _ => pd_go (m, pc + n, ls, pd_j w :: st, σ)
    | .ldc2_w _ => pd_go (m, pc + n, ls, pd_j w :: st, σ)
    | .iload _ => pd_ldi m (pc + n) ls st σ k
    | .iload_n _ => pd_ldi m (pc + n) ls st σ k
    | .lload _ => pd_ldj m (pc + n) ls st σ k
    | .lload_n _ => pd_ldj m (pc + n) ls st σ k
    | .aload _ => pd_lda m (pc + n) ls st σ k
    | .aload_n _ => pd_lda m (pc + n) ls st σ k
    | .istore _ => pd_sti m (pc + n) ls st σ k
    | .istore_n _ => pd_sti m (pc + n) ls st σ k
    | .lstore _ => pd_stj m (pc + n) ls st σ k
    | .lstore_n _ => pd_stj m (pc + n) ls st σ k
    | .astore _ => pd_sta m (pc + n) ls st σ k
    | .astore_n _ => pd_sta m (pc + n) ls st σ k
    | .iinc _ _ => pd_inc m (pc + n) ls st σ k v
    | .dup => match st with
      | a :: r => cond (pd_two a) pd_no (pd_go (m, pc + n, ls, a :: a :: r, σ))
      | _ => pd_no
    | .dup2 => match st with
      | a :: b :: r => cond (pd_two a) pd_no (cond (pd_two b) pd_no (pd_go (m, pc + n, ls, a :: b :: a :: b :: r, σ)))
      | _ => pd_no
    | .pop => match st with
      | a :: r => cond (pd_two a) pd_no (pd_go (m, pc + n, ls, r, σ))
      | _ => pd_no
    | .iadd => pd_ii (fun x y => x + y) m (pc + n) ls st σ
    | .isub => pd_ii (fun x y => x - y) m (pc + n) ls st σ
    | .imul => pd_ii (fun x y => x * y) m (pc + n) ls st σ
    | .iand => pd_ii (fun x y => x &&& y) m (pc + n) ls st σ
    | .ior => pd_ii (fun x y => x ||| y) m (pc + n) ls st σ
    | .ishl => pd_ii (fun x y => x <<< (y &&& 31)) m (pc + n) ls st σ
    | .ishr => pd_ii (fun x y => x >>> (y &&& 31)) m (pc + n) ls st σ
    | .iushr => pd_ii (fun x y => (x.toUInt32 >>> (y.toUInt32 &&& Int32.toUInt32 31)).toInt32) m (pc + n) ls st σ
    | .idiv => match st with
      | .inl (.inl y) :: .inl (.inl x) :: r => pd_gd (decide (y = 0)) (m, pc + n, ls, pd_i (x / y) :: r, σ)
      | _ => pd_no
    | .irem => match st with
      | .inl (.inl y) :: .inl (.inl x) :: r => pd_gd (decide (y = 0)) (m, pc + n, ls, pd_i (x - x / y * y) :: r, σ)
      | _ => pd_no
    | .ladd => pd_jj (fun x y => x + y) m (pc + n) ls st σ
    | .lsub => pd_jj (fun x y => x - y) m (pc + n) ls st σ
    | .lmul => pd_jj (fun x y => x * y) m (pc + n) ls st σ
    | .land => pd_jj (fun x y => x &&& y) m (pc + n) ls st σ
    | .lor => pd_jj (fun x y => x ||| y) m (pc + n) ls st σ
    | .lshl => pd_ji (fun x y => x <<< (y.toInt64 &&& 63)) m (pc + n) ls st σ
    | .lshr => pd_ji (fun x y => x >>> (y.toInt64 &&& 63)) m (pc + n) ls st σ
    | .ldiv => match st with
      | .inl (.inr y) :: .inl (.inr x) :: r => pd_gd (decide (y = 0)) (m, pc + n, ls, pd_j (x / y) :: r, σ)
      | _ => pd_no
    | .lrem => match st with
      | .inl (.inr y) :: .inl (.inr x) :: r => pd_gd (decide (y = 0)) (m, pc + n, ls, pd_j (x - x / y * y) :: r, σ)
      | _ => pd_no
    | .lneg => match st with
      | .inl (.inr x) :: r => pd_go (m, pc + n, ls, pd_j (-x) :: r, σ)
      | _ => pd_no
    | .lcmp => match st with
      | .inl (.inr y) :: .inl (.inr x) :: r => pd_go (m, pc + n, ls, pd_i (lg_cmp x y) :: r, σ)
      | _ => pd_no
    | .i2l => match st with
      | .inl (.inl x) :: r => pd_go (m, pc + n, ls, pd_j x.toInt64 :: r, σ)
      | _ => pd_no
    | .l2i => match st with
      | .inl (.inr x) :: r => pd_go (m, pc + n, ls, pd_i x.toInt32 :: r, σ)
      | _ => pd_no
    | .i2b => pd_cv1 (fun x => x.toInt8.toInt32) m (pc + n) ls st σ
    | .i2c => pd_cv1 (fun x => (x.toUInt32 % 65536).toInt32) m (pc + n) ls st σ
    | .i2s => pd_cv1 (fun x => x.toInt16.toInt32) m (pc + n) ls st σ
    | .i2f => match st with
      | .inl (.inl x) :: r => pd_go (m, pc + n, ls, pd_f (FP.i2f x) :: r, σ)
      | _ => pd_no
    | .l2f => match st with
      | .inl (.inr x) :: r => pd_go (m, pc + n, ls, pd_f (FP.l2f x) :: r, σ)
      | _ => pd_no
    | .f2l => match st with
      | .inr (.inl (.inl x)) :: r => pd_go (m, pc + n, ls, pd_j (FP.f2l x) :: r, σ)
      | _ => pd_no
    | .l2d => match st with
      | .inl (.inr x) :: r => pd_go (m, pc + n, ls, pd_d (FP.l2d x) :: r, σ)
      | _ => pd_no
    | .d2l => match st with
      | .inr (.inl (.inr x)) :: r => pd_go (m, pc + n, ls, pd_j (FP.d2l x) :: r, σ)
      | _ => pd_no
    | .ifCond q _ => match st with
      | .inl (.inl a) :: r => pd_br q a 0 (m, k, ls, r, σ) (m, pc + n, ls, r, σ)
      | _ => pd_no
    | .if_icmp q _ => match st with
      | .inl (.inl b) :: .inl (.inl a) :: r => pd_br q a b (m, k, ls, r, σ) (m, pc + n, ls, r, σ)
      | _ => pd_no
    | .goto _ => pd_go (m, k, ls, st, σ)
    | .tableswitch _ _ _ _ => match st with
      | .inl (.inl a) :: r => .inr (.inr (.inl (a, tb, (m, k, ls, r, σ))))
      | _ => pd_no
    | .lookupswitch _ _ => match st with
      | .inl (.inl a) :: r => .inr (.inr (.inl (a, tb, (m, k, ls, r, σ))))
      | _ => pd_no
    | .getfield _ => p4_gf m (pc + n) ls st σ k x y z
    | .putfield _ => p4_pf m (pc + n) ls st σ k x y z
    | .iaload => p4_ald m (pc + n) ls st σ
    | .baload => p4_bld m (pc + n) ls st σ
    | .laload => p4_lld m (pc + n) ls st σ
    | .aaload => p4_qld m (pc + n) ls st σ
    | .iastore => p4_ast m (pc + n) ls st σ
    | .bastore => p4_bst m (pc + n) ls st σ
    | .lastore => p4_lst m (pc + n) ls st σ
    | .arraylength => p4_aln m (pc + n) ls st σ
    | .invokevirtual _ => pd_cav m (pc + n) ls st σ k x y z
    | .invokestatic _ => pd_ca m (pc + n) ls st σ k x y z
    | .ireturn => pd_ri st σ k
    | .lreturn => match st with
      | [.inl (.inr a)] => .inl (.inl (some (σ, some (pd_j a))))
      | _ => pd_no
    | .areturn => match st with
      | [.inr (.inr (t, o))] => .inl (.inl (some (σ, some (pd_r t o))))
      | _ => pd_no
    | .return_ => match st with
      | [] => .inl (.inl (some (σ, none)))
      | _ => pd_no
    | _ => pd_no
def p4_st (c : pd_C) : pd_S := match c with
  | (m, pc, ls, st, σ) => match cd m pc with
    | some op => p4_op m pc ls st σ op
    | none => pd_no
end PDS
section PDR
variable (cd : Nat → Nat → Option pd_O)
def p4_ex : Nat → pd_C → Option pd_R
  | 0, _ => none
  | n + 1, c => pd_F (p4_ex n) (p4_ex n) (p4_st cd c)
/-- the limit: what a run comes to -/
noncomputable def p4_run (c : pd_C) : Option pd_R := @dite (Option pd_R) (∃ q : Nat × pd_R, p4_ex cd q.1 c = some q.2) (Classical.propDecidable _) (fun h => some (Classical.choose h).2) (fun _ => none)
/-- so many steps at the most, up to the next of the stops -/
def p4_dr (g : pd_C → Option pd_R) (sp : Nat → Bool) : Nat → pd_C → Option pd_R
  | 0, c => g c
  | n + 1, c => pd_F g (fun c => cond (sp c.2.1) (g c) (p4_dr g sp n c)) (p4_st cd c)
end PDR
end
section
/-! The limit is a fixed point of the step. -/
def pd_le (a b : Option pd_R) : Prop := ∀ r, a = some r → b = some r
theorem pd_le_rfl {a : Option pd_R} : pd_le a a := fun _ h => h
theorem pd_bV_some {r : Option pd_R} {k : pd_H → Option pd_R} {q : pd_R} (h : pd_bV r k = some q) : ∃ σ, r = some (σ, none) ∧ k σ = some q := by
  unfold pd_bV at h
  split at h
  · exact ⟨_, rfl, h⟩
  · cases h
theorem pd_bI_some {r : Option pd_R} {k : pd_H → Int32 → Option pd_R} {q : pd_R} (h : pd_bI r k = some q) : ∃ σ x, r = some (σ, some (pd_i x)) ∧ k σ x = some q := by
  unfold pd_bI at h
  split at h
  · exact ⟨_, _, rfl, h⟩
  · cases h
theorem pd_bJ_some {r : Option pd_R} {k : pd_H → Int64 → Option pd_R} {q : pd_R} (h : pd_bJ r k = some q) : ∃ σ x, r = some (σ, some (pd_j x)) ∧ k σ x = some q := by
  unfold pd_bJ at h
  split at h
  · exact ⟨_, _, rfl, h⟩
  · cases h
theorem pd_bR_some {r : Option pd_R} {t : Nat} {k : pd_H → Nat → Option pd_R} {q : pd_R} (h : pd_bR r t k = some q) : ∃ σ o, r = some (σ, some (pd_r t o)) ∧ k σ o = some q := by
  unfold pd_bR at h
  split at h
  · rename_i u o
    cases hu : Nat.beq u t with
    | false => rw [hu] at h; cases h
    | true =>
      rw [hu] at h
      have := Nat.eq_of_beq_eq_true hu
      subst this
      exact ⟨_, _, rfl, h⟩
  · cases h
theorem pd_bV_of {σ : pd_H} {k : pd_H → Option pd_R} : pd_bV (some (σ, none)) k = k σ := rfl
theorem pd_bI_of {σ : pd_H} {x : Int32} {k : pd_H → Int32 → Option pd_R} : pd_bI (some (σ, some (pd_i x))) k = k σ x := rfl
theorem pd_bJ_of {σ : pd_H} {x : Int64} {k : pd_H → Int64 → Option pd_R} : pd_bJ (some (σ, some (pd_j x))) k = k σ x := rfl
theorem pd_bR_of {σ : pd_H} {t o : Nat} {k : pd_H → Nat → Option pd_R} : pd_bR (some (σ, some (pd_r t o))) t k = k σ o := by
  show cond (Nat.beq t t) (k σ o) none = _
  rw [Nat.beq_refl]; rfl
theorem pd_ho_mono {h h' : pd_C → Option pd_R} (H : ∀ c, pd_le (h c) (h' c)) (o : Option pd_C) : pd_le (pd_ho h o) (pd_ho h' o) := by
  cases o with
  | none => exact pd_le_rfl
  | some c => exact H c
theorem pd_sw_mono {h h' : pd_C → Option pd_R} (H : ∀ c, pd_le (h c) (h' c)) (x : Int32) (tb : List (Int32 × Nat)) (c : pd_C) : pd_le (pd_sw h x tb c) (pd_sw h' x tb c) := by
  induction tb with
  | nil => exact H c
  | cons q r ih =>
    intro z hz
    unfold pd_sw at hz ⊢
    cases hd : decide (x = q.1) with
    | true => rw [hd] at hz; exact H _ z hz
    | false => rw [hd] at hz; exact ih z hz
theorem pd_cl_mono {h h' : pd_C → Option pd_R} {r r' : Option pd_R} (hr : pd_le r r') (H : ∀ c, pd_le (h c) (h' c)) (z t : Nat) (c : pd_C) : pd_le (pd_cl h r z t c) (pd_cl h' r' z t c) := by
  obtain ⟨m, pc, ls, st, σ⟩ := c
  intro q hq
  unfold pd_cl at hq ⊢
  dsimp only at hq ⊢
  split at hq
  · obtain ⟨σ, e, k⟩ := pd_bV_some hq
    rw [hr _ e]; exact H _ _ k
  · obtain ⟨σ, x, e, k⟩ := pd_bI_some hq
    rw [hr _ e]; exact H _ _ k
  · obtain ⟨σ, x, e, k⟩ := pd_bJ_some hq
    rw [hr _ e]; exact H _ _ k
  · obtain ⟨σ, x, e, k⟩ := pd_bR_some hq
    rw [hr _ e, pd_bR_of]; exact H _ _ k
theorem pd_F_mono {g g' h h' : pd_C → Option pd_R} (G : ∀ c, pd_le (g c) (g' c)) (H : ∀ c, pd_le (h c) (h' c)) (s : pd_S) : pd_le (pd_F g h s) (pd_F g' h' s) := by
  match s with
  | .inl (.inl r) => exact pd_le_rfl
  | .inl (.inr c) => exact H c
  | .inr (.inl (b, o1, o2)) =>
    cases b with
    | true => exact pd_ho_mono H o1
    | false => exact pd_ho_mono H o2
  | .inr (.inr (.inl (x, tb, c))) => exact pd_sw_mono H x tb c
  | .inr (.inr (.inr (cc, z, t, c))) => exact pd_cl_mono (G cc) H z t c
section PDR
variable {cd : Nat → Nat → Option pd_O}
theorem pd_ex_succ (n : Nat) : ∀ c, pd_le (pd_ex cd n c) (pd_ex cd (n + 1) c) := by
  induction n with
  | zero => intro c r h; cases h
  | succ n ih => intro c; exact pd_F_mono ih ih _
theorem pd_ex_le {n k : Nat} (h : n ≤ k) : ∀ c, pd_le (pd_ex cd n c) (pd_ex cd k c) := by
  induction h with
  | refl => exact fun _ => pd_le_rfl
  | step _ ih => exact fun c r hr => pd_ex_succ _ c r (ih c r hr)
theorem pd_run_iff {c : pd_C} {r : pd_R} : pd_run cd c = some r ↔ ∃ n, pd_ex cd n c = some r := by
  unfold pd_run
  by_cases h : ∃ q : Nat × pd_R, pd_ex cd q.1 c = some q.2
  · rw [dif_pos h]
    have hs := Classical.choose_spec h
    constructor
    · intro e
      cases e
      exact ⟨_, hs⟩
    · rintro ⟨n, hn⟩
      have h1 := pd_ex_le (Nat.le_max_left (Classical.choose h).1 n) c _ hs
      have h2 := pd_ex_le (Nat.le_max_right (Classical.choose h).1 n) c _ hn
      rw [h1] at h2
      exact h2
  · rw [dif_neg h]
    constructor
    · intro e; cases e
    · rintro ⟨n, hn⟩
      exact absurd ⟨(n, r), hn⟩ h
theorem pd_ex_run (n : Nat) : ∀ c, pd_le (pd_ex cd n c) (pd_run cd c) := fun _ _ h => pd_run_iff.mpr ⟨n, h⟩
theorem pd_ho_cont {o : Option pd_C} {r : pd_R} (h : pd_ho (pd_run cd) o = some r) : ∃ n, pd_ho (pd_ex cd n) o = some r := by
  cases o with
  | none => cases h
  | some c => exact pd_run_iff.mp h
theorem pd_sw_cont {x : Int32} {tb : List (Int32 × Nat)} {c : pd_C} {r : pd_R} (h : pd_sw (pd_run cd) x tb c = some r) : ∃ n, pd_sw (pd_ex cd n) x tb c = some r := by
  induction tb with
  | nil => exact pd_run_iff.mp h
  | cons q t ih =>
    unfold pd_sw at h ⊢
    cases hd : decide (x = q.1) with
    | true => rw [hd] at h; exact pd_run_iff.mp h
    | false => rw [hd] at h; exact ih h
theorem pd_cl_cont {cc : pd_C} {z t : Nat} {c : pd_C} {r : pd_R} (h : pd_cl (pd_run cd) (pd_run cd cc) z t c = some r) : ∃ n, pd_cl (pd_ex cd n) (pd_ex cd n cc) z t c = some r := by
  obtain ⟨m, pc, ls, st, σ⟩ := c
  unfold pd_cl at h ⊢
  dsimp only at h ⊢
  have two : ∀ {q : pd_R} {c2 : pd_C}, pd_run cd cc = some q → pd_run cd c2 = some r → ∃ n, pd_ex cd n cc = some q ∧ pd_ex cd n c2 = some r := by
    intro q c2 e k
    obtain ⟨n1, h1⟩ := pd_run_iff.mp e
    obtain ⟨n2, h2⟩ := pd_run_iff.mp k
    exact ⟨max n1 n2, pd_ex_le (Nat.le_max_left n1 n2) _ _ h1, pd_ex_le (Nat.le_max_right n1 n2) _ _ h2⟩
  split at h
  · obtain ⟨σ, e, k⟩ := pd_bV_some h
    obtain ⟨n, a, b⟩ := two e k
    exact ⟨n, by rw [a]; exact b⟩
  · obtain ⟨σ, x, e, k⟩ := pd_bI_some h
    obtain ⟨n, a, b⟩ := two e k
    exact ⟨n, by rw [a]; exact b⟩
  · obtain ⟨σ, x, e, k⟩ := pd_bJ_some h
    obtain ⟨n, a, b⟩ := two e k
    exact ⟨n, by rw [a]; exact b⟩
  · obtain ⟨σ, x, e, k⟩ := pd_bR_some h
    obtain ⟨n, a, b⟩ := two e k
    exact ⟨n, by rw [a, pd_bR_of]; exact b⟩
theorem pd_F_cont {s : pd_S} {r : pd_R} (h : pd_F (pd_run cd) (pd_run cd) s = some r) : ∃ n, pd_F (pd_ex cd n) (pd_ex cd n) s = some r := by
  match s, h with
  | .inl (.inl q), h => exact ⟨0, h⟩
  | .inl (.inr c), h => exact pd_run_iff.mp h
  | .inr (.inl (b, o1, o2)), h =>
    cases b with
    | true => exact pd_ho_cont (o := o1) h
    | false => exact pd_ho_cont (o := o2) h
  | .inr (.inr (.inl (x, tb, c))), h => exact pd_sw_cont h
  | .inr (.inr (.inr (cc, z, t, c))), h => exact pd_cl_cont h
theorem pd_run_eq (c : pd_C) : pd_run cd c = pd_F (pd_run cd) (pd_run cd) (pd_st cd c) := by
  apply Option.ext
  intro r
  constructor
  · intro h
    obtain ⟨n, hn⟩ := pd_run_iff.mp h
    cases n with
    | zero => cases hn
    | succ n => exact pd_F_mono (pd_ex_run n) (pd_ex_run n) _ r hn
  · intro h
    obtain ⟨n, hn⟩ := pd_F_cont h
    exact pd_run_iff.mpr ⟨n + 1, hn⟩
theorem pd_dr_eq (sp : Nat → Bool) (n : Nat) : ∀ c, pd_dr cd (pd_run cd) sp n c = pd_run cd c := by
  induction n with
  | zero => exact fun _ => rfl
  | succ n ih =>
    intro c
    rw [pd_run_eq c]
    show pd_F _ (fun c => cond (sp c.2.1) (pd_run cd c) (pd_dr cd (pd_run cd) sp n c)) _ = _
    have e : (fun c : pd_C => cond (sp c.2.1) (pd_run cd c) (pd_dr cd (pd_run cd) sp n c)) = pd_run cd := by
      funext c
      rw [ih c]
      cases sp c.2.1 <;> rfl
    rw [e]
end PDR
end
section
/-! The limit, over all four. -/
section PDR
variable {cd : Nat → Nat → Option pd_O}
theorem p4_ex_succ (n : Nat) : ∀ c, pd_le (p4_ex cd n c) (p4_ex cd (n + 1) c) := by
  induction n with
  | zero => intro c r h; cases h
  | succ n ih => intro c; exact pd_F_mono ih ih _
theorem p4_ex_le {n k : Nat} (h : n ≤ k) : ∀ c, pd_le (p4_ex cd n c) (p4_ex cd k c) := by
  induction h with
  | refl => exact fun _ => pd_le_rfl
  | step _ ih => exact fun c r hr => p4_ex_succ _ c r (ih c r hr)
theorem p4_run_iff {c : pd_C} {r : pd_R} : p4_run cd c = some r ↔ ∃ n, p4_ex cd n c = some r := by
  unfold p4_run
  by_cases h : ∃ q : Nat × pd_R, p4_ex cd q.1 c = some q.2
  · rw [dif_pos h]
    have hs := Classical.choose_spec h
    constructor
    · intro e
      cases e
      exact ⟨_, hs⟩
    · rintro ⟨n, hn⟩
      have h1 := p4_ex_le (Nat.le_max_left (Classical.choose h).1 n) c _ hs
      have h2 := p4_ex_le (Nat.le_max_right (Classical.choose h).1 n) c _ hn
      rw [h1] at h2
      exact h2
  · rw [dif_neg h]
    constructor
    · intro e; cases e
    · rintro ⟨n, hn⟩
      exact absurd ⟨(n, r), hn⟩ h
theorem p4_ex_run (n : Nat) : ∀ c, pd_le (p4_ex cd n c) (p4_run cd c) := fun _ _ h => p4_run_iff.mpr ⟨n, h⟩
theorem p4_ho_cont {o : Option pd_C} {r : pd_R} (h : pd_ho (p4_run cd) o = some r) : ∃ n, pd_ho (p4_ex cd n) o = some r := by
  cases o with
  | none => cases h
  | some c => exact p4_run_iff.mp h
theorem p4_sw_cont {x : Int32} {tb : List (Int32 × Nat)} {c : pd_C} {r : pd_R} (h : pd_sw (p4_run cd) x tb c = some r) : ∃ n, pd_sw (p4_ex cd n) x tb c = some r := by
  induction tb with
  | nil => exact p4_run_iff.mp h
  | cons q t ih =>
    unfold pd_sw at h ⊢
    cases hd : decide (x = q.1) with
    | true => rw [hd] at h; exact p4_run_iff.mp h
    | false => rw [hd] at h; exact ih h
theorem p4_cl_cont {cc : pd_C} {z t : Nat} {c : pd_C} {r : pd_R} (h : pd_cl (p4_run cd) (p4_run cd cc) z t c = some r) : ∃ n, pd_cl (p4_ex cd n) (p4_ex cd n cc) z t c = some r := by
  obtain ⟨m, pc, ls, st, σ⟩ := c
  unfold pd_cl at h ⊢
  dsimp only at h ⊢
  have two : ∀ {q : pd_R} {c2 : pd_C}, p4_run cd cc = some q → p4_run cd c2 = some r → ∃ n, p4_ex cd n cc = some q ∧ p4_ex cd n c2 = some r := by
    intro q c2 e k
    obtain ⟨n1, h1⟩ := p4_run_iff.mp e
    obtain ⟨n2, h2⟩ := p4_run_iff.mp k
    exact ⟨max n1 n2, p4_ex_le (Nat.le_max_left n1 n2) _ _ h1, p4_ex_le (Nat.le_max_right n1 n2) _ _ h2⟩
  split at h
  · obtain ⟨σ, e, k⟩ := pd_bV_some h
    obtain ⟨n, a, b⟩ := two e k
    exact ⟨n, by rw [a]; exact b⟩
  · obtain ⟨σ, x, e, k⟩ := pd_bI_some h
    obtain ⟨n, a, b⟩ := two e k
    exact ⟨n, by rw [a]; exact b⟩
  · obtain ⟨σ, x, e, k⟩ := pd_bJ_some h
    obtain ⟨n, a, b⟩ := two e k
    exact ⟨n, by rw [a]; exact b⟩
  · obtain ⟨σ, x, e, k⟩ := pd_bR_some h
    obtain ⟨n, a, b⟩ := two e k
    exact ⟨n, by rw [a, pd_bR_of]; exact b⟩
theorem p4_F_cont {s : pd_S} {r : pd_R} (h : pd_F (p4_run cd) (p4_run cd) s = some r) : ∃ n, pd_F (p4_ex cd n) (p4_ex cd n) s = some r := by
  match s, h with
  | .inl (.inl q), h => exact ⟨0, h⟩
  | .inl (.inr c), h => exact p4_run_iff.mp h
  | .inr (.inl (b, o1, o2)), h =>
    cases b with
    | true => exact p4_ho_cont (o := o1) h
    | false => exact p4_ho_cont (o := o2) h
  | .inr (.inr (.inl (x, tb, c))), h => exact p4_sw_cont h
  | .inr (.inr (.inr (cc, z, t, c))), h => exact p4_cl_cont h
theorem p4_run_eq (c : pd_C) : p4_run cd c = pd_F (p4_run cd) (p4_run cd) (p4_st cd c) := by
  apply Option.ext
  intro r
  constructor
  · intro h
    obtain ⟨n, hn⟩ := p4_run_iff.mp h
    cases n with
    | zero => cases hn
    | succ n => exact pd_F_mono (p4_ex_run n) (p4_ex_run n) _ r hn
  · intro h
    obtain ⟨n, hn⟩ := p4_F_cont h
    exact p4_run_iff.mpr ⟨n + 1, hn⟩
theorem p4_dr_eq (sp : Nat → Bool) (n : Nat) : ∀ c, p4_dr cd (p4_run cd) sp n c = p4_run cd c := by
  induction n with
  | zero => exact fun _ => rfl
  | succ n ih =>
    intro c
    rw [p4_run_eq c]
    show pd_F _ (fun c => cond (sp c.2.1) (p4_run cd c) (p4_dr cd (p4_run cd) sp n c)) _ = _
    have e : (fun c : pd_C => cond (sp c.2.1) (p4_run cd c) (p4_dr cd (p4_run cd) sp n c)) = p4_run cd := by
      funext c
      rw [ih c]
      cases sp c.2.1 <;> rfl
    rw [e]
end PDR
end
section
/-! What the machine holds when the abstract machine holds σ. -/
def pd_cv (ad : Nat → Nat) : pd_V → Value
  | .inl (.inl x) => .int x
  | .inl (.inr x) => .long x
  | .inr (.inl (.inl x)) => .float x
  | .inr (.inl (.inr x)) => .double x
  | .inr (.inr (_, k)) => .ref (ad k)
theorem pd_cv_cat (ad : Nat → Nat) (v : pd_V) : (pd_cv ad v).category = cond (pd_two v) 2 1 := by
  rcases v with (x | x) | ((x | x) | ⟨t, k⟩) <;> rfl
theorem pd_cv_cat1 (ad : Nat → Nat) {v : pd_V} (h : pd_two v = false) : (pd_cv ad v).category = 1 := by rw [pd_cv_cat, h]; rfl
theorem pd_cv_cat2 (ad : Nat → Nat) {v : pd_V} (h : pd_two v = true) : (pd_cv ad v).category = 2 := by rw [pd_cv_cat, h]; rfl
def pd_ps (ad : Nat → Nat) : Nat → pd_L → List (Nat × Value)
  | _, [] => []
  | i, none :: t => pd_ps ad (i + 1) t
  | i, some v :: t => (i, pd_cv ad v) :: pd_ps ad (i + 1) t
theorem pd_ps_nth {ad : Nat → Nat} {L : pd_L} {k : Nat} {v : pd_V} (h : pd_nth L k = some v) : ∀ i, (i + k, pd_cv ad v) ∈ pd_ps ad i L := by
  induction L generalizing k with
  | nil => simp [pd_nth] at h
  | cons a t ih =>
    intro i
    cases k with
    | zero =>
      have : a = some v := h
      subst this
      exact List.mem_cons_self
    | succ k =>
      have h1 := ih (k := k) h (i + 1)
      rw [show i + 1 + k = i + (k + 1) by omega] at h1
      cases a with
      | none => exact h1
      | some w => exact List.mem_cons_of_mem _ h1
theorem pd_ps_of {ad : Nat → Nat} {L : pd_L} {q : Nat × Value} : ∀ {i : Nat}, q ∈ pd_ps ad i L → ∃ (k : Nat) (v : pd_V), pd_nth L k = some v ∧ q = (i + k, pd_cv ad v) := by
  induction L with
  | nil => intro i h; cases h
  | cons a t ih =>
    intro i h
    cases a with
    | none =>
      obtain ⟨k, v, h1, h2⟩ := ih h
      exact ⟨k + 1, v, h1, by rw [h2]; simp; omega⟩
    | some w =>
      rcases List.mem_cons.mp h with rfl | h
      · exact ⟨0, w, rfl, by simp⟩
      · obtain ⟨k, v, h1, h2⟩ := ih h
        exact ⟨k + 1, v, h1, by rw [h2]; simp; omega⟩
theorem pd_nth_set1 {v w : pd_V} {L : pd_L} {i j : Nat} (h : pd_nth (pd_set1 L i v) j = some w) : (j = i ∧ w = v) ∨ (j ≠ i ∧ pd_nth L j = some w ∧ ¬ (j + 1 = i ∧ pd_two w = true)) := by
  induction L generalizing i j with
  | nil => cases i <;> simp [pd_set1, pd_nth] at h
  | cons a t ih =>
    match i, j, h with
    | 0, 0, h => exact Or.inl ⟨rfl, (Option.some.inj h).symm⟩
    | 0, j + 1, h => exact Or.inr ⟨by omega, h, fun q => by omega⟩
    | 1, 0, h =>
      have h : cond (pd_is2 a) none a = some w := h
      cases hq : pd_is2 a with
      | true => rw [hq] at h; cases h
      | false =>
        rw [hq] at h
        have h : a = some w := h
        subst h
        exact Or.inr ⟨by omega, rfl, fun q => by rw [show pd_two w = false from hq] at q; cases q.2⟩
    | 1, j + 1, h =>
      rcases ih (i := 0) (j := j) h with ⟨e, hw⟩ | ⟨e, hw, _⟩
      · exact Or.inl ⟨by omega, hw⟩
      · exact Or.inr ⟨by omega, hw, fun q => by omega⟩
    | i + 2, 0, h => exact Or.inr ⟨by omega, h, fun q => by omega⟩
    | i + 2, j + 1, h =>
      rcases ih (i := i + 1) (j := j) h with ⟨e, hw⟩ | ⟨e, hw, hn⟩
      · exact Or.inl ⟨by omega, hw⟩
      · exact Or.inr ⟨by omega, hw, fun q => hn ⟨by omega, q.2⟩⟩
theorem pd_nth_clr {L : pd_L} {j : Nat} {w : pd_V} (h : pd_nth (pd_clr L) j = some w) : j ≠ 0 ∧ pd_nth L j = some w := by
  match L, j, h with
  | [], _, h => simp [pd_clr, pd_nth] at h
  | _ :: _, 0, h => cases h
  | _ :: _, j + 1, h => exact ⟨by omega, h⟩
theorem pd_nth_set2 {v w : pd_V} {L : pd_L} {i j : Nat} (h : pd_nth (pd_set2 L i v) j = some w) : (j = i ∧ w = v) ∨ (j ≠ i ∧ j ≠ i + 1 ∧ pd_nth L j = some w ∧ ¬ (j + 1 = i ∧ pd_two w = true)) := by
  induction L generalizing i j with
  | nil => cases i <;> simp [pd_set2, pd_nth] at h
  | cons a t ih =>
    match i, j, h with
    | 0, 0, h => exact Or.inl ⟨rfl, (Option.some.inj h).symm⟩
    | 0, j + 1, h =>
      obtain ⟨q1, q2⟩ := pd_nth_clr (L := t) h
      exact Or.inr ⟨by omega, by omega, q2, fun q => by omega⟩
    | 1, 0, h =>
      have h : cond (pd_is2 a) none a = some w := h
      cases hq : pd_is2 a with
      | true => rw [hq] at h; cases h
      | false =>
        rw [hq] at h
        have h : a = some w := h
        subst h
        exact Or.inr ⟨by omega, by omega, rfl, fun q => by rw [show pd_two w = false from hq] at q; cases q.2⟩
    | 1, j + 1, h =>
      rcases ih (i := 0) (j := j) h with ⟨e, hw⟩ | ⟨e, e2, hw, _⟩
      · exact Or.inl ⟨by omega, hw⟩
      · exact Or.inr ⟨by omega, by omega, hw, fun q => by omega⟩
    | i + 2, 0, h => exact Or.inr ⟨by omega, by omega, h, fun q => by omega⟩
    | i + 2, j + 1, h =>
      rcases ih (i := i + 1) (j := j) h with ⟨e, hw⟩ | ⟨e, e2, hw, hn⟩
      · exact Or.inl ⟨by omega, hw⟩
      · exact Or.inr ⟨by omega, by omega, hw, fun q => hn ⟨by omega, q.2⟩⟩
/-- the locals -/
def pd_lok (ad : Nat → Nat) (ls : Array Slot) (n : Nat) (L : pd_L) : Prop := lv_has ls n (pd_ps ad 0 L)
theorem pd_lok.at {ad : Nat → Nat} {ls : Array Slot} {n : Nat} {L : pd_L} (h : pd_lok ad ls n L) {k : Nat} {v : pd_V} (hv : pd_nth L k = some v) : ls[k]? = some (.val (pd_cv ad v)) := by
  have h1 := h.2.2 _ (pd_ps_nth (ad := ad) hv 0)
  simpa using h1
theorem pd_lok.place {ad : Nat → Nat} {L : pd_L} {k : Nat} {v : pd_V} (hv : pd_nth L k = some v) : ∃ j : Nat, (pd_ps ad 0 L)[j]? = some (k, pd_cv ad v) := by
  have h1 := pd_ps_nth (ad := ad) hv 0
  rw [Nat.zero_add] at h1
  exact List.getElem?_of_mem h1
theorem pd_lok.set1 {ad : Nat → Nat} {ls' : Array Slot} {n : Nat} {L : pd_L} {i : Nat} {v : pd_V} (h : lv_has ls' n ((i, pd_cv ad v) :: (pd_ps ad 0 L).filter (fun q => !(q.1 == i) && !(q.1 + 1 == i && q.2.category == 2)))) : pd_lok ad ls' n (pd_set1 L i v) := by
  refine ⟨h.1, h.2.1, fun q hq => h.2.2 q ?_⟩
  obtain ⟨k, w, h1, rfl⟩ := pd_ps_of hq
  rcases pd_nth_set1 h1 with ⟨e, hw⟩ | ⟨e, hw, hn⟩
  · subst e; subst hw
    rw [Nat.zero_add]
    exact List.mem_cons_self
  · refine List.mem_cons_of_mem _ (List.mem_filter.mpr ⟨pd_ps_nth hw 0, ?_⟩)
    simp only [Nat.zero_add, Bool.and_eq_true, Bool.not_eq_true', beq_eq_false_iff_ne, ne_eq]
    refine ⟨e, ?_⟩
    rw [pd_cv_cat]
    cases h2 : pd_two w with
    | false => simp
    | true =>
      have : ¬ k + 1 = i := fun q => hn ⟨q, h2⟩
      simp [this]
theorem pd_lok.set2 {ad : Nat → Nat} {ls' : Array Slot} {n : Nat} {L : pd_L} {i : Nat} {v : pd_V} (h : lv_has ls' n ((i, pd_cv ad v) :: (pd_ps ad 0 L).filter (fun q => !(q.1 == i) && (!(q.1 == i + 1) && !(q.1 + 1 == i && q.2.category == 2))))) : pd_lok ad ls' n (pd_set2 L i v) := by
  refine ⟨h.1, h.2.1, fun q hq => h.2.2 q ?_⟩
  obtain ⟨k, w, h1, rfl⟩ := pd_ps_of hq
  rcases pd_nth_set2 h1 with ⟨e, hw⟩ | ⟨e, e2, hw, hn⟩
  · subst e; subst hw
    rw [Nat.zero_add]
    exact List.mem_cons_self
  · refine List.mem_cons_of_mem _ (List.mem_filter.mpr ⟨pd_ps_nth hw 0, ?_⟩)
    simp only [Nat.zero_add, Bool.and_eq_true, Bool.not_eq_true', beq_eq_false_iff_ne, ne_eq]
    refine ⟨e, e2, ?_⟩
    rw [pd_cv_cat]
    cases h2 : pd_two w with
    | false => simp
    | true =>
      have : ¬ k + 1 = i := fun q => hn ⟨q, h2⟩
      simp [this]
/-- a method's entry -/
theorem pd_ps_none (ad : Nat → Nat) (n : Nat) : ∀ i, pd_ps ad i (pd_none n) = [] := by
  induction n with
  | zero => exact fun _ => rfl
  | succ n ih => exact fun i => ih (i + 1)
theorem pd_ps_en (ad : Nat → Nat) (av : List pd_V) : ∀ (n i : Nat), pd_ps ad i (pd_en av n) = lv_args i (av.map (pd_cv ad)) := by
  induction av with
  | nil => exact fun n i => pd_ps_none ad n i
  | cons v r ih =>
    intro n i
    show pd_ps ad i (cond (pd_two v) _ _) = (i, pd_cv ad v) :: lv_args (if (pd_cv ad v).category = 2 then i + 2 else i + 1) (r.map (pd_cv ad))
    rw [pd_cv_cat]
    cases pd_two v with
    | true => exact congrArg _ (ih (n - 2) (i + 2))
    | false => exact congrArg _ (ih (n - 1) (i + 1))
theorem pd_sl_len (ad : Nat → Nat) (av : List pd_V) : (lg_sl (av.map (pd_cv ad))).length = pd_cats av := by
  induction av with
  | nil => rfl
  | cons v r ih =>
    have e : lg_sl ((v :: r).map (pd_cv ad)) = (if (pd_cv ad v).category = 2 then [.val (pd_cv ad v), .second] else [.val (pd_cv ad v)]) ++ lg_sl (r.map (pd_cv ad)) := by
      simp [lg_sl]
    rw [e, List.length_append, ih, pd_cv_cat]
    cases h : pd_two v <;> simp [pd_cats, h]
theorem pd_cat_sum (ad : Nat → Nat) (st : List pd_V) : ((st.map (pd_cv ad)).map fun v => v.category).sum = pd_cats st := by
  induction st with
  | nil => rfl
  | cons v r ih =>
    simp only [List.map_cons, List.sum_cons, pd_cats]
    rw [ih, pd_cv_cat]
/-- a reference is one of the things, and of its tag -/
def pd_okv (v : pd_V) : Prop := match v with
  | .inr (.inr (t, k)) => p4_tag k = t ∧ t < 40
  | _ => True
theorem p4_low {k : Nat} (h : k < 920) : p4_tl k = pd_tl (k % 230) := by
  have e : Nat.ble k 919 = true := Nat.ble_eq.mpr (by omega)
  unfold p4_tl
  rw [e, cond_true]
theorem p4_tagL {k : Nat} (h : k < 920) : p4_tag k = pd_tag (k % 230) := congrArg Prod.fst (p4_low h)
theorem p4_lenL {k : Nat} (h : k < 920) : p4_len k = pd_len (k % 230) := congrArg Prod.snd (p4_low h)
theorem p4_hi {k : Nat} (h : 920 ≤ k) : (k = 920 ∧ p4_tag k = 20) ∨ (k = 921 ∧ p4_tag k = 21) ∨ (k = 922 ∧ p4_tag k = 30) ∨ (923 ≤ k ∧ p4_tag k = 99) := by
  rcases Nat.lt_or_ge k 923 with q | q
  · rcases (by omega : k = 920 ∨ k = 921 ∨ k = 922) with e | e | e
    · subst e; exact Or.inl ⟨rfl, rfl⟩
    · subst e; exact Or.inr (Or.inl ⟨rfl, rfl⟩)
    · subst e; exact Or.inr (Or.inr (Or.inl ⟨rfl, rfl⟩))
  · refine Or.inr (Or.inr (Or.inr ⟨q, ?_⟩))
    have e1 : Nat.ble k 919 = false := by
      rw [Bool.eq_false_iff]; intro w; have := Nat.le_of_ble_eq_true w; omega
    have e2 : Nat.beq k 920 = false := by
      rw [Bool.eq_false_iff]; intro w; have := Nat.eq_of_beq_eq_true w; omega
    have e3 : Nat.beq k 921 = false := by
      rw [Bool.eq_false_iff]; intro w; have := Nat.eq_of_beq_eq_true w; omega
    have e4 : Nat.beq k 922 = false := by
      rw [Bool.eq_false_iff]; intro w; have := Nat.eq_of_beq_eq_true w; omega
    unfold p4_tag p4_tl
    rw [e1, e2, e3, e4]
    rfl
theorem pd_tag_big {k : Nat} (h : 922 ≤ k) : 30 ≤ p4_tag k := by
  rcases p4_hi (k := k) (by omega) with ⟨q, _⟩ | ⟨q, _⟩ | ⟨_, q⟩ | ⟨_, q⟩ <;> omega
theorem pd_tag_lt {k : Nat} (h : p4_tag k < 30) : k < 922 := by
  rcases Nat.lt_or_ge k 922 with q | q
  · exact q
  · have := pd_tag_big q; omega
theorem p4_tag_20 {k : Nat} (h : p4_tag k < 20) : k < 920 := by
  rcases Nat.lt_or_ge k 920 with q | q
  · exact q
  · rcases p4_hi q with ⟨_, w⟩ | ⟨_, w⟩ | ⟨_, w⟩ | ⟨_, w⟩ <;> omega
theorem p4_tag_22 {k : Nat} (h1 : 22 ≤ p4_tag k) (h2 : p4_tag k < 30) : k < 920 := by
  rcases Nat.lt_or_ge k 920 with q | q
  · exact q
  · rcases p4_hi q with ⟨_, w⟩ | ⟨_, w⟩ | ⟨_, w⟩ | ⟨_, w⟩ <;> omega
theorem pd_tag_30 {k : Nat} (h : p4_tag k = 30) : k = 922 := by
  rcases Nat.lt_or_ge k 920 with q | q
  · rw [p4_tagL q] at h
    have f : ∀ j, j < 230 → pd_tag j ≠ 30 := by decide +kernel
    exact absurd h (f _ (Nat.mod_lt _ (by decide)))
  · rcases p4_hi q with ⟨_, w⟩ | ⟨_, w⟩ | ⟨e, w⟩ | ⟨_, w⟩
    · omega
    · omega
    · exact e
    · omega
def pd_nf (t : Nat) : Nat := (vwCl.getD t (RL, TX0, 0)).2.2
def pd_fval (ad : Nat → Nat) (σ : pd_H) (o : Nat) (e : Nat × Nat × Nat) : Value := match e with
  | (0, y, _) => .int (σ.1 o y)
  | (1, y, _) => .long (σ.2.1 o y)
  | (2, y, _) => .ref (ad (o + y))
  | (3, y, _) => .ref (ad (p4_bs o + y))
  | (_, y, _) => .ref (ad (σ.2.2 (p4_bs o + y)))
def pd_fds (ad : Nat → Nat) (σ : pd_H) (o t : Nat) : List Value := (List.range (pd_nf t)).map fun s => pd_fval ad σ o (pd_fkd t s)
def pd_el (ad : Nat → Nat) (cA : Nat → ClassId) (σ : pd_H) (o t : Nat) : va_E := match t with
  | 20 => .inl (cA 0, p4_len o, .inl (σ.1 o))
  | 21 => .inl (cA 1, p4_len o, .inr (.inl (σ.2.1 o)))
  | 22 => .inl (cA 2, p4_len o, .inl (σ.1 o))
  | 23 => .inl (cA 3, p4_len o, .inr (.inr (.inr (.inr (fun i => some (ad (p4_bs o + 80 + i)))))))
  | 24 => .inl (cA 4, p4_len o, .inr (.inr (.inr (.inr (fun i => some (ad (p4_bs o + 20 + 2 * i)))))))
  | t => .inr (t, pd_fds ad σ o t)
def pd_ws (ad : Nat → Nat) (cA : Nat → ClassId) (σ : pd_H) : va_W := (List.range 922).map fun k => (ad k, pd_el ad cA σ k (p4_tag k))
theorem pd_ws_at (ad : Nat → Nat) (cA : Nat → ClassId) (σ : pd_H) {k : Nat} (h : k < 922) : (pd_ws ad cA σ)[k]? = some (ad k, pd_el ad cA σ k (p4_tag k)) := by
  simp [pd_ws, h]
theorem pd_ws_len (ad : Nat → Nat) (cA : Nat → ClassId) (σ : pd_H) : (pd_ws ad cA σ).length = 922 := by simp [pd_ws]
theorem pd_ws_of {ad : Nat → Nat} {cA : Nat → ClassId} {σ : pd_H} {k : Nat} {q : Nat × va_E} (h : (pd_ws ad cA σ)[k]? = some q) : k < 922 ∧ q = (ad k, pd_el ad cA σ k (p4_tag k)) := by
  have hk : k < 922 := by
    have := (List.getElem?_eq_some_iff.mp h).1
    rwa [pd_ws_len] at this
  rw [pd_ws_at ad cA σ hk] at h
  exact ⟨hk, (Option.some.inj h).symm⟩
theorem pd_ws_set {ad : Nat → Nat} {cA : Nat → ClassId} {σ σ' : pd_H} {k : Nat} {e : va_E} (h : k < 922) (he : e = pd_el ad cA σ' k (p4_tag k)) (ho : ∀ j, j < 922 → j ≠ k → pd_el ad cA σ' j (p4_tag j) = pd_el ad cA σ j (p4_tag j)) : (pd_ws ad cA σ).set k (ad k, e) = pd_ws ad cA σ' := by
  subst he
  apply List.ext_getElem?
  intro j
  rw [List.getElem?_set]
  by_cases hj : k = j
  · subst hj
    rw [if_pos rfl, if_pos (by rw [pd_ws_len]; exact h), pd_ws_at ad cA σ' h]
  · rw [if_neg hj]
    rcases Nat.lt_or_ge j 922 with q | q
    · rw [pd_ws_at ad cA σ q, pd_ws_at ad cA σ' q, ho j q (fun z => hj z.symm)]
    · rw [List.getElem?_eq_none (by rw [pd_ws_len]; exact q), List.getElem?_eq_none (by rw [pd_ws_len]; exact q)]
/-- facts of the layout -/
theorem pd_fk_own : ∀ t, t < 10 → ∀ s, s < pd_nf t → (pd_fkd t s).1 ≤ 1 → (pd_fkd t s).2.1 = s := by decide +kernel
theorem pd_fk_dyn : ∀ t, t < 10 → ∀ s, s < pd_nf t → (pd_fkd t s).1 ≤ 3 ∨ t = 9 := by decide +kernel
theorem pd_fk_dyn9 : ∀ s, s < pd_nf 9 → (pd_fkd 9 s).1 = 4 → ∀ s', s' < pd_nf 9 → (pd_fkd 9 s').1 = 4 → (pd_fkd 9 s').2.1 = (pd_fkd 9 s).2.1 → s' = s := by decide +kernel
theorem pd_tag9 : ∀ k, k < 922 → p4_tag k = 9 → k < 920 ∧ p4_bs k = k := by
  intro k _ h
  have q : k < 920 := p4_tag_20 (by omega)
  rw [p4_tagL q] at h
  have f : ∀ j, j < 230 → pd_tag j = 9 → j = 0 := by decide +kernel
  have := f _ (Nat.mod_lt _ (by decide)) h
  refine ⟨q, ?_⟩
  unfold p4_bs; omega
theorem pd_fk_max : ∀ t, t < 10 → ∀ s, s < pd_nf t → (pd_fkd t s).1 ≤ 4 ∧ ((pd_fkd t s).1 = 4 → (pd_fkd t s).2.1 < 2 ∧ (pd_fkd t s).2.2 = 2) := by decide +kernel
theorem pd_fk_rel1 : ∀ k, k < 230 → ∀ s, s < pd_nf (pd_tag k) → pd_tag k < 10 → ((pd_fkd (pd_tag k) s).1 = 2 → (k + (pd_fkd (pd_tag k) s).2.1 < 230 ∧ pd_tag (k + (pd_fkd (pd_tag k) s).2.1) = (pd_fkd (pd_tag k) s).2.2) ∧ (pd_fkd (pd_tag k) s).2.2 < 25) := by decide +kernel
theorem pd_fk_rel : ∀ k, k < 922 → ∀ s, s < pd_nf (p4_tag k) → p4_tag k < 10 → ((pd_fkd (p4_tag k) s).1 = 2 → p4_tag (k + (pd_fkd (p4_tag k) s).2.1) = (pd_fkd (p4_tag k) s).2.2 ∧ (pd_fkd (p4_tag k) s).2.2 < 25) := by
  intro k _ s hs ht h2
  have q : k < 920 := p4_tag_20 (by omega)
  rw [p4_tagL q] at hs ht h2 ⊢
  obtain ⟨⟨f1, f2⟩, f3⟩ := pd_fk_rel1 _ (Nat.mod_lt _ (by decide)) s hs ht h2
  refine ⟨?_, f3⟩
  rw [p4_tagL (by omega), ← f2]
  congr 1
  omega
theorem pd_fk_abs1 : ∀ t, t < 10 → ∀ s, s < pd_nf t → (pd_fkd t s).1 = 3 → ((pd_fkd t s).2.1 < 230 ∧ pd_tag (pd_fkd t s).2.1 = (pd_fkd t s).2.2) ∧ (pd_fkd t s).2.2 < 25 := by decide +kernel
theorem p4_at {k y : Nat} (q : k < 920) (h : y < 230) : p4_bs k + y < 920 ∧ (p4_bs k + y) % 230 = y := by
  unfold p4_bs; omega
theorem pd_fk_abs {k : Nat} (q : k < 920) : ∀ t, t < 10 → ∀ s, s < pd_nf t → (pd_fkd t s).1 = 3 → p4_tag (p4_bs k + (pd_fkd t s).2.1) = (pd_fkd t s).2.2 ∧ (pd_fkd t s).2.2 < 25 := by
  intro t ht s hs h3
  obtain ⟨⟨f1, f2⟩, f3⟩ := pd_fk_abs1 t ht s hs h3
  obtain ⟨g1, g2⟩ := p4_at q f1
  refine ⟨?_, f3⟩
  rw [p4_tagL g1, g2, f2]
theorem pd_tags : ∀ k, k < 922 → p4_tag k < 10 ∨ (20 ≤ p4_tag k ∧ p4_tag k < 25) := by
  intro k hk
  rcases Nat.lt_or_ge k 920 with q | q
  · rw [p4_tagL q]
    have f : ∀ j, j < 230 → pd_tag j < 10 ∨ (20 ≤ pd_tag j ∧ pd_tag j < 25) := by decide +kernel
    exact f _ (Nat.mod_lt _ (by decide))
  · rcases p4_hi q with ⟨_, w⟩ | ⟨_, w⟩ | ⟨_, w⟩ | ⟨_, w⟩ <;> omega
theorem pd_tag23 : ∀ k, k < 922 → p4_tag k = 23 → p4_len k = 150 := by
  intro k _ h
  have q : k < 920 := p4_tag_22 (by omega) (by omega)
  rw [p4_tagL q] at h
  rw [p4_lenL q]
  have f : ∀ j, j < 230 → pd_tag j = 23 → pd_len j = 150 := by decide +kernel
  exact f _ (Nat.mod_lt _ (by decide)) h
theorem pd_tag24 : ∀ k, k < 922 → p4_tag k = 24 → p4_len k = 6 := by
  intro k _ h
  have q : k < 920 := p4_tag_22 (by omega) (by omega)
  rw [p4_tagL q] at h
  rw [p4_lenL q]
  have f : ∀ j, j < 230 → pd_tag j = 24 → pd_len j = 6 := by decide +kernel
  exact f _ (Nat.mod_lt _ (by decide)) h
theorem pd_tag_chg {k : Nat} (q : k < 920) : ∀ i, i < 150 → p4_tag (p4_bs k + 80 + i) = 1 := by
  intro i hi
  obtain ⟨g1, g2⟩ := p4_at (y := 80 + i) q (by omega)
  rw [← Nat.add_assoc] at g1 g2
  rw [p4_tagL g1, g2]
  have f : ∀ i, i < 150 → pd_tag (80 + i) = 1 := by decide +kernel
  exact f i hi
theorem pd_tag_seq {k : Nat} (q : k < 920) : ∀ i, i < 6 → p4_tag (p4_bs k + 20 + 2 * i) = 4 := by
  intro i hi
  obtain ⟨g1, g2⟩ := p4_at (y := 20 + 2 * i) q (by omega)
  rw [← Nat.add_assoc] at g1 g2
  rw [p4_tagL g1, g2]
  have f : ∀ i, i < 6 → pd_tag (20 + 2 * i) = 4 := by decide +kernel
  exact f i hi
theorem pd_el_obj (ad : Nat → Nat) (cA : Nat → ClassId) (σ : pd_H) (o : Nat) {t : Nat} (h : t < 10) : pd_el ad cA σ o t = .inr (t, pd_fds ad σ o t) := by
  unfold pd_el
  split <;> first | omega | rfl
/-- a change of one thing's ints is seen there alone -/
theorem pd_el_upI (ad : Nat → Nat) (cA : Nat → ClassId) (σ : pd_H) {k i : Nat} {x : Int32} {j : Nat} (t : Nat) (h : j ≠ k) : pd_el ad cA (pd_upI σ k i x) j t = pd_el ad cA σ j t := by
  have e : (pd_upI σ k i x).1 j = σ.1 j := if_neg h
  have f : ∀ q, pd_fval ad (pd_upI σ k i x) j q = pd_fval ad σ j q := by
    intro q
    unfold pd_fval
    split <;> first | rfl | rw [e]
  unfold pd_el pd_fds
  split <;> first | rfl | rw [e] | simp only [f]
theorem pd_el_upJ (ad : Nat → Nat) (cA : Nat → ClassId) (σ : pd_H) {k i : Nat} {x : Int64} {j : Nat} (t : Nat) (h : j ≠ k) : pd_el ad cA (pd_upJ σ k i x) j t = pd_el ad cA σ j t := by
  have e : (pd_upJ σ k i x).2.1 j = σ.2.1 j := if_neg h
  have f : ∀ q, pd_fval ad (pd_upJ σ k i x) j q = pd_fval ad σ j q := by
    intro q
    unfold pd_fval
    split <;> first | rfl | rw [e]
  unfold pd_el pd_fds
  split <;> first | rfl | rw [e] | simp only [f]
theorem pd_fds_len (ad : Nat → Nat) (σ : pd_H) (o t : Nat) : (pd_fds ad σ o t).length = pd_nf t := by simp [pd_fds]
theorem pd_fds_at (ad : Nat → Nat) (σ : pd_H) (o : Nat) {t s : Nat} (h : s < pd_nf t) : (pd_fds ad σ o t)[s]? = some (pd_fval ad σ o (pd_fkd t s)) := by simp [pd_fds, h]
theorem pd_fds_set {ad : Nat → Nat} {σ σ' : pd_H} {o t s : Nat} {v : Value} (h : s < pd_nf t) (hv : v = pd_fval ad σ' o (pd_fkd t s)) (ho : ∀ s', s' < pd_nf t → s' ≠ s → pd_fval ad σ' o (pd_fkd t s') = pd_fval ad σ o (pd_fkd t s')) : (pd_fds ad σ o t).set s v = pd_fds ad σ' o t := by
  subst hv
  apply List.ext_getElem?
  intro j
  rw [List.getElem?_set]
  by_cases hj : s = j
  · subst hj
    rw [if_pos rfl, if_pos (by rw [pd_fds_len]; exact h), pd_fds_at ad σ' o h]
  · rw [if_neg hj]
    rcases Nat.lt_or_ge j (pd_nf t) with q | q
    · rw [pd_fds_at ad σ o q, pd_fds_at ad σ' o q, ho j q (fun z => hj z.symm)]
    · rw [List.getElem?_eq_none (by rw [pd_fds_len]; exact q), List.getElem?_eq_none (by rw [pd_fds_len]; exact q)]
def pd_tys (cA : Nat → ClassId) : List (ClassId × FieldType) := [(cA 0, .int), (cA 1, .long), (cA 2, .boolean), (cA 3, .object RX1), (cA 4, .object RX4)]
/-- the references that move -/
def p4_dy (σ : pd_H) : Prop := ∀ k, k < 920 → ∀ y, y < 2 → p4_tag (σ.2.2 (p4_bs k + y)) = 2
/-- the world -/
def pd_Wd (ad : Nat → Nat) (D : va_G) (cA : Nat → ClassId) (xs : Nat → Int32) (L : Nat) (σ : pd_H) (U : State) (H : Heap) : Prop :=
  va_P D vwCl (pd_ws ad cA σ) H ∧ va_K D vwCl (pd_tys cA) U ∧ p4_dy σ ∧ σ.1 922 = xs ∧ σ.1 923 0 = Int32.ofNat L
/-- the things' addresses -/
def pd_E (ad : Nat → Nat) (A : Nat → Prop) (b L : Nat) : Prop := (∀ i, i < 922 → ∀ j, j < 922 → ad i = ad j → i = j) ∧ (∀ i, i < 922 → A (ad i)) ∧ ad 922 = b ∧ ¬ A b ∧ L < 2 ^ 31
theorem pd_E.D {ad : Nat → Nat} {A : Nat → Prop} {b L : Nat} (h : pd_E ad A b L) (cA : Nat → ClassId) (σ : pd_H) : va_D A (pd_ws ad cA σ) := by
  refine ⟨fun i j p q hp hq e => ?_, fun k q hq => ?_⟩
  · obtain ⟨h1, rfl⟩ := pd_ws_of hp
    obtain ⟨h2, rfl⟩ := pd_ws_of hq
    exact h.1 i h1 j h2 e
  · obtain ⟨h1, rfl⟩ := pd_ws_of hq
    exact h.2.1 k h1
end
section
/-! The code: of each method, by program out of javap's listing: what stands at a place. -/
/-- Book_nextOfDraft -/
def pd_k0 (i : Nat) : Option pd_O := cond (Nat.ble i 7) (cond (Nat.ble i 1) (cond (Nat.ble i 0) (cond (Nat.beq i 0) (some (.aload_n 0, 1, (0, 0, 0, 0), 0, 0, [])) none) (cond (Nat.beq i 1) (some (.getfield 11, 3, (2, 0, 1, 23), 0, 0, [])) none)) (cond (Nat.ble i 4) (cond (Nat.beq i 4) (some (.bipush 24, 2, (0, 0, 0, 0), 24, 0, [])) none) (cond (Nat.ble i 6) (cond (Nat.beq i 6) (some (.aload_n 0, 1, (0, 0, 0, 0), 0, 0, [])) none) (cond (Nat.beq i 7) (some (.getfield 17, 3, (2, 0, 2, 20), 0, 0, [])) none)))) (cond (Nat.ble i 12) (cond (Nat.ble i 10) (cond (Nat.beq i 10) (some (.bipush 24, 2, (0, 0, 0, 0), 24, 0, [])) none) (cond (Nat.beq i 12) (some (.iaload, 1, (0, 0, 0, 0), 0, 0, [])) none)) (cond (Nat.ble i 13) (cond (Nat.beq i 13) (some (.invokestatic 26, 3, (69, 2, 2, 1), 0, 0, [])) none) (cond (Nat.ble i 16) (cond (Nat.beq i 16) (some (.aaload, 1, (0, 0, 0, 0), 0, 0, [])) none) (cond (Nat.beq i 17) (some (.areturn, 1, (0, 0, 0, 0), 0, 0, [])) none))))
/-- Book_makePatchOfDraft -/
def pd_k1 (i : Nat) : Option pd_O := cond (Nat.ble i 38) (cond (Nat.ble i 15) (cond (Nat.ble i 6) (cond (Nat.ble i 1) (cond (Nat.ble i 0) (cond (Nat.beq i 0) (some (.aload_n 0, 1, (0, 0, 0, 0), 0, 0, [])) none) (cond (Nat.beq i 1) (some (.getfield 21, 3, (0, 0, 2, 0), 0, 0, [])) none)) (cond (Nat.ble i 4) (cond (Nat.beq i 4) (some (.istore_n 1, 1, (1, 0, 0, 0), 0, 0, [])) none) (cond (Nat.ble i 5) (cond (Nat.beq i 5) (some (.iconst 0, 1, (0, 0, 0, 0), 0, 0, [])) none) (cond (Nat.beq i 6) (some (.istore_n 2, 1, (2, 0, 0, 0), 0, 0, [])) none)))) (cond (Nat.ble i 9) (cond (Nat.ble i 7) (cond (Nat.beq i 7) (some (.iload_n 2, 1, (2, 0, 0, 0), 0, 0, [])) none) (cond (Nat.ble i 8) (cond (Nat.beq i 8) (some (.aload_n 0, 1, (0, 0, 0, 0), 0, 0, [])) none) (cond (Nat.beq i 9) (some (.getfield 17, 3, (2, 0, 2, 20), 0, 0, [])) none))) (cond (Nat.ble i 12) (cond (Nat.beq i 12) (some (.bipush 24, 2, (0, 0, 0, 0), 24, 0, [])) none) (cond (Nat.ble i 14) (cond (Nat.beq i 14) (some (.iaload, 1, (0, 0, 0, 0), 0, 0, [])) none) (cond (Nat.beq i 15) (some (.if_icmp .ge 33, 3, (48, 0, 0, 0), 0, 0, [])) none))))) (cond (Nat.ble i 27) (cond (Nat.ble i 22) (cond (Nat.ble i 18) (cond (Nat.beq i 18) (some (.aload_n 0, 1, (0, 0, 0, 0), 0, 0, [])) none) (cond (Nat.ble i 19) (cond (Nat.beq i 19) (some (.getfield 11, 3, (2, 0, 1, 23), 0, 0, [])) none) (cond (Nat.beq i 22) (some (.iload_n 1, 1, (1, 0, 0, 0), 0, 0, [])) none))) (cond (Nat.ble i 23) (cond (Nat.beq i 23) (some (.iload_n 2, 1, (2, 0, 0, 0), 0, 0, [])) none) (cond (Nat.ble i 24) (cond (Nat.beq i 24) (some (.invokestatic 26, 3, (69, 2, 2, 1), 0, 0, [])) none) (cond (Nat.beq i 27) (some (.aaload, 1, (0, 0, 0, 0), 0, 0, [])) none)))) (cond (Nat.ble i 32) (cond (Nat.ble i 28) (cond (Nat.beq i 28) (some (.aload_n 0, 1, (0, 0, 0, 0), 0, 0, [])) none) (cond (Nat.ble i 29) (cond (Nat.beq i 29) (some (.getfield 11, 3, (2, 0, 1, 23), 0, 0, [])) none) (cond (Nat.beq i 32) (some (.bipush 24, 2, (0, 0, 0, 0), 24, 0, [])) none))) (cond (Nat.ble i 34) (cond (Nat.beq i 34) (some (.iload_n 2, 1, (2, 0, 0, 0), 0, 0, [])) none) (cond (Nat.ble i 35) (cond (Nat.beq i 35) (some (.invokestatic 26, 3, (69, 2, 2, 1), 0, 0, [])) none) (cond (Nat.beq i 38) (some (.aaload, 1, (0, 0, 0, 0), 0, 0, [])) none)))))) (cond (Nat.ble i 61) (cond (Nat.ble i 52) (cond (Nat.ble i 45) (cond (Nat.ble i 39) (cond (Nat.beq i 39) (some (.invokevirtual 30, 3, (5, 2, 2, 256), 0, 0, [])) none) (cond (Nat.ble i 42) (cond (Nat.beq i 42) (some (.iinc 2 1, 3, (2, 0, 0, 0), 1, 0, [])) none) (cond (Nat.beq i 45) (some (.goto (-38), 3, (7, 0, 0, 0), 0, 0, [])) none))) (cond (Nat.ble i 48) (cond (Nat.beq i 48) (some (.aload_n 0, 1, (0, 0, 0, 0), 0, 0, [])) none) (cond (Nat.ble i 49) (cond (Nat.beq i 49) (some (.getfield 17, 3, (2, 0, 2, 20), 0, 0, [])) none) (cond (Nat.beq i 52) (some (.iload_n 1, 1, (1, 0, 0, 0), 0, 0, [])) none)))) (cond (Nat.ble i 57) (cond (Nat.ble i 53) (cond (Nat.beq i 53) (some (.aload_n 0, 1, (0, 0, 0, 0), 0, 0, [])) none) (cond (Nat.ble i 54) (cond (Nat.beq i 54) (some (.getfield 17, 3, (2, 0, 2, 20), 0, 0, [])) none) (cond (Nat.beq i 57) (some (.bipush 24, 2, (0, 0, 0, 0), 24, 0, [])) none))) (cond (Nat.ble i 59) (cond (Nat.beq i 59) (some (.iaload, 1, (0, 0, 0, 0), 0, 0, [])) none) (cond (Nat.ble i 60) (cond (Nat.beq i 60) (some (.iastore, 1, (0, 0, 0, 0), 0, 0, [])) none) (cond (Nat.beq i 61) (some (.aload_n 0, 1, (0, 0, 0, 0), 0, 0, [])) none))))) (cond (Nat.ble i 70) (cond (Nat.ble i 67) (cond (Nat.ble i 62) (cond (Nat.beq i 62) (some (.getfield 17, 3, (2, 0, 2, 20), 0, 0, [])) none) (cond (Nat.ble i 65) (cond (Nat.beq i 65) (some (.bipush 24, 2, (0, 0, 0, 0), 24, 0, [])) none) (cond (Nat.beq i 67) (some (.iconst 0, 1, (0, 0, 0, 0), 0, 0, [])) none))) (cond (Nat.ble i 68) (cond (Nat.beq i 68) (some (.iastore, 1, (0, 0, 0, 0), 0, 0, [])) none) (cond (Nat.ble i 69) (cond (Nat.beq i 69) (some (.aload_n 0, 1, (0, 0, 0, 0), 0, 0, [])) none) (cond (Nat.beq i 70) (some (.dup, 1, (0, 0, 0, 0), 0, 0, [])) none)))) (cond (Nat.ble i 75) (cond (Nat.ble i 71) (cond (Nat.beq i 71) (some (.getfield 21, 3, (0, 0, 2, 0), 0, 0, [])) none) (cond (Nat.ble i 74) (cond (Nat.beq i 74) (some (.iconst 1, 1, (0, 0, 0, 0), 1, 0, [])) none) (cond (Nat.beq i 75) (some (.iadd, 1, (0, 0, 0, 0), 0, 0, [])) none))) (cond (Nat.ble i 76) (cond (Nat.beq i 76) (some (.putfield 21, 3, (0, 0, 2, 0), 0, 0, [])) none) (cond (Nat.ble i 79) (cond (Nat.beq i 79) (some (.iload_n 1, 1, (1, 0, 0, 0), 0, 0, [])) none) (cond (Nat.beq i 80) (some (.ireturn, 1, (0, 0, 0, 0), 0, 0, [])) none))))))
/-- Book_removeChanges -/
def pd_k2 (i : Nat) : Option pd_O := cond (Nat.ble i 32) (cond (Nat.ble i 13) (cond (Nat.ble i 6) (cond (Nat.ble i 1) (cond (Nat.ble i 0) (cond (Nat.beq i 0) (some (.aload_n 0, 1, (0, 0, 0, 0), 0, 0, [])) none) (cond (Nat.beq i 1) (some (.getfield 17, 3, (2, 0, 2, 20), 0, 0, [])) none)) (cond (Nat.ble i 4) (cond (Nat.beq i 4) (some (.iload_n 1, 1, (1, 0, 0, 0), 0, 0, [])) none) (cond (Nat.ble i 5) (cond (Nat.beq i 5) (some (.iaload, 1, (0, 0, 0, 0), 0, 0, [])) none) (cond (Nat.beq i 6) (some (.istore_n 3, 1, (3, 0, 0, 0), 0, 0, [])) none)))) (cond (Nat.ble i 8) (cond (Nat.ble i 7) (cond (Nat.beq i 7) (some (.iconst 0, 1, (0, 0, 0, 0), 0, 0, [])) none) (cond (Nat.beq i 8) (some (.istore 4, 2, (4, 0, 0, 0), 0, 0, [])) none)) (cond (Nat.ble i 10) (cond (Nat.beq i 10) (some (.iconst 0, 1, (0, 0, 0, 0), 0, 0, [])) none) (cond (Nat.ble i 11) (cond (Nat.beq i 11) (some (.istore 5, 2, (5, 0, 0, 0), 0, 0, [])) none) (cond (Nat.beq i 13) (some (.iload 5, 2, (5, 0, 0, 0), 0, 0, [])) none))))) (cond (Nat.ble i 22) (cond (Nat.ble i 16) (cond (Nat.ble i 15) (cond (Nat.beq i 15) (some (.iload_n 3, 1, (3, 0, 0, 0), 0, 0, [])) none) (cond (Nat.beq i 16) (some (.if_icmp .ge 46, 3, (62, 0, 0, 0), 0, 0, [])) none)) (cond (Nat.ble i 19) (cond (Nat.beq i 19) (some (.iload_n 2, 1, (2, 0, 0, 0), 0, 0, [])) none) (cond (Nat.ble i 20) (cond (Nat.beq i 20) (some (.iload 5, 2, (5, 0, 0, 0), 0, 0, [])) none) (cond (Nat.beq i 22) (some (.ishr, 1, (0, 0, 0, 0), 0, 0, [])) none)))) (cond (Nat.ble i 25) (cond (Nat.ble i 23) (cond (Nat.beq i 23) (some (.iconst 1, 1, (0, 0, 0, 0), 1, 0, [])) none) (cond (Nat.ble i 24) (cond (Nat.beq i 24) (some (.iand, 1, (0, 0, 0, 0), 0, 0, [])) none) (cond (Nat.beq i 25) (some (.ifCond .ne 31, 3, (56, 0, 0, 0), 0, 0, [])) none))) (cond (Nat.ble i 28) (cond (Nat.beq i 28) (some (.aload_n 0, 1, (0, 0, 0, 0), 0, 0, [])) none) (cond (Nat.ble i 29) (cond (Nat.beq i 29) (some (.getfield 11, 3, (2, 0, 1, 23), 0, 0, [])) none) (cond (Nat.beq i 32) (some (.iload_n 1, 1, (1, 0, 0, 0), 0, 0, [])) none)))))) (cond (Nat.ble i 53) (cond (Nat.ble i 40) (cond (Nat.ble i 35) (cond (Nat.ble i 33) (cond (Nat.beq i 33) (some (.iload 4, 2, (4, 0, 0, 0), 0, 0, [])) none) (cond (Nat.beq i 35) (some (.invokestatic 26, 3, (69, 2, 2, 1), 0, 0, [])) none)) (cond (Nat.ble i 38) (cond (Nat.beq i 38) (some (.aaload, 1, (0, 0, 0, 0), 0, 0, [])) none) (cond (Nat.ble i 39) (cond (Nat.beq i 39) (some (.aload_n 0, 1, (0, 0, 0, 0), 0, 0, [])) none) (cond (Nat.beq i 40) (some (.getfield 11, 3, (2, 0, 1, 23), 0, 0, [])) none)))) (cond (Nat.ble i 46) (cond (Nat.ble i 43) (cond (Nat.beq i 43) (some (.iload_n 1, 1, (1, 0, 0, 0), 0, 0, [])) none) (cond (Nat.ble i 44) (cond (Nat.beq i 44) (some (.iload 5, 2, (5, 0, 0, 0), 0, 0, [])) none) (cond (Nat.beq i 46) (some (.invokestatic 26, 3, (69, 2, 2, 1), 0, 0, [])) none))) (cond (Nat.ble i 49) (cond (Nat.beq i 49) (some (.aaload, 1, (0, 0, 0, 0), 0, 0, [])) none) (cond (Nat.ble i 50) (cond (Nat.beq i 50) (some (.invokevirtual 30, 3, (5, 2, 2, 256), 0, 0, [])) none) (cond (Nat.beq i 53) (some (.iinc 4 1, 3, (4, 0, 0, 0), 1, 0, [])) none))))) (cond (Nat.ble i 66) (cond (Nat.ble i 59) (cond (Nat.ble i 56) (cond (Nat.beq i 56) (some (.iinc 5 1, 3, (5, 0, 0, 0), 1, 0, [])) none) (cond (Nat.beq i 59) (some (.goto (-46), 3, (13, 0, 0, 0), 0, 0, [])) none)) (cond (Nat.ble i 62) (cond (Nat.beq i 62) (some (.aload_n 0, 1, (0, 0, 0, 0), 0, 0, [])) none) (cond (Nat.ble i 63) (cond (Nat.beq i 63) (some (.getfield 17, 3, (2, 0, 2, 20), 0, 0, [])) none) (cond (Nat.beq i 66) (some (.iload_n 1, 1, (1, 0, 0, 0), 0, 0, [])) none)))) (cond (Nat.ble i 70) (cond (Nat.ble i 67) (cond (Nat.beq i 67) (some (.iload 4, 2, (4, 0, 0, 0), 0, 0, [])) none) (cond (Nat.ble i 69) (cond (Nat.beq i 69) (some (.iastore, 1, (0, 0, 0, 0), 0, 0, [])) none) (cond (Nat.beq i 70) (some (.iload_n 3, 1, (3, 0, 0, 0), 0, 0, [])) none))) (cond (Nat.ble i 71) (cond (Nat.beq i 71) (some (.iload 4, 2, (4, 0, 0, 0), 0, 0, [])) none) (cond (Nat.ble i 73) (cond (Nat.beq i 73) (some (.isub, 1, (0, 0, 0, 0), 0, 0, [])) none) (cond (Nat.beq i 74) (some (.ireturn, 1, (0, 0, 0, 0), 0, 0, [])) none))))))
/-- Book_touches -/
def pd_k3 (i : Nat) : Option pd_O := cond (Nat.ble i 21) (cond (Nat.ble i 8) (cond (Nat.ble i 2) (cond (Nat.ble i 0) (cond (Nat.beq i 0) (some (.iconst 0, 1, (0, 0, 0, 0), 0, 0, [])) none) (cond (Nat.ble i 1) (cond (Nat.beq i 1) (some (.istore_n 3, 1, (3, 0, 0, 0), 0, 0, [])) none) (cond (Nat.beq i 2) (some (.iload_n 3, 1, (3, 0, 0, 0), 0, 0, [])) none))) (cond (Nat.ble i 4) (cond (Nat.ble i 3) (cond (Nat.beq i 3) (some (.aload_n 0, 1, (0, 0, 0, 0), 0, 0, [])) none) (cond (Nat.beq i 4) (some (.getfield 17, 3, (2, 0, 2, 20), 0, 0, [])) none)) (cond (Nat.ble i 7) (cond (Nat.beq i 7) (some (.iload_n 1, 1, (1, 0, 0, 0), 0, 0, [])) none) (cond (Nat.beq i 8) (some (.iaload, 1, (0, 0, 0, 0), 0, 0, [])) none)))) (cond (Nat.ble i 13) (cond (Nat.ble i 9) (cond (Nat.beq i 9) (some (.if_icmp .ge 41, 3, (50, 0, 0, 0), 0, 0, [])) none) (cond (Nat.ble i 12) (cond (Nat.beq i 12) (some (.aload_n 0, 1, (0, 0, 0, 0), 0, 0, [])) none) (cond (Nat.beq i 13) (some (.getfield 11, 3, (2, 0, 1, 23), 0, 0, [])) none))) (cond (Nat.ble i 17) (cond (Nat.ble i 16) (cond (Nat.beq i 16) (some (.iload_n 1, 1, (1, 0, 0, 0), 0, 0, [])) none) (cond (Nat.beq i 17) (some (.iload_n 3, 1, (3, 0, 0, 0), 0, 0, [])) none)) (cond (Nat.ble i 18) (cond (Nat.beq i 18) (some (.invokestatic 26, 3, (69, 2, 2, 1), 0, 0, [])) none) (cond (Nat.beq i 21) (some (.aaload, 1, (0, 0, 0, 0), 0, 0, [])) none))))) (cond (Nat.ble i 35) (cond (Nat.ble i 26) (cond (Nat.ble i 22) (cond (Nat.beq i 22) (some (.astore 4, 2, (4, 0, 0, 0), 0, 0, [])) none) (cond (Nat.ble i 24) (cond (Nat.beq i 24) (some (.aload 4, 2, (4, 0, 0, 0), 0, 0, [])) none) (cond (Nat.beq i 26) (some (.getfield 34, 3, (0, 1, 3, 0), 0, 0, [])) none))) (cond (Nat.ble i 30) (cond (Nat.ble i 29) (cond (Nat.beq i 29) (some (.iload_n 2, 1, (2, 0, 0, 0), 0, 0, [])) none) (cond (Nat.beq i 30) (some (.if_icmp .eq 12, 3, (42, 0, 0, 0), 0, 0, [])) none)) (cond (Nat.ble i 33) (cond (Nat.beq i 33) (some (.aload 4, 2, (4, 0, 0, 0), 0, 0, [])) none) (cond (Nat.beq i 35) (some (.getfield 37, 3, (0, 1, 0, 0), 0, 0, [])) none)))) (cond (Nat.ble i 43) (cond (Nat.ble i 39) (cond (Nat.ble i 38) (cond (Nat.beq i 38) (some (.iload_n 2, 1, (2, 0, 0, 0), 0, 0, [])) none) (cond (Nat.beq i 39) (some (.if_icmp .ne 5, 3, (44, 0, 0, 0), 0, 0, [])) none)) (cond (Nat.ble i 42) (cond (Nat.beq i 42) (some (.iconst 1, 1, (0, 0, 0, 0), 1, 0, [])) none) (cond (Nat.beq i 43) (some (.ireturn, 1, (1, 0, 0, 0), 0, 0, [])) none))) (cond (Nat.ble i 47) (cond (Nat.ble i 44) (cond (Nat.beq i 44) (some (.iinc 3 1, 3, (3, 0, 0, 0), 1, 0, [])) none) (cond (Nat.beq i 47) (some (.goto (-45), 3, (2, 0, 0, 0), 0, 0, [])) none)) (cond (Nat.ble i 50) (cond (Nat.beq i 50) (some (.iconst 0, 1, (0, 0, 0, 0), 0, 0, [])) none) (cond (Nat.beq i 51) (some (.ireturn, 1, (1, 0, 0, 0), 0, 0, [])) none)))))
/-- Change_become -/
def pd_k4 (i : Nat) : Option pd_O := cond (Nat.ble i 12) (cond (Nat.ble i 5) (cond (Nat.ble i 1) (cond (Nat.ble i 0) (cond (Nat.beq i 0) (some (.aload_n 0, 1, (0, 0, 0, 0), 0, 0, [])) none) (cond (Nat.beq i 1) (some (.iload_n 1, 1, (1, 0, 0, 0), 0, 0, [])) none)) (cond (Nat.ble i 2) (cond (Nat.beq i 2) (some (.putfield 9, 3, (0, 1, 0, 0), 0, 0, [])) none) (cond (Nat.beq i 5) (some (.aload_n 0, 1, (0, 0, 0, 0), 0, 0, [])) none))) (cond (Nat.ble i 7) (cond (Nat.ble i 6) (cond (Nat.beq i 6) (some (.iload_n 2, 1, (2, 0, 0, 0), 0, 0, [])) none) (cond (Nat.beq i 7) (some (.putfield 15, 3, (0, 1, 1, 0), 0, 0, [])) none)) (cond (Nat.ble i 10) (cond (Nat.beq i 10) (some (.aload_n 0, 1, (0, 0, 0, 0), 0, 0, [])) none) (cond (Nat.ble i 11) (cond (Nat.beq i 11) (some (.iload_n 3, 1, (3, 0, 0, 0), 0, 0, [])) none) (cond (Nat.beq i 12) (some (.putfield 18, 3, (0, 1, 2, 0), 0, 0, [])) none))))) (cond (Nat.ble i 22) (cond (Nat.ble i 16) (cond (Nat.ble i 15) (cond (Nat.beq i 15) (some (.aload_n 0, 1, (0, 0, 0, 0), 0, 0, [])) none) (cond (Nat.beq i 16) (some (.iload 4, 2, (4, 0, 0, 0), 0, 0, [])) none)) (cond (Nat.ble i 18) (cond (Nat.beq i 18) (some (.putfield 21, 3, (0, 1, 3, 0), 0, 0, [])) none) (cond (Nat.ble i 21) (cond (Nat.beq i 21) (some (.aload_n 0, 1, (0, 0, 0, 0), 0, 0, [])) none) (cond (Nat.beq i 22) (some (.iload 5, 2, (5, 0, 0, 0), 0, 0, [])) none)))) (cond (Nat.ble i 27) (cond (Nat.ble i 24) (cond (Nat.beq i 24) (some (.putfield 24, 3, (0, 1, 4, 0), 0, 0, [])) none) (cond (Nat.beq i 27) (some (.aload_n 0, 1, (0, 0, 0, 0), 0, 0, [])) none)) (cond (Nat.ble i 28) (cond (Nat.beq i 28) (some (.iload 6, 2, (6, 0, 0, 0), 0, 0, [])) none) (cond (Nat.ble i 30) (cond (Nat.beq i 30) (some (.putfield 27, 3, (0, 1, 5, 0), 0, 0, [])) none) (cond (Nat.beq i 33) (some (.return_, 1, (0, 0, 0, 0), 0, 0, [])) none)))))
/-- Change_becomeLike -/
def pd_k5 (i : Nat) : Option pd_O := cond (Nat.ble i 10) (cond (Nat.ble i 2) (cond (Nat.ble i 0) (cond (Nat.beq i 0) (some (.aload_n 0, 1, (0, 0, 0, 0), 0, 0, [])) none) (cond (Nat.ble i 1) (cond (Nat.beq i 1) (some (.aload_n 1, 1, (1, 0, 0, 0), 0, 0, [])) none) (cond (Nat.beq i 2) (some (.getfield 9, 3, (0, 1, 0, 0), 0, 0, [])) none))) (cond (Nat.ble i 6) (cond (Nat.ble i 5) (cond (Nat.beq i 5) (some (.aload_n 1, 1, (1, 0, 0, 0), 0, 0, [])) none) (cond (Nat.beq i 6) (some (.getfield 15, 3, (0, 1, 1, 0), 0, 0, [])) none)) (cond (Nat.ble i 9) (cond (Nat.beq i 9) (some (.aload_n 1, 1, (1, 0, 0, 0), 0, 0, [])) none) (cond (Nat.beq i 10) (some (.getfield 18, 3, (0, 1, 2, 0), 0, 0, [])) none)))) (cond (Nat.ble i 18) (cond (Nat.ble i 14) (cond (Nat.ble i 13) (cond (Nat.beq i 13) (some (.aload_n 1, 1, (1, 0, 0, 0), 0, 0, [])) none) (cond (Nat.beq i 14) (some (.getfield 21, 3, (0, 1, 3, 0), 0, 0, [])) none)) (cond (Nat.ble i 17) (cond (Nat.beq i 17) (some (.aload_n 1, 1, (1, 0, 0, 0), 0, 0, [])) none) (cond (Nat.beq i 18) (some (.getfield 24, 3, (0, 1, 4, 0), 0, 0, [])) none))) (cond (Nat.ble i 22) (cond (Nat.ble i 21) (cond (Nat.beq i 21) (some (.aload_n 1, 1, (1, 0, 0, 0), 0, 0, [])) none) (cond (Nat.beq i 22) (some (.getfield 27, 3, (0, 1, 5, 0), 0, 0, [])) none)) (cond (Nat.ble i 25) (cond (Nat.beq i 25) (some (.invokevirtual 30, 3, (4, 7, 7, 256), 0, 0, [])) none) (cond (Nat.beq i 28) (some (.return_, 1, (0, 0, 0, 0), 0, 0, [])) none))))
/-- Change_isCopy -/
def pd_k6 (i : Nat) : Option pd_O := cond (Nat.ble i 5) (cond (Nat.ble i 1) (cond (Nat.ble i 0) (cond (Nat.beq i 0) (some (.aload_n 0, 1, (0, 0, 0, 0), 0, 0, [])) none) (cond (Nat.beq i 1) (some (.getfield 9, 3, (0, 1, 0, 0), 0, 0, [])) none)) (cond (Nat.ble i 4) (cond (Nat.beq i 4) (some (.iconst (-1), 1, (0, 0, 0, 0), -1, 0, [])) none) (cond (Nat.beq i 5) (some (.if_icmp .eq 7, 3, (12, 0, 0, 0), 0, 0, [])) none))) (cond (Nat.ble i 9) (cond (Nat.ble i 8) (cond (Nat.beq i 8) (some (.iconst 1, 1, (0, 0, 0, 0), 1, 0, [])) none) (cond (Nat.beq i 9) (some (.goto 4, 3, (13, 0, 0, 0), 0, 0, [])) none)) (cond (Nat.ble i 12) (cond (Nat.beq i 12) (some (.iconst 0, 1, (0, 0, 0, 0), 0, 0, [])) none) (cond (Nat.beq i 13) (some (.ireturn, 1, (1, 0, 0, 0), 0, 0, [])) none)))
/-- Run_standLike -/
def pd_k7 (i : Nat) : Option pd_O := cond (Nat.ble i 4) (cond (Nat.ble i 0) (cond (Nat.beq i 0) (some (.aload_n 0, 1, (0, 0, 0, 0), 0, 0, [])) none) (cond (Nat.ble i 1) (cond (Nat.beq i 1) (some (.getfield 23, 3, (2, 2, 3, 8), 0, 0, [])) none) (cond (Nat.beq i 4) (some (.aload_n 1, 1, (1, 0, 0, 0), 0, 0, [])) none))) (cond (Nat.ble i 5) (cond (Nat.beq i 5) (some (.getfield 23, 3, (2, 2, 3, 8), 0, 0, [])) none) (cond (Nat.ble i 8) (cond (Nat.beq i 8) (some (.invokevirtual 84, 3, (35, 2, 4, 2048), 0, 0, [])) none) (cond (Nat.beq i 11) (some (.return_, 1, (0, 0, 0, 0), 0, 0, [])) none)))
/-- Run_play -/
def pd_k8 (i : Nat) : Option pd_O := cond (Nat.ble i 61) (cond (Nat.ble i 28) (cond (Nat.ble i 15) (cond (Nat.ble i 5) (cond (Nat.ble i 1) (cond (Nat.ble i 0) (cond (Nat.beq i 0) (some (.aload_n 0, 1, (0, 0, 0, 0), 0, 0, [])) none) (cond (Nat.beq i 1) (some (.getfield 23, 3, (2, 2, 3, 8), 0, 0, [])) none)) (cond (Nat.ble i 4) (cond (Nat.beq i 4) (some (.aload_n 0, 1, (0, 0, 0, 0), 0, 0, [])) none) (cond (Nat.beq i 5) (some (.getfield 76, 3, (3, 2, 1, 5), 0, 0, [])) none))) (cond (Nat.ble i 11) (cond (Nat.ble i 8) (cond (Nat.beq i 8) (some (.getfield 88, 3, (2, 5, 3, 8), 0, 0, [])) none) (cond (Nat.beq i 11) (some (.invokevirtual 84, 3, (35, 2, 4, 2048), 0, 0, [])) none)) (cond (Nat.ble i 14) (cond (Nat.beq i 14) (some (.iconst 0, 1, (0, 0, 0, 0), 0, 0, [])) none) (cond (Nat.beq i 15) (some (.istore_n 1, 1, (1, 0, 0, 0), 0, 0, [])) none)))) (cond (Nat.ble i 22) (cond (Nat.ble i 17) (cond (Nat.ble i 16) (cond (Nat.beq i 16) (some (.iload_n 1, 1, (1, 0, 0, 0), 0, 0, [])) none) (cond (Nat.beq i 17) (some (.bipush 72, 2, (0, 0, 0, 0), 72, 0, [])) none)) (cond (Nat.ble i 19) (cond (Nat.beq i 19) (some (.if_icmp .ge 16, 3, (35, 0, 0, 0), 0, 0, [])) none) (cond (Nat.beq i 22) (some (.aload_n 0, 1, (0, 0, 0, 0), 0, 0, [])) none))) (cond (Nat.ble i 26) (cond (Nat.ble i 23) (cond (Nat.beq i 23) (some (.getfield 27, 3, (2, 2, 6, 20), 0, 0, [])) none) (cond (Nat.beq i 26) (some (.iload_n 1, 1, (1, 0, 0, 0), 0, 0, [])) none)) (cond (Nat.ble i 27) (cond (Nat.beq i 27) (some (.iconst (-1), 1, (0, 0, 0, 0), -1, 0, [])) none) (cond (Nat.beq i 28) (some (.iastore, 1, (0, 0, 0, 0), 0, 0, [])) none))))) (cond (Nat.ble i 42) (cond (Nat.ble i 36) (cond (Nat.ble i 32) (cond (Nat.ble i 29) (cond (Nat.beq i 29) (some (.iinc 1 1, 3, (1, 0, 0, 0), 1, 0, [])) none) (cond (Nat.beq i 32) (some (.goto (-16), 3, (16, 0, 0, 0), 0, 0, [])) none)) (cond (Nat.ble i 35) (cond (Nat.beq i 35) (some (.aload_n 0, 1, (0, 0, 0, 0), 0, 0, [])) none) (cond (Nat.beq i 36) (some (.iconst 0, 1, (0, 0, 0, 0), 0, 0, [])) none))) (cond (Nat.ble i 40) (cond (Nat.ble i 37) (cond (Nat.beq i 37) (some (.putfield 47, 3, (0, 2, 10, 0), 0, 0, [])) none) (cond (Nat.beq i 40) (some (.iconst 0, 1, (0, 0, 0, 0), 0, 0, [])) none)) (cond (Nat.ble i 41) (cond (Nat.beq i 41) (some (.istore_n 1, 1, (1, 0, 0, 0), 0, 0, [])) none) (cond (Nat.beq i 42) (some (.iload_n 1, 1, (1, 0, 0, 0), 0, 0, [])) none)))) (cond (Nat.ble i 50) (cond (Nat.ble i 44) (cond (Nat.ble i 43) (cond (Nat.beq i 43) (some (.aload_n 0, 1, (0, 0, 0, 0), 0, 0, [])) none) (cond (Nat.beq i 44) (some (.getfield 12, 3, (2, 2, 1, 4), 0, 0, [])) none)) (cond (Nat.ble i 47) (cond (Nat.beq i 47) (some (.getfield 93, 3, (0, 4, 1, 0), 0, 0, [])) none) (cond (Nat.beq i 50) (some (.if_icmp .ge 68, 3, (118, 0, 0, 0), 0, 0, [])) none))) (cond (Nat.ble i 54) (cond (Nat.ble i 53) (cond (Nat.beq i 53) (some (.aload_n 0, 1, (0, 0, 0, 0), 0, 0, [])) none) (cond (Nat.beq i 54) (some (.getfield 12, 3, (2, 2, 1, 4), 0, 0, [])) none)) (cond (Nat.ble i 57) (cond (Nat.beq i 57) (some (.getfield 96, 3, (2, 4, 1, 20), 0, 0, [])) none) (cond (Nat.ble i 60) (cond (Nat.beq i 60) (some (.iload_n 1, 1, (1, 0, 0, 0), 0, 0, [])) none) (cond (Nat.beq i 61) (some (.iaload, 1, (0, 0, 0, 0), 0, 0, [])) none))))))) (cond (Nat.ble i 85) (cond (Nat.ble i 73) (cond (Nat.ble i 65) (cond (Nat.ble i 63) (cond (Nat.ble i 62) (cond (Nat.beq i 62) (some (.istore_n 2, 1, (2, 0, 0, 0), 0, 0, [])) none) (cond (Nat.beq i 63) (some (.iconst 0, 1, (0, 0, 0, 0), 0, 0, [])) none)) (cond (Nat.ble i 64) (cond (Nat.beq i 64) (some (.istore_n 3, 1, (3, 0, 0, 0), 0, 0, [])) none) (cond (Nat.beq i 65) (some (.iload_n 3, 1, (3, 0, 0, 0), 0, 0, [])) none))) (cond (Nat.ble i 67) (cond (Nat.ble i 66) (cond (Nat.beq i 66) (some (.aload_n 0, 1, (0, 0, 0, 0), 0, 0, [])) none) (cond (Nat.beq i 67) (some (.getfield 80, 3, (3, 2, 7, 0), 0, 0, [])) none)) (cond (Nat.ble i 70) (cond (Nat.beq i 70) (some (.getfield 99, 3, (2, 0, 2, 20), 0, 0, [])) none) (cond (Nat.beq i 73) (some (.iload_n 2, 1, (2, 0, 0, 0), 0, 0, [])) none)))) (cond (Nat.ble i 79) (cond (Nat.ble i 75) (cond (Nat.ble i 74) (cond (Nat.beq i 74) (some (.iaload, 1, (0, 0, 0, 0), 0, 0, [])) none) (cond (Nat.beq i 75) (some (.if_icmp .ge 37, 3, (112, 0, 0, 0), 0, 0, [])) none)) (cond (Nat.ble i 78) (cond (Nat.beq i 78) (some (.aload_n 0, 1, (0, 0, 0, 0), 0, 0, [])) none) (cond (Nat.beq i 79) (some (.aload_n 0, 1, (0, 0, 0, 0), 0, 0, [])) none))) (cond (Nat.ble i 81) (cond (Nat.ble i 80) (cond (Nat.beq i 80) (some (.iload_n 2, 1, (2, 0, 0, 0), 0, 0, [])) none) (cond (Nat.beq i 81) (some (.iload_n 3, 1, (3, 0, 0, 0), 0, 0, [])) none)) (cond (Nat.ble i 82) (cond (Nat.beq i 82) (some (.invokevirtual 104, 3, (9, 3, 5, 513), 0, 0, [])) none) (cond (Nat.beq i 85) (some (.putfield 47, 3, (0, 2, 10, 0), 0, 0, [])) none))))) (cond (Nat.ble i 101) (cond (Nat.ble i 95) (cond (Nat.ble i 89) (cond (Nat.ble i 88) (cond (Nat.beq i 88) (some (.aload_n 0, 1, (0, 0, 0, 0), 0, 0, [])) none) (cond (Nat.beq i 89) (some (.getfield 47, 3, (0, 2, 10, 0), 0, 0, [])) none)) (cond (Nat.ble i 92) (cond (Nat.beq i 92) (some (.ifCond .eq 14, 3, (106, 0, 0, 0), 0, 0, [])) none) (cond (Nat.beq i 95) (some (.aload_n 0, 1, (0, 0, 0, 0), 0, 0, [])) none))) (cond (Nat.ble i 97) (cond (Nat.ble i 96) (cond (Nat.beq i 96) (some (.iload_n 2, 1, (2, 0, 0, 0), 0, 0, [])) none) (cond (Nat.beq i 97) (some (.putfield 51, 3, (0, 2, 11, 0), 0, 0, [])) none)) (cond (Nat.ble i 100) (cond (Nat.beq i 100) (some (.aload_n 0, 1, (0, 0, 0, 0), 0, 0, [])) none) (cond (Nat.beq i 101) (some (.iload_n 3, 1, (3, 0, 0, 0), 0, 0, [])) none)))) (cond (Nat.ble i 109) (cond (Nat.ble i 105) (cond (Nat.ble i 102) (cond (Nat.beq i 102) (some (.putfield 54, 3, (0, 2, 12, 0), 0, 0, [])) none) (cond (Nat.beq i 105) (some (.return_, 1, (0, 0, 0, 0), 0, 0, [])) none)) (cond (Nat.ble i 106) (cond (Nat.beq i 106) (some (.iinc 3 1, 3, (3, 0, 0, 0), 1, 0, [])) none) (cond (Nat.beq i 109) (some (.goto (-44), 3, (65, 0, 0, 0), 0, 0, [])) none))) (cond (Nat.ble i 115) (cond (Nat.ble i 112) (cond (Nat.beq i 112) (some (.iinc 1 1, 3, (1, 0, 0, 0), 1, 0, [])) none) (cond (Nat.beq i 115) (some (.goto (-73), 3, (42, 0, 0, 0), 0, 0, [])) none)) (cond (Nat.ble i 118) (cond (Nat.beq i 118) (some (.aload_n 0, 1, (0, 0, 0, 0), 0, 0, [])) none) (cond (Nat.ble i 119) (cond (Nat.beq i 119) (some (.invokevirtual 108, 3, (12, 1, 4, 512), 0, 0, [])) none) (cond (Nat.beq i 122) (some (.return_, 1, (0, 0, 0, 0), 0, 0, [])) none)))))))
/-- Run_step -/
def pd_k9 (i : Nat) : Option pd_O := cond (Nat.ble i 71) (cond (Nat.ble i 32) (cond (Nat.ble i 15) (cond (Nat.ble i 6) (cond (Nat.ble i 1) (cond (Nat.ble i 0) (cond (Nat.beq i 0) (some (.iload_n 1, 1, (1, 0, 0, 0), 0, 0, [])) none) (cond (Nat.beq i 1) (some (.iload_n 2, 1, (2, 0, 0, 0), 0, 0, [])) none)) (cond (Nat.ble i 2) (cond (Nat.beq i 2) (some (.invokestatic 111, 3, (69, 2, 2, 1), 0, 0, [])) none) (cond (Nat.ble i 5) (cond (Nat.beq i 5) (some (.istore_n 3, 1, (3, 0, 0, 0), 0, 0, [])) none) (cond (Nat.beq i 6) (some (.aload_n 0, 1, (0, 0, 0, 0), 0, 0, [])) none)))) (cond (Nat.ble i 10) (cond (Nat.ble i 7) (cond (Nat.beq i 7) (some (.getfield 80, 3, (3, 2, 7, 0), 0, 0, [])) none) (cond (Nat.beq i 10) (some (.getfield 114, 3, (2, 0, 1, 23), 0, 0, [])) none)) (cond (Nat.ble i 13) (cond (Nat.beq i 13) (some (.iload_n 3, 1, (3, 0, 0, 0), 0, 0, [])) none) (cond (Nat.ble i 14) (cond (Nat.beq i 14) (some (.aaload, 1, (0, 0, 0, 0), 0, 0, [])) none) (cond (Nat.beq i 15) (some (.astore 4, 2, (4, 0, 0, 0), 0, 0, [])) none))))) (cond (Nat.ble i 23) (cond (Nat.ble i 18) (cond (Nat.ble i 17) (cond (Nat.beq i 17) (some (.aload_n 0, 1, (0, 0, 0, 0), 0, 0, [])) none) (cond (Nat.beq i 18) (some (.iconst (-1), 1, (0, 0, 0, 0), -1, 0, [])) none)) (cond (Nat.ble i 19) (cond (Nat.beq i 19) (some (.putfield 57, 3, (0, 2, 13, 0), 0, 0, [])) none) (cond (Nat.ble i 22) (cond (Nat.beq i 22) (some (.aload_n 0, 1, (0, 0, 0, 0), 0, 0, [])) none) (cond (Nat.beq i 23) (some (.iconst (-1), 1, (0, 0, 0, 0), -1, 0, [])) none)))) (cond (Nat.ble i 27) (cond (Nat.ble i 24) (cond (Nat.beq i 24) (some (.putfield 63, 3, (0, 2, 15, 0), 0, 0, [])) none) (cond (Nat.beq i 27) (some (.aload_n 0, 1, (0, 0, 0, 0), 0, 0, [])) none)) (cond (Nat.ble i 28) (cond (Nat.beq i 28) (some (.getfield 41, 3, (2, 2, 14, 20), 0, 0, [])) none) (cond (Nat.ble i 31) (cond (Nat.beq i 31) (some (.iload_n 3, 1, (3, 0, 0, 0), 0, 0, [])) none) (cond (Nat.beq i 32) (some (.iconst (-1), 1, (0, 0, 0, 0), -1, 0, [])) none)))))) (cond (Nat.ble i 50) (cond (Nat.ble i 42) (cond (Nat.ble i 34) (cond (Nat.ble i 33) (cond (Nat.beq i 33) (some (.iastore, 1, (0, 0, 0, 0), 0, 0, [])) none) (cond (Nat.beq i 34) (some (.aload 4, 2, (4, 0, 0, 0), 0, 0, [])) none)) (cond (Nat.ble i 36) (cond (Nat.beq i 36) (some (.invokevirtual 118, 3, (6, 1, 1, 257), 0, 0, [])) none) (cond (Nat.ble i 39) (cond (Nat.beq i 39) (some (.ifCond .eq 22, 3, (61, 0, 0, 0), 0, 0, [])) none) (cond (Nat.beq i 42) (some (.aload_n 0, 1, (0, 0, 0, 0), 0, 0, [])) none)))) (cond (Nat.ble i 45) (cond (Nat.ble i 43) (cond (Nat.beq i 43) (some (.aload 4, 2, (4, 0, 0, 0), 0, 0, [])) none) (cond (Nat.beq i 45) (some (.iload_n 3, 1, (3, 0, 0, 0), 0, 0, [])) none)) (cond (Nat.ble i 46) (cond (Nat.beq i 46) (some (.invokevirtual 124, 3, (10, 3, 5, 512), 0, 0, [])) none) (cond (Nat.ble i 49) (cond (Nat.beq i 49) (some (.aload_n 0, 1, (0, 0, 0, 0), 0, 0, [])) none) (cond (Nat.beq i 50) (some (.getfield 60, 3, (0, 2, 14, 0), 0, 0, [])) none))))) (cond (Nat.ble i 61) (cond (Nat.ble i 56) (cond (Nat.ble i 53) (cond (Nat.beq i 53) (some (.ifCond .eq 45, 3, (98, 0, 0, 0), 0, 0, [])) none) (cond (Nat.beq i 56) (some (.aload_n 0, 1, (0, 0, 0, 0), 0, 0, [])) none)) (cond (Nat.ble i 57) (cond (Nat.beq i 57) (some (.getfield 60, 3, (0, 2, 14, 0), 0, 0, [])) none) (cond (Nat.ble i 60) (cond (Nat.beq i 60) (some (.ireturn, 1, (0, 0, 0, 0), 0, 0, [])) none) (cond (Nat.beq i 61) (some (.aload_n 0, 1, (0, 0, 0, 0), 0, 0, [])) none)))) (cond (Nat.ble i 64) (cond (Nat.ble i 62) (cond (Nat.beq i 62) (some (.aload 4, 2, (4, 0, 0, 0), 0, 0, [])) none) (cond (Nat.beq i 64) (some (.getfield 128, 3, (0, 1, 2, 0), 0, 0, [])) none)) (cond (Nat.ble i 67) (cond (Nat.beq i 67) (some (.putfield 63, 3, (0, 2, 15, 0), 0, 0, [])) none) (cond (Nat.ble i 70) (cond (Nat.beq i 70) (some (.aload_n 0, 1, (0, 0, 0, 0), 0, 0, [])) none) (cond (Nat.beq i 71) (some (.aload 4, 2, (4, 0, 0, 0), 0, 0, [])) none))))))) (cond (Nat.ble i 117) (cond (Nat.ble i 95) (cond (Nat.ble i 83) (cond (Nat.ble i 76) (cond (Nat.ble i 73) (cond (Nat.beq i 73) (some (.getfield 128, 3, (0, 1, 2, 0), 0, 0, [])) none) (cond (Nat.beq i 76) (some (.invokestatic 131, 3, (77, 1, 1, 1), 0, 0, [])) none)) (cond (Nat.ble i 79) (cond (Nat.beq i 79) (some (.putfield 69, 3, (0, 2, 17, 0), 0, 0, [])) none) (cond (Nat.ble i 82) (cond (Nat.beq i 82) (some (.aload_n 0, 1, (0, 0, 0, 0), 0, 0, [])) none) (cond (Nat.beq i 83) (some (.aload_n 0, 1, (0, 0, 0, 0), 0, 0, [])) none)))) (cond (Nat.ble i 87) (cond (Nat.ble i 84) (cond (Nat.beq i 84) (some (.getfield 69, 3, (0, 2, 17, 0), 0, 0, [])) none) (cond (Nat.beq i 87) (some (.aload 4, 2, (4, 0, 0, 0), 0, 0, [])) none)) (cond (Nat.ble i 89) (cond (Nat.beq i 89) (some (.getfield 135, 3, (0, 1, 5, 0), 0, 0, [])) none) (cond (Nat.ble i 92) (cond (Nat.beq i 92) (some (.invokestatic 138, 3, (76, 2, 2, 2), 0, 0, [])) none) (cond (Nat.beq i 95) (some (.putfield 72, 3, (1, 2, 18, 0), 0, 0, [])) none))))) (cond (Nat.ble i 105) (cond (Nat.ble i 99) (cond (Nat.ble i 98) (cond (Nat.beq i 98) (some (.aload_n 0, 1, (0, 0, 0, 0), 0, 0, [])) none) (cond (Nat.beq i 99) (some (.aload_n 0, 1, (0, 0, 0, 0), 0, 0, [])) none)) (cond (Nat.ble i 100) (cond (Nat.beq i 100) (some (.getfield 76, 3, (3, 2, 1, 5), 0, 0, [])) none) (cond (Nat.ble i 103) (cond (Nat.beq i 103) (some (.aload 4, 2, (4, 0, 0, 0), 0, 0, [])) none) (cond (Nat.beq i 105) (some (.getfield 142, 3, (0, 1, 3, 0), 0, 0, [])) none)))) (cond (Nat.ble i 109) (cond (Nat.ble i 108) (cond (Nat.beq i 108) (some (.aload_n 0, 1, (0, 0, 0, 0), 0, 0, [])) none) (cond (Nat.beq i 109) (some (.getfield 63, 3, (0, 2, 15, 0), 0, 0, [])) none)) (cond (Nat.ble i 112) (cond (Nat.beq i 112) (some (.aload 4, 2, (4, 0, 0, 0), 0, 0, [])) none) (cond (Nat.ble i 114) (cond (Nat.beq i 114) (some (.getfield 145, 3, (0, 1, 4, 0), 0, 0, [])) none) (cond (Nat.beq i 117) (some (.invokevirtual 148, 3, (28, 4, 5, 1281), 0, 0, [])) none)))))) (cond (Nat.ble i 138) (cond (Nat.ble i 130) (cond (Nat.ble i 123) (cond (Nat.ble i 120) (cond (Nat.beq i 120) (some (.putfield 66, 3, (0, 2, 16, 0), 0, 0, [])) none) (cond (Nat.beq i 123) (some (.aload_n 0, 1, (0, 0, 0, 0), 0, 0, [])) none)) (cond (Nat.ble i 124) (cond (Nat.beq i 124) (some (.getfield 66, 3, (0, 2, 16, 0), 0, 0, [])) none) (cond (Nat.ble i 127) (cond (Nat.beq i 127) (some (.ifCond .ne 29, 3, (156, 0, 0, 0), 0, 0, [])) none) (cond (Nat.beq i 130) (some (.aload_n 0, 1, (0, 0, 0, 0), 0, 0, [])) none)))) (cond (Nat.ble i 133) (cond (Nat.ble i 131) (cond (Nat.beq i 131) (some (.aload 4, 2, (4, 0, 0, 0), 0, 0, [])) none) (cond (Nat.beq i 133) (some (.iload_n 3, 1, (3, 0, 0, 0), 0, 0, [])) none)) (cond (Nat.ble i 134) (cond (Nat.beq i 134) (some (.invokevirtual 152, 3, (11, 3, 5, 512), 0, 0, [])) none) (cond (Nat.ble i 137) (cond (Nat.beq i 137) (some (.aload_n 0, 1, (0, 0, 0, 0), 0, 0, [])) none) (cond (Nat.beq i 138) (some (.getfield 27, 3, (2, 2, 6, 20), 0, 0, [])) none))))) (cond (Nat.ble i 151) (cond (Nat.ble i 143) (cond (Nat.ble i 141) (cond (Nat.beq i 141) (some (.aload 4, 2, (4, 0, 0, 0), 0, 0, [])) none) (cond (Nat.beq i 143) (some (.getfield 142, 3, (0, 1, 3, 0), 0, 0, [])) none)) (cond (Nat.ble i 146) (cond (Nat.beq i 146) (some (.aload 4, 2, (4, 0, 0, 0), 0, 0, [])) none) (cond (Nat.ble i 148) (cond (Nat.beq i 148) (some (.getfield 145, 3, (0, 1, 4, 0), 0, 0, [])) none) (cond (Nat.beq i 151) (some (.invokestatic 155, 3, (68, 2, 2, 1), 0, 0, [])) none)))) (cond (Nat.ble i 155) (cond (Nat.ble i 154) (cond (Nat.beq i 154) (some (.iload_n 1, 1, (1, 0, 0, 0), 0, 0, [])) none) (cond (Nat.beq i 155) (some (.iastore, 1, (0, 0, 0, 0), 0, 0, [])) none)) (cond (Nat.ble i 156) (cond (Nat.beq i 156) (some (.aload_n 0, 1, (0, 0, 0, 0), 0, 0, [])) none) (cond (Nat.ble i 157) (cond (Nat.beq i 157) (some (.getfield 66, 3, (0, 2, 16, 0), 0, 0, [])) none) (cond (Nat.beq i 160) (some (.ireturn, 1, (0, 0, 0, 0), 0, 0, [])) none)))))))
/-- Run_pickUp -/
def pd_k10 (i : Nat) : Option pd_O := cond (Nat.ble i 72) (cond (Nat.ble i 38) (cond (Nat.ble i 14) (cond (Nat.ble i 5) (cond (Nat.ble i 1) (cond (Nat.ble i 0) (cond (Nat.beq i 0) (some (.aload_n 0, 1, (0, 0, 0, 0), 0, 0, [])) none) (cond (Nat.beq i 1) (some (.aload_n 1, 1, (1, 0, 0, 0), 0, 0, [])) none)) (cond (Nat.ble i 2) (cond (Nat.beq i 2) (some (.getfield 128, 3, (0, 1, 2, 0), 0, 0, [])) none) (cond (Nat.beq i 5) (some (.putfield 57, 3, (0, 2, 13, 0), 0, 0, [])) none))) (cond (Nat.ble i 9) (cond (Nat.ble i 8) (cond (Nat.beq i 8) (some (.aload_n 0, 1, (0, 0, 0, 0), 0, 0, [])) none) (cond (Nat.beq i 9) (some (.aload_n 0, 1, (0, 0, 0, 0), 0, 0, [])) none)) (cond (Nat.ble i 10) (cond (Nat.beq i 10) (some (.getfield 76, 3, (3, 2, 1, 5), 0, 0, [])) none) (cond (Nat.ble i 13) (cond (Nat.beq i 13) (some (.aload_n 1, 1, (1, 0, 0, 0), 0, 0, [])) none) (cond (Nat.beq i 14) (some (.getfield 158, 3, (0, 1, 0, 0), 0, 0, [])) none))))) (cond (Nat.ble i 25) (cond (Nat.ble i 18) (cond (Nat.ble i 17) (cond (Nat.beq i 17) (some (.aload_n 0, 1, (0, 0, 0, 0), 0, 0, [])) none) (cond (Nat.beq i 18) (some (.getfield 57, 3, (0, 2, 13, 0), 0, 0, [])) none)) (cond (Nat.ble i 21) (cond (Nat.beq i 21) (some (.aload_n 1, 1, (1, 0, 0, 0), 0, 0, [])) none) (cond (Nat.ble i 22) (cond (Nat.beq i 22) (some (.getfield 161, 3, (0, 1, 1, 0), 0, 0, [])) none) (cond (Nat.beq i 25) (some (.invokevirtual 164, 3, (27, 4, 5, 1281), 0, 0, [])) none)))) (cond (Nat.ble i 31) (cond (Nat.ble i 28) (cond (Nat.beq i 28) (some (.putfield 60, 3, (0, 2, 14, 0), 0, 0, [])) none) (cond (Nat.beq i 31) (some (.aload_n 0, 1, (0, 0, 0, 0), 0, 0, [])) none)) (cond (Nat.ble i 32) (cond (Nat.beq i 32) (some (.getfield 60, 3, (0, 2, 14, 0), 0, 0, [])) none) (cond (Nat.ble i 35) (cond (Nat.beq i 35) (some (.ifCond .eq 4, 3, (39, 0, 0, 0), 0, 0, [])) none) (cond (Nat.beq i 38) (some (.return_, 1, (0, 0, 0, 0), 0, 0, [])) none)))))) (cond (Nat.ble i 56) (cond (Nat.ble i 47) (cond (Nat.ble i 40) (cond (Nat.ble i 39) (cond (Nat.beq i 39) (some (.aload_n 1, 1, (1, 0, 0, 0), 0, 0, [])) none) (cond (Nat.beq i 40) (some (.getfield 158, 3, (0, 1, 0, 0), 0, 0, [])) none)) (cond (Nat.ble i 43) (cond (Nat.beq i 43) (some (.aload_n 1, 1, (1, 0, 0, 0), 0, 0, [])) none) (cond (Nat.ble i 44) (cond (Nat.beq i 44) (some (.getfield 161, 3, (0, 1, 1, 0), 0, 0, [])) none) (cond (Nat.beq i 47) (some (.invokestatic 155, 3, (68, 2, 2, 1), 0, 0, [])) none)))) (cond (Nat.ble i 51) (cond (Nat.ble i 50) (cond (Nat.beq i 50) (some (.istore_n 3, 1, (3, 0, 0, 0), 0, 0, [])) none) (cond (Nat.beq i 51) (some (.aload_n 0, 1, (0, 0, 0, 0), 0, 0, [])) none)) (cond (Nat.ble i 52) (cond (Nat.beq i 52) (some (.getfield 41, 3, (2, 2, 14, 20), 0, 0, [])) none) (cond (Nat.ble i 55) (cond (Nat.beq i 55) (some (.iload_n 2, 1, (2, 0, 0, 0), 0, 0, [])) none) (cond (Nat.beq i 56) (some (.aload_n 0, 1, (0, 0, 0, 0), 0, 0, [])) none))))) (cond (Nat.ble i 63) (cond (Nat.ble i 60) (cond (Nat.ble i 57) (cond (Nat.beq i 57) (some (.getfield 27, 3, (2, 2, 6, 20), 0, 0, [])) none) (cond (Nat.beq i 60) (some (.iload_n 3, 1, (3, 0, 0, 0), 0, 0, [])) none)) (cond (Nat.ble i 61) (cond (Nat.beq i 61) (some (.iaload, 1, (0, 0, 0, 0), 0, 0, [])) none) (cond (Nat.ble i 62) (cond (Nat.beq i 62) (some (.iastore, 1, (0, 0, 0, 0), 0, 0, [])) none) (cond (Nat.beq i 63) (some (.aload_n 0, 1, (0, 0, 0, 0), 0, 0, [])) none)))) (cond (Nat.ble i 67) (cond (Nat.ble i 64) (cond (Nat.beq i 64) (some (.getfield 23, 3, (2, 2, 3, 8), 0, 0, [])) none) (cond (Nat.beq i 67) (some (.getfield 167, 3, (2, 8, 1, 20), 0, 0, [])) none)) (cond (Nat.ble i 70) (cond (Nat.beq i 70) (some (.iload_n 3, 1, (3, 0, 0, 0), 0, 0, [])) none) (cond (Nat.ble i 71) (cond (Nat.beq i 71) (some (.iaload, 1, (0, 0, 0, 0), 0, 0, [])) none) (cond (Nat.beq i 72) (some (.istore 4, 2, (4, 0, 0, 0), 0, 0, [])) none))))))) (cond (Nat.ble i 111) (cond (Nat.ble i 91) (cond (Nat.ble i 83) (cond (Nat.ble i 75) (cond (Nat.ble i 74) (cond (Nat.beq i 74) (some (.aload_n 0, 1, (0, 0, 0, 0), 0, 0, [])) none) (cond (Nat.beq i 75) (some (.getfield 57, 3, (0, 2, 13, 0), 0, 0, [])) none)) (cond (Nat.ble i 78) (cond (Nat.beq i 78) (some (.bipush 8, 2, (0, 0, 0, 0), 8, 0, [])) none) (cond (Nat.ble i 80) (cond (Nat.beq i 80) (some (.if_icmp .ne 34, 3, (114, 0, 0, 0), 0, 0, [])) none) (cond (Nat.beq i 83) (some (.aload_n 0, 1, (0, 0, 0, 0), 0, 0, [])) none)))) (cond (Nat.ble i 86) (cond (Nat.ble i 84) (cond (Nat.beq i 84) (some (.iload 4, 2, (4, 0, 0, 0), 0, 0, [])) none) (cond (Nat.beq i 86) (some (.putfield 69, 3, (0, 2, 17, 0), 0, 0, [])) none)) (cond (Nat.ble i 89) (cond (Nat.beq i 89) (some (.aload_n 0, 1, (0, 0, 0, 0), 0, 0, [])) none) (cond (Nat.ble i 90) (cond (Nat.beq i 90) (some (.aload_n 0, 1, (0, 0, 0, 0), 0, 0, [])) none) (cond (Nat.beq i 91) (some (.getfield 23, 3, (2, 2, 3, 8), 0, 0, [])) none))))) (cond (Nat.ble i 102) (cond (Nat.ble i 97) (cond (Nat.ble i 94) (cond (Nat.beq i 94) (some (.getfield 170, 3, (2, 8, 2, 21), 0, 0, [])) none) (cond (Nat.beq i 97) (some (.iload_n 3, 1, (3, 0, 0, 0), 0, 0, [])) none)) (cond (Nat.ble i 98) (cond (Nat.beq i 98) (some (.laload, 1, (0, 0, 0, 0), 0, 0, [])) none) (cond (Nat.ble i 99) (cond (Nat.beq i 99) (some (.putfield 72, 3, (1, 2, 18, 0), 0, 0, [])) none) (cond (Nat.beq i 102) (some (.aload_n 0, 1, (0, 0, 0, 0), 0, 0, [])) none)))) (cond (Nat.ble i 105) (cond (Nat.ble i 103) (cond (Nat.beq i 103) (some (.bipush 8, 2, (0, 0, 0, 0), 8, 0, [])) none) (cond (Nat.beq i 105) (some (.iload 4, 2, (4, 0, 0, 0), 0, 0, [])) none)) (cond (Nat.ble i 107) (cond (Nat.beq i 107) (some (.iadd, 1, (0, 0, 0, 0), 0, 0, [])) none) (cond (Nat.ble i 108) (cond (Nat.beq i 108) (some (.putfield 63, 3, (0, 2, 15, 0), 0, 0, [])) none) (cond (Nat.beq i 111) (some (.goto 41, 3, (152, 0, 0, 0), 0, 0, [])) none)))))) (cond (Nat.ble i 132) (cond (Nat.ble i 122) (cond (Nat.ble i 115) (cond (Nat.ble i 114) (cond (Nat.beq i 114) (some (.aload_n 0, 1, (0, 0, 0, 0), 0, 0, [])) none) (cond (Nat.beq i 115) (some (.aload_n 0, 1, (0, 0, 0, 0), 0, 0, [])) none)) (cond (Nat.ble i 116) (cond (Nat.beq i 116) (some (.getfield 57, 3, (0, 2, 13, 0), 0, 0, [])) none) (cond (Nat.ble i 119) (cond (Nat.beq i 119) (some (.putfield 69, 3, (0, 2, 17, 0), 0, 0, [])) none) (cond (Nat.beq i 122) (some (.aload_n 0, 1, (0, 0, 0, 0), 0, 0, [])) none)))) (cond (Nat.ble i 125) (cond (Nat.ble i 123) (cond (Nat.beq i 123) (some (.iload 4, 2, (4, 0, 0, 0), 0, 0, [])) none) (cond (Nat.beq i 125) (some (.aload_n 0, 1, (0, 0, 0, 0), 0, 0, [])) none)) (cond (Nat.ble i 126) (cond (Nat.beq i 126) (some (.getfield 23, 3, (2, 2, 3, 8), 0, 0, [])) none) (cond (Nat.ble i 129) (cond (Nat.beq i 129) (some (.getfield 170, 3, (2, 8, 2, 21), 0, 0, [])) none) (cond (Nat.beq i 132) (some (.iload_n 3, 1, (3, 0, 0, 0), 0, 0, [])) none))))) (cond (Nat.ble i 141) (cond (Nat.ble i 134) (cond (Nat.ble i 133) (cond (Nat.beq i 133) (some (.laload, 1, (0, 0, 0, 0), 0, 0, [])) none) (cond (Nat.beq i 134) (some (.aload_n 0, 1, (0, 0, 0, 0), 0, 0, [])) none)) (cond (Nat.ble i 135) (cond (Nat.beq i 135) (some (.getfield 57, 3, (0, 2, 13, 0), 0, 0, [])) none) (cond (Nat.ble i 138) (cond (Nat.beq i 138) (some (.invokestatic 174, 3, (75, 3, 4, 2), 0, 0, [])) none) (cond (Nat.beq i 141) (some (.putfield 72, 3, (1, 2, 18, 0), 0, 0, [])) none)))) (cond (Nat.ble i 145) (cond (Nat.ble i 144) (cond (Nat.beq i 144) (some (.aload_n 0, 1, (0, 0, 0, 0), 0, 0, [])) none) (cond (Nat.beq i 145) (some (.aload_n 0, 1, (0, 0, 0, 0), 0, 0, [])) none)) (cond (Nat.ble i 146) (cond (Nat.beq i 146) (some (.getfield 57, 3, (0, 2, 13, 0), 0, 0, [])) none) (cond (Nat.ble i 149) (cond (Nat.beq i 149) (some (.putfield 63, 3, (0, 2, 15, 0), 0, 0, [])) none) (cond (Nat.beq i 152) (some (.return_, 1, (0, 0, 0, 0), 0, 0, [])) none)))))))
/-- Run_putDown -/
def pd_k11 (i : Nat) : Option pd_O := cond (Nat.ble i 60) (cond (Nat.ble i 27) (cond (Nat.ble i 13) (cond (Nat.ble i 5) (cond (Nat.ble i 1) (cond (Nat.ble i 0) (cond (Nat.beq i 0) (some (.aload_n 1, 1, (1, 0, 0, 0), 0, 0, [])) none) (cond (Nat.beq i 1) (some (.getfield 142, 3, (0, 1, 3, 0), 0, 0, [])) none)) (cond (Nat.ble i 4) (cond (Nat.beq i 4) (some (.aload_n 1, 1, (1, 0, 0, 0), 0, 0, [])) none) (cond (Nat.beq i 5) (some (.getfield 145, 3, (0, 1, 4, 0), 0, 0, [])) none))) (cond (Nat.ble i 11) (cond (Nat.ble i 8) (cond (Nat.beq i 8) (some (.invokestatic 155, 3, (68, 2, 2, 1), 0, 0, [])) none) (cond (Nat.beq i 11) (some (.istore_n 3, 1, (3, 0, 0, 0), 0, 0, [])) none)) (cond (Nat.ble i 12) (cond (Nat.beq i 12) (some (.aload_n 0, 1, (0, 0, 0, 0), 0, 0, [])) none) (cond (Nat.beq i 13) (some (.getfield 35, 3, (2, 2, 8, 8), 0, 0, [])) none)))) (cond (Nat.ble i 21) (cond (Nat.ble i 17) (cond (Nat.ble i 16) (cond (Nat.beq i 16) (some (.iload_n 2, 1, (2, 0, 0, 0), 0, 0, [])) none) (cond (Nat.beq i 17) (some (.aload_n 0, 1, (0, 0, 0, 0), 0, 0, [])) none)) (cond (Nat.ble i 18) (cond (Nat.beq i 18) (some (.getfield 23, 3, (2, 2, 3, 8), 0, 0, [])) none) (cond (Nat.beq i 21) (some (.getfield 167, 3, (2, 8, 1, 20), 0, 0, [])) none))) (cond (Nat.ble i 25) (cond (Nat.ble i 24) (cond (Nat.beq i 24) (some (.iload_n 3, 1, (3, 0, 0, 0), 0, 0, [])) none) (cond (Nat.beq i 25) (some (.iaload, 1, (0, 0, 0, 0), 0, 0, [])) none)) (cond (Nat.ble i 26) (cond (Nat.beq i 26) (some (.aload_n 0, 1, (0, 0, 0, 0), 0, 0, [])) none) (cond (Nat.beq i 27) (some (.getfield 23, 3, (2, 2, 3, 8), 0, 0, [])) none))))) (cond (Nat.ble i 45) (cond (Nat.ble i 35) (cond (Nat.ble i 33) (cond (Nat.ble i 30) (cond (Nat.beq i 30) (some (.getfield 170, 3, (2, 8, 2, 21), 0, 0, [])) none) (cond (Nat.beq i 33) (some (.iload_n 3, 1, (3, 0, 0, 0), 0, 0, [])) none)) (cond (Nat.ble i 34) (cond (Nat.beq i 34) (some (.laload, 1, (0, 0, 0, 0), 0, 0, [])) none) (cond (Nat.beq i 35) (some (.invokevirtual 178, 3, (32, 4, 5, 2048), 0, 0, [])) none))) (cond (Nat.ble i 39) (cond (Nat.ble i 38) (cond (Nat.beq i 38) (some (.aload_n 0, 1, (0, 0, 0, 0), 0, 0, [])) none) (cond (Nat.beq i 39) (some (.getfield 76, 3, (3, 2, 1, 5), 0, 0, [])) none)) (cond (Nat.ble i 42) (cond (Nat.beq i 42) (some (.getfield 182, 3, (2, 5, 1, 20), 0, 0, [])) none) (cond (Nat.beq i 45) (some (.aload_n 1, 1, (1, 0, 0, 0), 0, 0, [])) none)))) (cond (Nat.ble i 52) (cond (Nat.ble i 49) (cond (Nat.ble i 46) (cond (Nat.beq i 46) (some (.getfield 142, 3, (0, 1, 3, 0), 0, 0, [])) none) (cond (Nat.beq i 49) (some (.iaload, 1, (0, 0, 0, 0), 0, 0, [])) none)) (cond (Nat.ble i 50) (cond (Nat.beq i 50) (some (.istore 4, 2, (4, 0, 0, 0), 0, 0, [])) none) (cond (Nat.beq i 52) (some (.iload 4, 2, (4, 0, 0, 0), 0, 0, [])) none))) (cond (Nat.ble i 56) (cond (Nat.ble i 54) (cond (Nat.beq i 54) (some (.bipush 7, 2, (0, 0, 0, 0), 7, 0, [])) none) (cond (Nat.beq i 56) (some (.if_icmp .gt 29, 3, (85, 0, 0, 0), 0, 0, [])) none)) (cond (Nat.ble i 59) (cond (Nat.beq i 59) (some (.aload_n 0, 1, (0, 0, 0, 0), 0, 0, [])) none) (cond (Nat.beq i 60) (some (.getfield 23, 3, (2, 2, 3, 8), 0, 0, [])) none)))))) (cond (Nat.ble i 94) (cond (Nat.ble i 76) (cond (Nat.ble i 67) (cond (Nat.ble i 64) (cond (Nat.ble i 63) (cond (Nat.beq i 63) (some (.iload_n 3, 1, (3, 0, 0, 0), 0, 0, [])) none) (cond (Nat.beq i 64) (some (.iload 4, 2, (4, 0, 0, 0), 0, 0, [])) none)) (cond (Nat.ble i 66) (cond (Nat.beq i 66) (some (.aload_n 0, 1, (0, 0, 0, 0), 0, 0, [])) none) (cond (Nat.beq i 67) (some (.getfield 69, 3, (0, 2, 17, 0), 0, 0, [])) none))) (cond (Nat.ble i 71) (cond (Nat.ble i 70) (cond (Nat.beq i 70) (some (.aload_n 0, 1, (0, 0, 0, 0), 0, 0, [])) none) (cond (Nat.beq i 71) (some (.getfield 72, 3, (1, 2, 18, 0), 0, 0, [])) none)) (cond (Nat.ble i 74) (cond (Nat.beq i 74) (some (.iload 4, 2, (4, 0, 0, 0), 0, 0, [])) none) (cond (Nat.beq i 76) (some (.invokestatic 174, 3, (75, 3, 4, 2), 0, 0, [])) none)))) (cond (Nat.ble i 86) (cond (Nat.ble i 82) (cond (Nat.ble i 79) (cond (Nat.beq i 79) (some (.invokevirtual 178, 3, (32, 4, 5, 2048), 0, 0, [])) none) (cond (Nat.beq i 82) (some (.goto 19, 3, (101, 0, 0, 0), 0, 0, [])) none)) (cond (Nat.ble i 85) (cond (Nat.beq i 85) (some (.aload_n 0, 1, (0, 0, 0, 0), 0, 0, [])) none) (cond (Nat.beq i 86) (some (.getfield 23, 3, (2, 2, 3, 8), 0, 0, [])) none))) (cond (Nat.ble i 90) (cond (Nat.ble i 89) (cond (Nat.beq i 89) (some (.iload_n 3, 1, (3, 0, 0, 0), 0, 0, [])) none) (cond (Nat.beq i 90) (some (.aload_n 0, 1, (0, 0, 0, 0), 0, 0, [])) none)) (cond (Nat.ble i 91) (cond (Nat.beq i 91) (some (.getfield 69, 3, (0, 2, 17, 0), 0, 0, [])) none) (cond (Nat.beq i 94) (some (.aload_n 0, 1, (0, 0, 0, 0), 0, 0, [])) none))))) (cond (Nat.ble i 110) (cond (Nat.ble i 102) (cond (Nat.ble i 98) (cond (Nat.ble i 95) (cond (Nat.beq i 95) (some (.getfield 72, 3, (1, 2, 18, 0), 0, 0, [])) none) (cond (Nat.beq i 98) (some (.invokevirtual 178, 3, (32, 4, 5, 2048), 0, 0, [])) none)) (cond (Nat.ble i 101) (cond (Nat.beq i 101) (some (.aload_n 0, 1, (0, 0, 0, 0), 0, 0, [])) none) (cond (Nat.beq i 102) (some (.getfield 38, 3, (2, 2, 11, 8), 0, 0, [])) none))) (cond (Nat.ble i 106) (cond (Nat.ble i 105) (cond (Nat.beq i 105) (some (.iload_n 2, 1, (2, 0, 0, 0), 0, 0, [])) none) (cond (Nat.beq i 106) (some (.aload_n 0, 1, (0, 0, 0, 0), 0, 0, [])) none)) (cond (Nat.ble i 107) (cond (Nat.beq i 107) (some (.getfield 23, 3, (2, 2, 3, 8), 0, 0, [])) none) (cond (Nat.beq i 110) (some (.getfield 167, 3, (2, 8, 1, 20), 0, 0, [])) none)))) (cond (Nat.ble i 116) (cond (Nat.ble i 114) (cond (Nat.ble i 113) (cond (Nat.beq i 113) (some (.iload_n 3, 1, (3, 0, 0, 0), 0, 0, [])) none) (cond (Nat.beq i 114) (some (.iaload, 1, (0, 0, 0, 0), 0, 0, [])) none)) (cond (Nat.ble i 115) (cond (Nat.beq i 115) (some (.aload_n 0, 1, (0, 0, 0, 0), 0, 0, [])) none) (cond (Nat.beq i 116) (some (.getfield 23, 3, (2, 2, 3, 8), 0, 0, [])) none))) (cond (Nat.ble i 122) (cond (Nat.ble i 119) (cond (Nat.beq i 119) (some (.getfield 170, 3, (2, 8, 2, 21), 0, 0, [])) none) (cond (Nat.beq i 122) (some (.iload_n 3, 1, (3, 0, 0, 0), 0, 0, [])) none)) (cond (Nat.ble i 123) (cond (Nat.beq i 123) (some (.laload, 1, (0, 0, 0, 0), 0, 0, [])) none) (cond (Nat.ble i 124) (cond (Nat.beq i 124) (some (.invokevirtual 178, 3, (32, 4, 5, 2048), 0, 0, [])) none) (cond (Nat.beq i 127) (some (.return_, 1, (0, 0, 0, 0), 0, 0, [])) none)))))))
/-- Run_markDead -/
def pd_k12 (i : Nat) : Option pd_O := cond (Nat.ble i 53) (cond (Nat.ble i 28) (cond (Nat.ble i 12) (cond (Nat.ble i 3) (cond (Nat.ble i 1) (cond (Nat.ble i 0) (cond (Nat.beq i 0) (some (.iconst 0, 1, (0, 0, 0, 0), 0, 0, [])) none) (cond (Nat.beq i 1) (some (.istore_n 1, 1, (1, 0, 0, 0), 0, 0, [])) none)) (cond (Nat.ble i 2) (cond (Nat.beq i 2) (some (.iload_n 1, 1, (1, 0, 0, 0), 0, 0, [])) none) (cond (Nat.beq i 3) (some (.bipush 72, 2, (0, 0, 0, 0), 72, 0, [])) none))) (cond (Nat.ble i 8) (cond (Nat.ble i 5) (cond (Nat.beq i 5) (some (.if_icmp .ge 16, 3, (21, 0, 0, 0), 0, 0, [])) none) (cond (Nat.beq i 8) (some (.aload_n 0, 1, (0, 0, 0, 0), 0, 0, [])) none)) (cond (Nat.ble i 9) (cond (Nat.beq i 9) (some (.getfield 31, 3, (2, 2, 7, 22), 0, 0, [])) none) (cond (Nat.beq i 12) (some (.iload_n 1, 1, (1, 0, 0, 0), 0, 0, [])) none)))) (cond (Nat.ble i 18) (cond (Nat.ble i 14) (cond (Nat.ble i 13) (cond (Nat.beq i 13) (some (.iconst 1, 1, (0, 0, 0, 0), 1, 0, [])) none) (cond (Nat.beq i 14) (some (.bastore, 1, (0, 0, 0, 0), 0, 0, [])) none)) (cond (Nat.ble i 15) (cond (Nat.beq i 15) (some (.iinc 1 1, 3, (1, 0, 0, 0), 1, 0, [])) none) (cond (Nat.beq i 18) (some (.goto (-16), 3, (2, 0, 0, 0), 0, 0, [])) none))) (cond (Nat.ble i 22) (cond (Nat.ble i 21) (cond (Nat.beq i 21) (some (.aload_n 0, 1, (0, 0, 0, 0), 0, 0, [])) none) (cond (Nat.beq i 22) (some (.getfield 12, 3, (2, 2, 1, 4), 0, 0, [])) none)) (cond (Nat.ble i 25) (cond (Nat.beq i 25) (some (.getfield 93, 3, (0, 4, 1, 0), 0, 0, [])) none) (cond (Nat.beq i 28) (some (.iconst 1, 1, (0, 0, 0, 0), 1, 0, [])) none))))) (cond (Nat.ble i 42) (cond (Nat.ble i 32) (cond (Nat.ble i 30) (cond (Nat.ble i 29) (cond (Nat.beq i 29) (some (.isub, 1, (0, 0, 0, 0), 0, 0, [])) none) (cond (Nat.beq i 30) (some (.istore_n 1, 1, (1, 0, 0, 0), 0, 0, [])) none)) (cond (Nat.ble i 31) (cond (Nat.beq i 31) (some (.iload_n 1, 1, (1, 0, 0, 0), 0, 0, [])) none) (cond (Nat.beq i 32) (some (.ifCond .lt 80, 3, (112, 0, 0, 0), 0, 0, [])) none))) (cond (Nat.ble i 36) (cond (Nat.ble i 35) (cond (Nat.beq i 35) (some (.aload_n 0, 1, (0, 0, 0, 0), 0, 0, [])) none) (cond (Nat.beq i 36) (some (.getfield 12, 3, (2, 2, 1, 4), 0, 0, [])) none)) (cond (Nat.ble i 39) (cond (Nat.beq i 39) (some (.getfield 96, 3, (2, 4, 1, 20), 0, 0, [])) none) (cond (Nat.beq i 42) (some (.iload_n 1, 1, (1, 0, 0, 0), 0, 0, [])) none)))) (cond (Nat.ble i 46) (cond (Nat.ble i 44) (cond (Nat.ble i 43) (cond (Nat.beq i 43) (some (.iaload, 1, (0, 0, 0, 0), 0, 0, [])) none) (cond (Nat.beq i 44) (some (.istore_n 2, 1, (2, 0, 0, 0), 0, 0, [])) none)) (cond (Nat.ble i 45) (cond (Nat.beq i 45) (some (.aload_n 0, 1, (0, 0, 0, 0), 0, 0, [])) none) (cond (Nat.beq i 46) (some (.getfield 44, 3, (2, 2, 15, 20), 0, 0, [])) none))) (cond (Nat.ble i 50) (cond (Nat.ble i 49) (cond (Nat.beq i 49) (some (.iload_n 2, 1, (2, 0, 0, 0), 0, 0, [])) none) (cond (Nat.beq i 50) (some (.iconst 0, 1, (0, 0, 0, 0), 0, 0, [])) none)) (cond (Nat.ble i 51) (cond (Nat.beq i 51) (some (.iastore, 1, (0, 0, 0, 0), 0, 0, [])) none) (cond (Nat.ble i 52) (cond (Nat.beq i 52) (some (.aload_n 0, 1, (0, 0, 0, 0), 0, 0, [])) none) (cond (Nat.beq i 53) (some (.getfield 80, 3, (3, 2, 7, 0), 0, 0, [])) none))))))) (cond (Nat.ble i 81) (cond (Nat.ble i 65) (cond (Nat.ble i 61) (cond (Nat.ble i 59) (cond (Nat.ble i 56) (cond (Nat.beq i 56) (some (.getfield 99, 3, (2, 0, 2, 20), 0, 0, [])) none) (cond (Nat.beq i 59) (some (.iload_n 2, 1, (2, 0, 0, 0), 0, 0, [])) none)) (cond (Nat.ble i 60) (cond (Nat.beq i 60) (some (.iaload, 1, (0, 0, 0, 0), 0, 0, [])) none) (cond (Nat.beq i 61) (some (.iconst 1, 1, (0, 0, 0, 0), 1, 0, [])) none))) (cond (Nat.ble i 63) (cond (Nat.ble i 62) (cond (Nat.beq i 62) (some (.isub, 1, (0, 0, 0, 0), 0, 0, [])) none) (cond (Nat.beq i 63) (some (.istore_n 3, 1, (3, 0, 0, 0), 0, 0, [])) none)) (cond (Nat.ble i 64) (cond (Nat.beq i 64) (some (.iload_n 3, 1, (3, 0, 0, 0), 0, 0, [])) none) (cond (Nat.beq i 65) (some (.ifCond .lt 41, 3, (106, 0, 0, 0), 0, 0, [])) none)))) (cond (Nat.ble i 73) (cond (Nat.ble i 69) (cond (Nat.ble i 68) (cond (Nat.beq i 68) (some (.aload_n 0, 1, (0, 0, 0, 0), 0, 0, [])) none) (cond (Nat.beq i 69) (some (.aload_n 0, 1, (0, 0, 0, 0), 0, 0, [])) none)) (cond (Nat.ble i 70) (cond (Nat.beq i 70) (some (.getfield 80, 3, (3, 2, 7, 0), 0, 0, [])) none) (cond (Nat.beq i 73) (some (.getfield 114, 3, (2, 0, 1, 23), 0, 0, [])) none))) (cond (Nat.ble i 77) (cond (Nat.ble i 76) (cond (Nat.beq i 76) (some (.iload_n 2, 1, (2, 0, 0, 0), 0, 0, [])) none) (cond (Nat.beq i 77) (some (.iload_n 3, 1, (3, 0, 0, 0), 0, 0, [])) none)) (cond (Nat.ble i 78) (cond (Nat.beq i 78) (some (.invokestatic 111, 3, (69, 2, 2, 1), 0, 0, [])) none) (cond (Nat.beq i 81) (some (.aaload, 1, (0, 0, 0, 0), 0, 0, [])) none))))) (cond (Nat.ble i 95) (cond (Nat.ble i 89) (cond (Nat.ble i 85) (cond (Nat.ble i 82) (cond (Nat.beq i 82) (some (.invokevirtual 185, 3, (13, 2, 4, 513), 0, 0, [])) none) (cond (Nat.beq i 85) (some (.ifCond .ne 15, 3, (100, 0, 0, 0), 0, 0, [])) none)) (cond (Nat.ble i 88) (cond (Nat.beq i 88) (some (.aload_n 0, 1, (0, 0, 0, 0), 0, 0, [])) none) (cond (Nat.beq i 89) (some (.getfield 44, 3, (2, 2, 15, 20), 0, 0, [])) none))) (cond (Nat.ble i 93) (cond (Nat.ble i 92) (cond (Nat.beq i 92) (some (.iload_n 2, 1, (2, 0, 0, 0), 0, 0, [])) none) (cond (Nat.beq i 93) (some (.dup2, 1, (0, 0, 0, 0), 0, 0, [])) none)) (cond (Nat.ble i 94) (cond (Nat.beq i 94) (some (.iaload, 1, (0, 0, 0, 0), 0, 0, [])) none) (cond (Nat.beq i 95) (some (.iconst 1, 1, (0, 0, 0, 0), 1, 0, [])) none)))) (cond (Nat.ble i 99) (cond (Nat.ble i 97) (cond (Nat.ble i 96) (cond (Nat.beq i 96) (some (.iload_n 3, 1, (3, 0, 0, 0), 0, 0, [])) none) (cond (Nat.beq i 97) (some (.ishl, 1, (0, 0, 0, 0), 0, 0, [])) none)) (cond (Nat.ble i 98) (cond (Nat.beq i 98) (some (.ior, 1, (0, 0, 0, 0), 0, 0, [])) none) (cond (Nat.beq i 99) (some (.iastore, 1, (0, 0, 0, 0), 0, 0, [])) none))) (cond (Nat.ble i 103) (cond (Nat.ble i 100) (cond (Nat.beq i 100) (some (.iinc 3 (-1), 3, (3, 0, 0, 0), -1, 0, [])) none) (cond (Nat.beq i 103) (some (.goto (-39), 3, (64, 0, 0, 0), 0, 0, [])) none)) (cond (Nat.ble i 106) (cond (Nat.beq i 106) (some (.iinc 1 (-1), 3, (1, 0, 0, 0), -1, 0, [])) none) (cond (Nat.ble i 109) (cond (Nat.beq i 109) (some (.goto (-78), 3, (31, 0, 0, 0), 0, 0, [])) none) (cond (Nat.beq i 112) (some (.return_, 1, (0, 0, 0, 0), 0, 0, [])) none)))))))
/-- Run_isNeeded -/
def pd_k13 (i : Nat) : Option pd_O := cond (Nat.ble i 25) (cond (Nat.ble i 13) (cond (Nat.ble i 5) (cond (Nat.ble i 1) (cond (Nat.ble i 0) (cond (Nat.beq i 0) (some (.aload_n 1, 1, (1, 0, 0, 0), 0, 0, [])) none) (cond (Nat.beq i 1) (some (.getfield 142, 3, (0, 1, 3, 0), 0, 0, [])) none)) (cond (Nat.ble i 4) (cond (Nat.beq i 4) (some (.aload_n 1, 1, (1, 0, 0, 0), 0, 0, [])) none) (cond (Nat.beq i 5) (some (.getfield 145, 3, (0, 1, 4, 0), 0, 0, [])) none))) (cond (Nat.ble i 11) (cond (Nat.ble i 8) (cond (Nat.beq i 8) (some (.invokestatic 155, 3, (68, 2, 2, 1), 0, 0, [])) none) (cond (Nat.beq i 11) (some (.istore_n 2, 1, (2, 0, 0, 0), 0, 0, [])) none)) (cond (Nat.ble i 12) (cond (Nat.beq i 12) (some (.aload_n 0, 1, (0, 0, 0, 0), 0, 0, [])) none) (cond (Nat.beq i 13) (some (.getfield 31, 3, (2, 2, 7, 22), 0, 0, [])) none)))) (cond (Nat.ble i 19) (cond (Nat.ble i 17) (cond (Nat.ble i 16) (cond (Nat.beq i 16) (some (.iload_n 2, 1, (2, 0, 0, 0), 0, 0, [])) none) (cond (Nat.beq i 17) (some (.baload, 1, (0, 0, 0, 0), 0, 0, [])) none)) (cond (Nat.ble i 18) (cond (Nat.beq i 18) (some (.istore_n 3, 1, (3, 0, 0, 0), 0, 0, [])) none) (cond (Nat.beq i 19) (some (.aload_n 0, 1, (0, 0, 0, 0), 0, 0, [])) none))) (cond (Nat.ble i 23) (cond (Nat.ble i 20) (cond (Nat.beq i 20) (some (.getfield 31, 3, (2, 2, 7, 22), 0, 0, [])) none) (cond (Nat.beq i 23) (some (.iload_n 2, 1, (2, 0, 0, 0), 0, 0, [])) none)) (cond (Nat.ble i 24) (cond (Nat.beq i 24) (some (.iconst 0, 1, (0, 0, 0, 0), 0, 0, [])) none) (cond (Nat.beq i 25) (some (.bastore, 1, (0, 0, 0, 0), 0, 0, [])) none))))) (cond (Nat.ble i 41) (cond (Nat.ble i 31) (cond (Nat.ble i 27) (cond (Nat.ble i 26) (cond (Nat.beq i 26) (some (.iload_n 3, 1, (3, 0, 0, 0), 0, 0, [])) none) (cond (Nat.beq i 27) (some (.ifCond .eq 27, 3, (54, 0, 0, 0), 0, 0, [])) none)) (cond (Nat.ble i 30) (cond (Nat.beq i 30) (some (.aload_n 1, 1, (1, 0, 0, 0), 0, 0, [])) none) (cond (Nat.beq i 31) (some (.invokevirtual 118, 3, (6, 1, 1, 257), 0, 0, [])) none))) (cond (Nat.ble i 37) (cond (Nat.ble i 34) (cond (Nat.beq i 34) (some (.ifCond .eq 20, 3, (54, 0, 0, 0), 0, 0, [])) none) (cond (Nat.beq i 37) (some (.aload_n 0, 1, (0, 0, 0, 0), 0, 0, [])) none)) (cond (Nat.ble i 38) (cond (Nat.beq i 38) (some (.getfield 31, 3, (2, 2, 7, 22), 0, 0, [])) none) (cond (Nat.beq i 41) (some (.aload_n 1, 1, (1, 0, 0, 0), 0, 0, [])) none)))) (cond (Nat.ble i 49) (cond (Nat.ble i 45) (cond (Nat.ble i 42) (cond (Nat.beq i 42) (some (.getfield 158, 3, (0, 1, 0, 0), 0, 0, [])) none) (cond (Nat.beq i 45) (some (.aload_n 1, 1, (1, 0, 0, 0), 0, 0, [])) none)) (cond (Nat.ble i 46) (cond (Nat.beq i 46) (some (.getfield 161, 3, (0, 1, 1, 0), 0, 0, [])) none) (cond (Nat.beq i 49) (some (.invokestatic 155, 3, (68, 2, 2, 1), 0, 0, [])) none))) (cond (Nat.ble i 53) (cond (Nat.ble i 52) (cond (Nat.beq i 52) (some (.iconst 1, 1, (0, 0, 0, 0), 1, 0, [])) none) (cond (Nat.beq i 53) (some (.bastore, 1, (0, 0, 0, 0), 0, 0, [])) none)) (cond (Nat.ble i 54) (cond (Nat.beq i 54) (some (.iload_n 3, 1, (3, 0, 0, 0), 0, 0, [])) none) (cond (Nat.beq i 55) (some (.ireturn, 1, (1, 0, 0, 0), 0, 0, [])) none)))))
/-- Run_dependents -/
def pd_k14 (i : Nat) : Option pd_O := cond (Nat.ble i 32) (cond (Nat.ble i 12) (cond (Nat.ble i 3) (cond (Nat.ble i 1) (cond (Nat.ble i 0) (cond (Nat.beq i 0) (some (.iconst 0, 1, (0, 0, 0, 0), 0, 0, [])) none) (cond (Nat.beq i 1) (some (.istore_n 2, 1, (2, 0, 0, 0), 0, 0, [])) none)) (cond (Nat.ble i 2) (cond (Nat.beq i 2) (some (.aload_n 0, 1, (0, 0, 0, 0), 0, 0, [])) none) (cond (Nat.beq i 3) (some (.getfield 12, 3, (2, 2, 1, 4), 0, 0, [])) none))) (cond (Nat.ble i 7) (cond (Nat.ble i 6) (cond (Nat.beq i 6) (some (.iload_n 1, 1, (1, 0, 0, 0), 0, 0, [])) none) (cond (Nat.beq i 7) (some (.invokevirtual 189, 3, (20, 2, 3, 1025), 0, 0, [])) none)) (cond (Nat.ble i 10) (cond (Nat.beq i 10) (some (.iconst 1, 1, (0, 0, 0, 0), 1, 0, [])) none) (cond (Nat.ble i 11) (cond (Nat.beq i 11) (some (.iadd, 1, (0, 0, 0, 0), 0, 0, [])) none) (cond (Nat.beq i 12) (some (.istore_n 3, 1, (3, 0, 0, 0), 0, 0, [])) none))))) (cond (Nat.ble i 21) (cond (Nat.ble i 14) (cond (Nat.ble i 13) (cond (Nat.beq i 13) (some (.iload_n 3, 1, (3, 0, 0, 0), 0, 0, [])) none) (cond (Nat.beq i 14) (some (.aload_n 0, 1, (0, 0, 0, 0), 0, 0, [])) none)) (cond (Nat.ble i 15) (cond (Nat.beq i 15) (some (.getfield 12, 3, (2, 2, 1, 4), 0, 0, [])) none) (cond (Nat.ble i 18) (cond (Nat.beq i 18) (some (.getfield 93, 3, (0, 4, 1, 0), 0, 0, [])) none) (cond (Nat.beq i 21) (some (.if_icmp .ge 41, 3, (62, 0, 0, 0), 0, 0, [])) none)))) (cond (Nat.ble i 25) (cond (Nat.ble i 24) (cond (Nat.beq i 24) (some (.aload_n 0, 1, (0, 0, 0, 0), 0, 0, [])) none) (cond (Nat.beq i 25) (some (.getfield 12, 3, (2, 2, 1, 4), 0, 0, [])) none)) (cond (Nat.ble i 28) (cond (Nat.beq i 28) (some (.getfield 96, 3, (2, 4, 1, 20), 0, 0, [])) none) (cond (Nat.ble i 31) (cond (Nat.beq i 31) (some (.iload_n 3, 1, (3, 0, 0, 0), 0, 0, [])) none) (cond (Nat.beq i 32) (some (.iaload, 1, (0, 0, 0, 0), 0, 0, [])) none)))))) (cond (Nat.ble i 46) (cond (Nat.ble i 39) (cond (Nat.ble i 35) (cond (Nat.ble i 33) (cond (Nat.beq i 33) (some (.istore 4, 2, (4, 0, 0, 0), 0, 0, [])) none) (cond (Nat.beq i 35) (some (.aload_n 0, 1, (0, 0, 0, 0), 0, 0, [])) none)) (cond (Nat.ble i 36) (cond (Nat.beq i 36) (some (.iload 4, 2, (4, 0, 0, 0), 0, 0, [])) none) (cond (Nat.ble i 38) (cond (Nat.beq i 38) (some (.iload_n 2, 1, (2, 0, 0, 0), 0, 0, [])) none) (cond (Nat.beq i 39) (some (.iconst 1, 1, (0, 0, 0, 0), 1, 0, [])) none)))) (cond (Nat.ble i 41) (cond (Nat.ble i 40) (cond (Nat.beq i 40) (some (.iload_n 1, 1, (1, 0, 0, 0), 0, 0, [])) none) (cond (Nat.beq i 41) (some (.ishl, 1, (0, 0, 0, 0), 0, 0, [])) none)) (cond (Nat.ble i 42) (cond (Nat.beq i 42) (some (.ior, 1, (0, 0, 0, 0), 0, 0, [])) none) (cond (Nat.ble i 43) (cond (Nat.beq i 43) (some (.invokevirtual 192, 3, (15, 3, 5, 513), 0, 0, [])) none) (cond (Nat.beq i 46) (some (.ifCond .eq 10, 3, (56, 0, 0, 0), 0, 0, [])) none))))) (cond (Nat.ble i 54) (cond (Nat.ble i 50) (cond (Nat.ble i 49) (cond (Nat.beq i 49) (some (.iload_n 2, 1, (2, 0, 0, 0), 0, 0, [])) none) (cond (Nat.beq i 50) (some (.iconst 1, 1, (0, 0, 0, 0), 1, 0, [])) none)) (cond (Nat.ble i 51) (cond (Nat.beq i 51) (some (.iload 4, 2, (4, 0, 0, 0), 0, 0, [])) none) (cond (Nat.ble i 53) (cond (Nat.beq i 53) (some (.ishl, 1, (0, 0, 0, 0), 0, 0, [])) none) (cond (Nat.beq i 54) (some (.ior, 1, (0, 0, 0, 0), 0, 0, [])) none)))) (cond (Nat.ble i 56) (cond (Nat.ble i 55) (cond (Nat.beq i 55) (some (.istore_n 2, 1, (2, 0, 0, 0), 0, 0, [])) none) (cond (Nat.beq i 56) (some (.iinc 3 1, 3, (3, 0, 0, 0), 1, 0, [])) none)) (cond (Nat.ble i 59) (cond (Nat.beq i 59) (some (.goto (-46), 3, (13, 0, 0, 0), 0, 0, [])) none) (cond (Nat.ble i 62) (cond (Nat.beq i 62) (some (.iload_n 2, 1, (2, 0, 0, 0), 0, 0, [])) none) (cond (Nat.beq i 63) (some (.ireturn, 1, (0, 0, 0, 0), 0, 0, [])) none))))))
/-- Run_readsFrom -/
def pd_k15 (i : Nat) : Option pd_O := cond (Nat.ble i 24) (cond (Nat.ble i 10) (cond (Nat.ble i 2) (cond (Nat.ble i 0) (cond (Nat.beq i 0) (some (.iconst 0, 1, (0, 0, 0, 0), 0, 0, [])) none) (cond (Nat.ble i 1) (cond (Nat.beq i 1) (some (.istore_n 3, 1, (3, 0, 0, 0), 0, 0, [])) none) (cond (Nat.beq i 2) (some (.iload_n 3, 1, (3, 0, 0, 0), 0, 0, [])) none))) (cond (Nat.ble i 4) (cond (Nat.ble i 3) (cond (Nat.beq i 3) (some (.aload_n 0, 1, (0, 0, 0, 0), 0, 0, [])) none) (cond (Nat.beq i 4) (some (.getfield 80, 3, (3, 2, 7, 0), 0, 0, [])) none)) (cond (Nat.ble i 7) (cond (Nat.beq i 7) (some (.getfield 99, 3, (2, 0, 2, 20), 0, 0, [])) none) (cond (Nat.beq i 10) (some (.iload_n 1, 1, (1, 0, 0, 0), 0, 0, [])) none)))) (cond (Nat.ble i 16) (cond (Nat.ble i 12) (cond (Nat.ble i 11) (cond (Nat.beq i 11) (some (.iaload, 1, (0, 0, 0, 0), 0, 0, [])) none) (cond (Nat.beq i 12) (some (.if_icmp .ge 38, 3, (50, 0, 0, 0), 0, 0, [])) none)) (cond (Nat.ble i 15) (cond (Nat.beq i 15) (some (.aload_n 0, 1, (0, 0, 0, 0), 0, 0, [])) none) (cond (Nat.beq i 16) (some (.getfield 41, 3, (2, 2, 14, 20), 0, 0, [])) none))) (cond (Nat.ble i 20) (cond (Nat.ble i 19) (cond (Nat.beq i 19) (some (.iload_n 1, 1, (1, 0, 0, 0), 0, 0, [])) none) (cond (Nat.beq i 20) (some (.iload_n 3, 1, (3, 0, 0, 0), 0, 0, [])) none)) (cond (Nat.ble i 21) (cond (Nat.beq i 21) (some (.invokestatic 111, 3, (69, 2, 2, 1), 0, 0, [])) none) (cond (Nat.beq i 24) (some (.iaload, 1, (0, 0, 0, 0), 0, 0, [])) none))))) (cond (Nat.ble i 37) (cond (Nat.ble i 30) (cond (Nat.ble i 27) (cond (Nat.ble i 25) (cond (Nat.beq i 25) (some (.istore 4, 2, (4, 0, 0, 0), 0, 0, [])) none) (cond (Nat.beq i 27) (some (.iload 4, 2, (4, 0, 0, 0), 0, 0, [])) none)) (cond (Nat.ble i 29) (cond (Nat.beq i 29) (some (.iconst (-1), 1, (0, 0, 0, 0), -1, 0, [])) none) (cond (Nat.beq i 30) (some (.if_icmp .eq 14, 3, (44, 0, 0, 0), 0, 0, [])) none))) (cond (Nat.ble i 34) (cond (Nat.ble i 33) (cond (Nat.beq i 33) (some (.iload_n 2, 1, (2, 0, 0, 0), 0, 0, [])) none) (cond (Nat.beq i 34) (some (.iload 4, 2, (4, 0, 0, 0), 0, 0, [])) none)) (cond (Nat.ble i 36) (cond (Nat.beq i 36) (some (.ishr, 1, (0, 0, 0, 0), 0, 0, [])) none) (cond (Nat.beq i 37) (some (.iconst 1, 1, (0, 0, 0, 0), 1, 0, [])) none)))) (cond (Nat.ble i 43) (cond (Nat.ble i 39) (cond (Nat.ble i 38) (cond (Nat.beq i 38) (some (.iand, 1, (0, 0, 0, 0), 0, 0, [])) none) (cond (Nat.beq i 39) (some (.ifCond .eq 5, 3, (44, 0, 0, 0), 0, 0, [])) none)) (cond (Nat.ble i 42) (cond (Nat.beq i 42) (some (.iconst 1, 1, (0, 0, 0, 0), 1, 0, [])) none) (cond (Nat.beq i 43) (some (.ireturn, 1, (1, 0, 0, 0), 0, 0, [])) none))) (cond (Nat.ble i 47) (cond (Nat.ble i 44) (cond (Nat.beq i 44) (some (.iinc 3 1, 3, (3, 0, 0, 0), 1, 0, [])) none) (cond (Nat.beq i 47) (some (.goto (-45), 3, (2, 0, 0, 0), 0, 0, [])) none)) (cond (Nat.ble i 50) (cond (Nat.beq i 50) (some (.iconst 0, 1, (0, 0, 0, 0), 0, 0, [])) none) (cond (Nat.beq i 51) (some (.ireturn, 1, (1, 0, 0, 0), 0, 0, [])) none)))))
/-- Run_movedFrom -/
def pd_k16 (i : Nat) : Option pd_O := cond (Nat.ble i 46) (cond (Nat.ble i 22) (cond (Nat.ble i 5) (cond (Nat.ble i 2) (cond (Nat.ble i 0) (cond (Nat.beq i 0) (some (.iconst 0, 1, (0, 0, 0, 0), 0, 0, [])) none) (cond (Nat.ble i 1) (cond (Nat.beq i 1) (some (.istore_n 2, 1, (2, 0, 0, 0), 0, 0, [])) none) (cond (Nat.beq i 2) (some (.iconst 0, 1, (0, 0, 0, 0), 0, 0, [])) none))) (cond (Nat.ble i 3) (cond (Nat.beq i 3) (some (.istore_n 3, 1, (3, 0, 0, 0), 0, 0, [])) none) (cond (Nat.ble i 4) (cond (Nat.beq i 4) (some (.iload_n 3, 1, (3, 0, 0, 0), 0, 0, [])) none) (cond (Nat.beq i 5) (some (.aload_n 0, 1, (0, 0, 0, 0), 0, 0, [])) none)))) (cond (Nat.ble i 12) (cond (Nat.ble i 6) (cond (Nat.beq i 6) (some (.getfield 12, 3, (2, 2, 1, 4), 0, 0, [])) none) (cond (Nat.ble i 9) (cond (Nat.beq i 9) (some (.getfield 93, 3, (0, 4, 1, 0), 0, 0, [])) none) (cond (Nat.beq i 12) (some (.if_icmp .ge 93, 3, (105, 0, 0, 0), 0, 0, [])) none))) (cond (Nat.ble i 16) (cond (Nat.ble i 15) (cond (Nat.beq i 15) (some (.aload_n 0, 1, (0, 0, 0, 0), 0, 0, [])) none) (cond (Nat.beq i 16) (some (.getfield 12, 3, (2, 2, 1, 4), 0, 0, [])) none)) (cond (Nat.ble i 19) (cond (Nat.beq i 19) (some (.getfield 96, 3, (2, 4, 1, 20), 0, 0, [])) none) (cond (Nat.beq i 22) (some (.iload_n 3, 1, (3, 0, 0, 0), 0, 0, [])) none))))) (cond (Nat.ble i 32) (cond (Nat.ble i 26) (cond (Nat.ble i 23) (cond (Nat.beq i 23) (some (.iaload, 1, (0, 0, 0, 0), 0, 0, [])) none) (cond (Nat.ble i 24) (cond (Nat.beq i 24) (some (.istore 4, 2, (4, 0, 0, 0), 0, 0, [])) none) (cond (Nat.beq i 26) (some (.aload_n 1, 1, (1, 0, 0, 0), 0, 0, [])) none))) (cond (Nat.ble i 27) (cond (Nat.beq i 27) (some (.getfield 12, 3, (2, 2, 1, 4), 0, 0, [])) none) (cond (Nat.ble i 30) (cond (Nat.beq i 30) (some (.iload 4, 2, (4, 0, 0, 0), 0, 0, [])) none) (cond (Nat.beq i 32) (some (.invokevirtual 189, 3, (20, 2, 3, 1025), 0, 0, [])) none)))) (cond (Nat.ble i 39) (cond (Nat.ble i 35) (cond (Nat.beq i 35) (some (.iconst (-1), 1, (0, 0, 0, 0), -1, 0, [])) none) (cond (Nat.ble i 36) (cond (Nat.beq i 36) (some (.if_icmp .eq 7, 3, (43, 0, 0, 0), 0, 0, [])) none) (cond (Nat.beq i 39) (some (.iconst 1, 1, (0, 0, 0, 0), 1, 0, [])) none))) (cond (Nat.ble i 43) (cond (Nat.ble i 40) (cond (Nat.beq i 40) (some (.goto 4, 3, (44, 0, 0, 0), 0, 0, [])) none) (cond (Nat.beq i 43) (some (.iconst 0, 1, (0, 0, 0, 0), 0, 0, [])) none)) (cond (Nat.ble i 44) (cond (Nat.beq i 44) (some (.istore 5, 2, (5, 0, 0, 0), 0, 0, [])) none) (cond (Nat.beq i 46) (some (.iconst 0, 1, (0, 0, 0, 0), 0, 0, [])) none)))))) (cond (Nat.ble i 73) (cond (Nat.ble i 58) (cond (Nat.ble i 51) (cond (Nat.ble i 47) (cond (Nat.beq i 47) (some (.istore 6, 2, (6, 0, 0, 0), 0, 0, [])) none) (cond (Nat.ble i 49) (cond (Nat.beq i 49) (some (.iload 6, 2, (6, 0, 0, 0), 0, 0, [])) none) (cond (Nat.beq i 51) (some (.aload_n 0, 1, (0, 0, 0, 0), 0, 0, [])) none))) (cond (Nat.ble i 52) (cond (Nat.beq i 52) (some (.getfield 80, 3, (3, 2, 7, 0), 0, 0, [])) none) (cond (Nat.ble i 55) (cond (Nat.beq i 55) (some (.getfield 99, 3, (2, 0, 2, 20), 0, 0, [])) none) (cond (Nat.beq i 58) (some (.iload 4, 2, (4, 0, 0, 0), 0, 0, [])) none)))) (cond (Nat.ble i 64) (cond (Nat.ble i 60) (cond (Nat.beq i 60) (some (.iaload, 1, (0, 0, 0, 0), 0, 0, [])) none) (cond (Nat.ble i 61) (cond (Nat.beq i 61) (some (.if_icmp .ge 38, 3, (99, 0, 0, 0), 0, 0, [])) none) (cond (Nat.beq i 64) (some (.iload 5, 2, (5, 0, 0, 0), 0, 0, [])) none))) (cond (Nat.ble i 69) (cond (Nat.ble i 66) (cond (Nat.beq i 66) (some (.ifCond .eq 33, 3, (99, 0, 0, 0), 0, 0, [])) none) (cond (Nat.beq i 69) (some (.aload_n 0, 1, (0, 0, 0, 0), 0, 0, [])) none)) (cond (Nat.ble i 70) (cond (Nat.beq i 70) (some (.getfield 38, 3, (2, 2, 11, 8), 0, 0, [])) none) (cond (Nat.beq i 73) (some (.iload 4, 2, (4, 0, 0, 0), 0, 0, [])) none))))) (cond (Nat.ble i 87) (cond (Nat.ble i 80) (cond (Nat.ble i 75) (cond (Nat.beq i 75) (some (.iload 6, 2, (6, 0, 0, 0), 0, 0, [])) none) (cond (Nat.ble i 77) (cond (Nat.beq i 77) (some (.invokestatic 111, 3, (69, 2, 2, 1), 0, 0, [])) none) (cond (Nat.beq i 80) (some (.aload_n 1, 1, (1, 0, 0, 0), 0, 0, [])) none))) (cond (Nat.ble i 81) (cond (Nat.beq i 81) (some (.getfield 38, 3, (2, 2, 11, 8), 0, 0, [])) none) (cond (Nat.ble i 84) (cond (Nat.beq i 84) (some (.invokevirtual 196, 3, (34, 3, 3, 2049), 0, 0, [])) none) (cond (Nat.beq i 87) (some (.ifCond .ne 6, 3, (93, 0, 0, 0), 0, 0, [])) none)))) (cond (Nat.ble i 96) (cond (Nat.ble i 90) (cond (Nat.beq i 90) (some (.iinc 2 1, 3, (2, 0, 0, 0), 1, 0, [])) none) (cond (Nat.ble i 93) (cond (Nat.beq i 93) (some (.iinc 6 1, 3, (6, 0, 0, 0), 1, 0, [])) none) (cond (Nat.beq i 96) (some (.goto (-47), 3, (49, 0, 0, 0), 0, 0, [])) none))) (cond (Nat.ble i 102) (cond (Nat.ble i 99) (cond (Nat.beq i 99) (some (.iinc 3 1, 3, (3, 0, 0, 0), 1, 0, [])) none) (cond (Nat.beq i 102) (some (.goto (-98), 3, (4, 0, 0, 0), 0, 0, [])) none)) (cond (Nat.ble i 105) (cond (Nat.beq i 105) (some (.iload_n 2, 1, (2, 0, 0, 0), 0, 0, [])) none) (cond (Nat.beq i 106) (some (.ireturn, 1, (0, 0, 0, 0), 0, 0, [])) none))))))
/-- Run_unchangedAfter -/
def pd_k17 (i : Nat) : Option pd_O := cond (Nat.ble i 63) (cond (Nat.ble i 30) (cond (Nat.ble i 13) (cond (Nat.ble i 7) (cond (Nat.ble i 1) (cond (Nat.ble i 0) (cond (Nat.beq i 0) (some (.aload_n 0, 1, (0, 0, 0, 0), 0, 0, [])) none) (cond (Nat.beq i 1) (some (.getfield 76, 3, (3, 2, 1, 5), 0, 0, [])) none)) (cond (Nat.ble i 4) (cond (Nat.beq i 4) (some (.getfield 88, 3, (2, 5, 3, 8), 0, 0, [])) none) (cond (Nat.beq i 7) (some (.getfield 167, 3, (2, 8, 1, 20), 0, 0, [])) none))) (cond (Nat.ble i 11) (cond (Nat.ble i 10) (cond (Nat.beq i 10) (some (.iload_n 1, 1, (1, 0, 0, 0), 0, 0, [])) none) (cond (Nat.beq i 11) (some (.iaload, 1, (0, 0, 0, 0), 0, 0, [])) none)) (cond (Nat.ble i 12) (cond (Nat.beq i 12) (some (.istore_n 2, 1, (2, 0, 0, 0), 0, 0, [])) none) (cond (Nat.beq i 13) (some (.aload_n 0, 1, (0, 0, 0, 0), 0, 0, [])) none)))) (cond (Nat.ble i 23) (cond (Nat.ble i 17) (cond (Nat.ble i 14) (cond (Nat.beq i 14) (some (.getfield 76, 3, (3, 2, 1, 5), 0, 0, [])) none) (cond (Nat.beq i 17) (some (.getfield 88, 3, (2, 5, 3, 8), 0, 0, [])) none)) (cond (Nat.ble i 20) (cond (Nat.beq i 20) (some (.getfield 170, 3, (2, 8, 2, 21), 0, 0, [])) none) (cond (Nat.beq i 23) (some (.iload_n 1, 1, (1, 0, 0, 0), 0, 0, [])) none))) (cond (Nat.ble i 25) (cond (Nat.ble i 24) (cond (Nat.beq i 24) (some (.laload, 1, (0, 0, 0, 0), 0, 0, [])) none) (cond (Nat.beq i 25) (some (.lstore_n 3, 1, (3, 0, 0, 0), 0, 0, [])) none)) (cond (Nat.ble i 26) (cond (Nat.beq i 26) (some (.aload_n 0, 1, (0, 0, 0, 0), 0, 0, [])) none) (cond (Nat.ble i 27) (cond (Nat.beq i 27) (some (.getfield 23, 3, (2, 2, 3, 8), 0, 0, [])) none) (cond (Nat.beq i 30) (some (.iload_n 1, 1, (1, 0, 0, 0), 0, 0, [])) none)))))) (cond (Nat.ble i 46) (cond (Nat.ble i 36) (cond (Nat.ble i 32) (cond (Nat.ble i 31) (cond (Nat.beq i 31) (some (.iload_n 2, 1, (2, 0, 0, 0), 0, 0, [])) none) (cond (Nat.beq i 32) (some (.lload_n 3, 1, (3, 0, 0, 0), 0, 0, [])) none)) (cond (Nat.ble i 33) (cond (Nat.beq i 33) (some (.invokevirtual 200, 3, (33, 4, 5, 2049), 0, 0, [])) none) (cond (Nat.beq i 36) (some (.ifCond .eq 7, 3, (43, 0, 0, 0), 0, 0, [])) none))) (cond (Nat.ble i 40) (cond (Nat.ble i 39) (cond (Nat.beq i 39) (some (.iconst 0, 1, (0, 0, 0, 0), 0, 0, [])) none) (cond (Nat.beq i 40) (some (.goto 4, 3, (44, 0, 0, 0), 0, 0, [])) none)) (cond (Nat.ble i 43) (cond (Nat.beq i 43) (some (.iconst 1, 1, (0, 0, 0, 0), 1, 0, [])) none) (cond (Nat.ble i 44) (cond (Nat.beq i 44) (some (.istore 5, 2, (5, 0, 0, 0), 0, 0, [])) none) (cond (Nat.beq i 46) (some (.iconst 0, 1, (0, 0, 0, 0), 0, 0, [])) none))))) (cond (Nat.ble i 52) (cond (Nat.ble i 49) (cond (Nat.ble i 47) (cond (Nat.beq i 47) (some (.istore 6, 2, (6, 0, 0, 0), 0, 0, [])) none) (cond (Nat.beq i 49) (some (.iload 6, 2, (6, 0, 0, 0), 0, 0, [])) none)) (cond (Nat.ble i 51) (cond (Nat.beq i 51) (some (.aload_n 0, 1, (0, 0, 0, 0), 0, 0, [])) none) (cond (Nat.beq i 52) (some (.getfield 12, 3, (2, 2, 1, 4), 0, 0, [])) none))) (cond (Nat.ble i 58) (cond (Nat.ble i 55) (cond (Nat.beq i 55) (some (.getfield 93, 3, (0, 4, 1, 0), 0, 0, [])) none) (cond (Nat.beq i 58) (some (.if_icmp .ge 73, 3, (131, 0, 0, 0), 0, 0, [])) none)) (cond (Nat.ble i 61) (cond (Nat.beq i 61) (some (.aload_n 0, 1, (0, 0, 0, 0), 0, 0, [])) none) (cond (Nat.ble i 62) (cond (Nat.beq i 62) (some (.iload_n 1, 1, (1, 0, 0, 0), 0, 0, [])) none) (cond (Nat.beq i 63) (some (.aload_n 0, 1, (0, 0, 0, 0), 0, 0, [])) none))))))) (cond (Nat.ble i 99) (cond (Nat.ble i 81) (cond (Nat.ble i 72) (cond (Nat.ble i 67) (cond (Nat.ble i 64) (cond (Nat.beq i 64) (some (.getfield 12, 3, (2, 2, 1, 4), 0, 0, [])) none) (cond (Nat.beq i 67) (some (.getfield 96, 3, (2, 4, 1, 20), 0, 0, [])) none)) (cond (Nat.ble i 70) (cond (Nat.beq i 70) (some (.iload 6, 2, (6, 0, 0, 0), 0, 0, [])) none) (cond (Nat.beq i 72) (some (.iaload, 1, (0, 0, 0, 0), 0, 0, [])) none))) (cond (Nat.ble i 76) (cond (Nat.ble i 73) (cond (Nat.beq i 73) (some (.invokevirtual 204, 3, (18, 3, 5, 513), 0, 0, [])) none) (cond (Nat.beq i 76) (some (.istore 7, 2, (7, 0, 0, 0), 0, 0, [])) none)) (cond (Nat.ble i 78) (cond (Nat.beq i 78) (some (.iload 7, 2, (7, 0, 0, 0), 0, 0, [])) none) (cond (Nat.ble i 80) (cond (Nat.beq i 80) (some (.iconst (-1), 1, (0, 0, 0, 0), -1, 0, [])) none) (cond (Nat.beq i 81) (some (.if_icmp .eq 25, 3, (106, 0, 0, 0), 0, 0, [])) none))))) (cond (Nat.ble i 91) (cond (Nat.ble i 85) (cond (Nat.ble i 84) (cond (Nat.beq i 84) (some (.aload_n 0, 1, (0, 0, 0, 0), 0, 0, [])) none) (cond (Nat.beq i 85) (some (.getfield 38, 3, (2, 2, 11, 8), 0, 0, [])) none)) (cond (Nat.ble i 88) (cond (Nat.beq i 88) (some (.getfield 167, 3, (2, 8, 1, 20), 0, 0, [])) none) (cond (Nat.beq i 91) (some (.iload 7, 2, (7, 0, 0, 0), 0, 0, [])) none))) (cond (Nat.ble i 94) (cond (Nat.ble i 93) (cond (Nat.beq i 93) (some (.iaload, 1, (0, 0, 0, 0), 0, 0, [])) none) (cond (Nat.beq i 94) (some (.istore_n 2, 1, (2, 0, 0, 0), 0, 0, [])) none)) (cond (Nat.ble i 95) (cond (Nat.beq i 95) (some (.aload_n 0, 1, (0, 0, 0, 0), 0, 0, [])) none) (cond (Nat.ble i 96) (cond (Nat.beq i 96) (some (.getfield 38, 3, (2, 2, 11, 8), 0, 0, [])) none) (cond (Nat.beq i 99) (some (.getfield 170, 3, (2, 8, 2, 21), 0, 0, [])) none)))))) (cond (Nat.ble i 113) (cond (Nat.ble i 106) (cond (Nat.ble i 104) (cond (Nat.ble i 102) (cond (Nat.beq i 102) (some (.iload 7, 2, (7, 0, 0, 0), 0, 0, [])) none) (cond (Nat.beq i 104) (some (.laload, 1, (0, 0, 0, 0), 0, 0, [])) none)) (cond (Nat.ble i 105) (cond (Nat.beq i 105) (some (.lstore_n 3, 1, (3, 0, 0, 0), 0, 0, [])) none) (cond (Nat.beq i 106) (some (.aload_n 0, 1, (0, 0, 0, 0), 0, 0, [])) none))) (cond (Nat.ble i 110) (cond (Nat.ble i 107) (cond (Nat.beq i 107) (some (.getfield 23, 3, (2, 2, 3, 8), 0, 0, [])) none) (cond (Nat.beq i 110) (some (.iload_n 1, 1, (1, 0, 0, 0), 0, 0, [])) none)) (cond (Nat.ble i 111) (cond (Nat.beq i 111) (some (.iload_n 2, 1, (2, 0, 0, 0), 0, 0, [])) none) (cond (Nat.ble i 112) (cond (Nat.beq i 112) (some (.lload_n 3, 1, (3, 0, 0, 0), 0, 0, [])) none) (cond (Nat.beq i 113) (some (.invokevirtual 200, 3, (33, 4, 5, 2049), 0, 0, [])) none))))) (cond (Nat.ble i 122) (cond (Nat.ble i 119) (cond (Nat.ble i 116) (cond (Nat.beq i 116) (some (.ifCond .ne 9, 3, (125, 0, 0, 0), 0, 0, [])) none) (cond (Nat.beq i 119) (some (.iload 6, 2, (6, 0, 0, 0), 0, 0, [])) none)) (cond (Nat.ble i 121) (cond (Nat.beq i 121) (some (.iconst 2, 1, (0, 0, 0, 0), 2, 0, [])) none) (cond (Nat.beq i 122) (some (.iadd, 1, (0, 0, 0, 0), 0, 0, [])) none))) (cond (Nat.ble i 125) (cond (Nat.ble i 123) (cond (Nat.beq i 123) (some (.istore 5, 2, (5, 0, 0, 0), 0, 0, [])) none) (cond (Nat.beq i 125) (some (.iinc 6 1, 3, (6, 0, 0, 0), 1, 0, [])) none)) (cond (Nat.ble i 128) (cond (Nat.beq i 128) (some (.goto (-79), 3, (49, 0, 0, 0), 0, 0, [])) none) (cond (Nat.ble i 131) (cond (Nat.beq i 131) (some (.iload 5, 2, (5, 0, 0, 0), 0, 0, [])) none) (cond (Nat.beq i 133) (some (.ireturn, 1, (0, 0, 0, 0), 0, 0, [])) none)))))))
/-- Run_lastChangeOf -/
def pd_k18 (i : Nat) : Option pd_O := cond (Nat.ble i 25) (cond (Nat.ble i 11) (cond (Nat.ble i 7) (cond (Nat.ble i 1) (cond (Nat.ble i 0) (cond (Nat.beq i 0) (some (.aload_n 0, 1, (0, 0, 0, 0), 0, 0, [])) none) (cond (Nat.beq i 1) (some (.getfield 80, 3, (3, 2, 7, 0), 0, 0, [])) none)) (cond (Nat.ble i 4) (cond (Nat.beq i 4) (some (.getfield 99, 3, (2, 0, 2, 20), 0, 0, [])) none) (cond (Nat.beq i 7) (some (.iload_n 2, 1, (2, 0, 0, 0), 0, 0, [])) none))) (cond (Nat.ble i 9) (cond (Nat.ble i 8) (cond (Nat.beq i 8) (some (.iaload, 1, (0, 0, 0, 0), 0, 0, [])) none) (cond (Nat.beq i 9) (some (.iconst 1, 1, (0, 0, 0, 0), 1, 0, [])) none)) (cond (Nat.ble i 10) (cond (Nat.beq i 10) (some (.isub, 1, (0, 0, 0, 0), 0, 0, [])) none) (cond (Nat.beq i 11) (some (.istore_n 3, 1, (3, 0, 0, 0), 0, 0, [])) none)))) (cond (Nat.ble i 17) (cond (Nat.ble i 13) (cond (Nat.ble i 12) (cond (Nat.beq i 12) (some (.iload_n 3, 1, (3, 0, 0, 0), 0, 0, [])) none) (cond (Nat.beq i 13) (some (.ifCond .lt 47, 3, (60, 0, 0, 0), 0, 0, [])) none)) (cond (Nat.ble i 16) (cond (Nat.beq i 16) (some (.aload_n 0, 1, (0, 0, 0, 0), 0, 0, [])) none) (cond (Nat.beq i 17) (some (.getfield 80, 3, (3, 2, 7, 0), 0, 0, [])) none))) (cond (Nat.ble i 23) (cond (Nat.ble i 20) (cond (Nat.beq i 20) (some (.getfield 114, 3, (2, 0, 1, 23), 0, 0, [])) none) (cond (Nat.beq i 23) (some (.iload_n 2, 1, (2, 0, 0, 0), 0, 0, [])) none)) (cond (Nat.ble i 24) (cond (Nat.beq i 24) (some (.iload_n 3, 1, (3, 0, 0, 0), 0, 0, [])) none) (cond (Nat.beq i 25) (some (.invokestatic 111, 3, (69, 2, 2, 1), 0, 0, [])) none))))) (cond (Nat.ble i 44) (cond (Nat.ble i 33) (cond (Nat.ble i 29) (cond (Nat.ble i 28) (cond (Nat.beq i 28) (some (.aaload, 1, (0, 0, 0, 0), 0, 0, [])) none) (cond (Nat.beq i 29) (some (.astore 4, 2, (4, 0, 0, 0), 0, 0, [])) none)) (cond (Nat.ble i 31) (cond (Nat.beq i 31) (some (.aload 4, 2, (4, 0, 0, 0), 0, 0, [])) none) (cond (Nat.beq i 33) (some (.getfield 142, 3, (0, 1, 3, 0), 0, 0, [])) none))) (cond (Nat.ble i 38) (cond (Nat.ble i 36) (cond (Nat.beq i 36) (some (.aload 4, 2, (4, 0, 0, 0), 0, 0, [])) none) (cond (Nat.beq i 38) (some (.getfield 145, 3, (0, 1, 4, 0), 0, 0, [])) none)) (cond (Nat.ble i 41) (cond (Nat.beq i 41) (some (.invokestatic 155, 3, (68, 2, 2, 1), 0, 0, [])) none) (cond (Nat.beq i 44) (some (.iload_n 1, 1, (1, 0, 0, 0), 0, 0, [])) none)))) (cond (Nat.ble i 50) (cond (Nat.ble i 48) (cond (Nat.ble i 45) (cond (Nat.beq i 45) (some (.if_icmp .ne 9, 3, (54, 0, 0, 0), 0, 0, [])) none) (cond (Nat.beq i 48) (some (.iload_n 2, 1, (2, 0, 0, 0), 0, 0, [])) none)) (cond (Nat.ble i 49) (cond (Nat.beq i 49) (some (.iload_n 3, 1, (3, 0, 0, 0), 0, 0, [])) none) (cond (Nat.beq i 50) (some (.invokestatic 111, 3, (69, 2, 2, 1), 0, 0, [])) none))) (cond (Nat.ble i 54) (cond (Nat.ble i 53) (cond (Nat.beq i 53) (some (.ireturn, 1, (0, 0, 0, 0), 0, 0, [])) none) (cond (Nat.beq i 54) (some (.iinc 3 (-1), 3, (3, 0, 0, 0), -1, 0, [])) none)) (cond (Nat.ble i 57) (cond (Nat.beq i 57) (some (.goto (-45), 3, (12, 0, 0, 0), 0, 0, [])) none) (cond (Nat.ble i 60) (cond (Nat.beq i 60) (some (.iconst (-1), 1, (0, 0, 0, 0), -1, 0, [])) none) (cond (Nat.beq i 61) (some (.ireturn, 1, (0, 0, 0, 0), 0, 0, [])) none))))))
/-- Seq_append -/
def pd_k19 (i : Nat) : Option pd_O := cond (Nat.ble i 14) (cond (Nat.ble i 6) (cond (Nat.ble i 1) (cond (Nat.ble i 0) (cond (Nat.beq i 0) (some (.aload_n 0, 1, (0, 0, 0, 0), 0, 0, [])) none) (cond (Nat.beq i 1) (some (.getfield 15, 3, (0, 4, 1, 0), 0, 0, [])) none)) (cond (Nat.ble i 4) (cond (Nat.beq i 4) (some (.bipush 24, 2, (0, 0, 0, 0), 24, 0, [])) none) (cond (Nat.beq i 6) (some (.if_icmp .ge 23, 3, (29, 0, 0, 0), 0, 0, [])) none))) (cond (Nat.ble i 10) (cond (Nat.ble i 9) (cond (Nat.beq i 9) (some (.aload_n 0, 1, (0, 0, 0, 0), 0, 0, [])) none) (cond (Nat.beq i 10) (some (.getfield 9, 3, (2, 4, 1, 20), 0, 0, [])) none)) (cond (Nat.ble i 13) (cond (Nat.beq i 13) (some (.aload_n 0, 1, (0, 0, 0, 0), 0, 0, [])) none) (cond (Nat.beq i 14) (some (.getfield 15, 3, (0, 4, 1, 0), 0, 0, [])) none)))) (cond (Nat.ble i 20) (cond (Nat.ble i 18) (cond (Nat.ble i 17) (cond (Nat.beq i 17) (some (.iload_n 1, 1, (1, 0, 0, 0), 0, 0, [])) none) (cond (Nat.beq i 18) (some (.iastore, 1, (0, 0, 0, 0), 0, 0, [])) none)) (cond (Nat.ble i 19) (cond (Nat.beq i 19) (some (.aload_n 0, 1, (0, 0, 0, 0), 0, 0, [])) none) (cond (Nat.beq i 20) (some (.dup, 1, (0, 0, 0, 0), 0, 0, [])) none))) (cond (Nat.ble i 24) (cond (Nat.ble i 21) (cond (Nat.beq i 21) (some (.getfield 15, 3, (0, 4, 1, 0), 0, 0, [])) none) (cond (Nat.beq i 24) (some (.iconst 1, 1, (0, 0, 0, 0), 1, 0, [])) none)) (cond (Nat.ble i 25) (cond (Nat.beq i 25) (some (.iadd, 1, (0, 0, 0, 0), 0, 0, [])) none) (cond (Nat.ble i 26) (cond (Nat.beq i 26) (some (.putfield 15, 3, (0, 4, 1, 0), 0, 0, [])) none) (cond (Nat.beq i 29) (some (.return_, 1, (0, 0, 0, 0), 0, 0, [])) none)))))
/-- Seq_indexOf -/
def pd_k20 (i : Nat) : Option pd_O := cond (Nat.ble i 14) (cond (Nat.ble i 3) (cond (Nat.ble i 1) (cond (Nat.ble i 0) (cond (Nat.beq i 0) (some (.iconst 0, 1, (0, 0, 0, 0), 0, 0, [])) none) (cond (Nat.beq i 1) (some (.istore_n 2, 1, (2, 0, 0, 0), 0, 0, [])) none)) (cond (Nat.ble i 2) (cond (Nat.beq i 2) (some (.iload_n 2, 1, (2, 0, 0, 0), 0, 0, [])) none) (cond (Nat.beq i 3) (some (.aload_n 0, 1, (0, 0, 0, 0), 0, 0, [])) none))) (cond (Nat.ble i 7) (cond (Nat.ble i 4) (cond (Nat.beq i 4) (some (.getfield 15, 3, (0, 4, 1, 0), 0, 0, [])) none) (cond (Nat.beq i 7) (some (.if_icmp .ge 21, 3, (28, 0, 0, 0), 0, 0, [])) none)) (cond (Nat.ble i 10) (cond (Nat.beq i 10) (some (.aload_n 0, 1, (0, 0, 0, 0), 0, 0, [])) none) (cond (Nat.ble i 11) (cond (Nat.beq i 11) (some (.getfield 9, 3, (2, 4, 1, 20), 0, 0, [])) none) (cond (Nat.beq i 14) (some (.iload_n 2, 1, (2, 0, 0, 0), 0, 0, [])) none))))) (cond (Nat.ble i 20) (cond (Nat.ble i 16) (cond (Nat.ble i 15) (cond (Nat.beq i 15) (some (.iaload, 1, (0, 0, 0, 0), 0, 0, [])) none) (cond (Nat.beq i 16) (some (.iload_n 1, 1, (1, 0, 0, 0), 0, 0, [])) none)) (cond (Nat.ble i 17) (cond (Nat.beq i 17) (some (.if_icmp .ne 5, 3, (22, 0, 0, 0), 0, 0, [])) none) (cond (Nat.beq i 20) (some (.iload_n 2, 1, (2, 0, 0, 0), 0, 0, [])) none))) (cond (Nat.ble i 22) (cond (Nat.ble i 21) (cond (Nat.beq i 21) (some (.ireturn, 1, (0, 0, 0, 0), 0, 0, [])) none) (cond (Nat.beq i 22) (some (.iinc 2 1, 3, (2, 0, 0, 0), 1, 0, [])) none)) (cond (Nat.ble i 25) (cond (Nat.beq i 25) (some (.goto (-23), 3, (2, 0, 0, 0), 0, 0, [])) none) (cond (Nat.ble i 28) (cond (Nat.beq i 28) (some (.iconst (-1), 1, (0, 0, 0, 0), -1, 0, [])) none) (cond (Nat.beq i 29) (some (.ireturn, 1, (0, 0, 0, 0), 0, 0, [])) none)))))
/-- Seq_remove -/
def pd_k21 (i : Nat) : Option pd_O := cond (Nat.ble i 19) (cond (Nat.ble i 6) (cond (Nat.ble i 2) (cond (Nat.ble i 0) (cond (Nat.beq i 0) (some (.iconst 0, 1, (0, 0, 0, 0), 0, 0, [])) none) (cond (Nat.ble i 1) (cond (Nat.beq i 1) (some (.istore_n 2, 1, (2, 0, 0, 0), 0, 0, [])) none) (cond (Nat.beq i 2) (some (.iconst 0, 1, (0, 0, 0, 0), 0, 0, [])) none))) (cond (Nat.ble i 4) (cond (Nat.ble i 3) (cond (Nat.beq i 3) (some (.istore_n 3, 1, (3, 0, 0, 0), 0, 0, [])) none) (cond (Nat.beq i 4) (some (.iload_n 3, 1, (3, 0, 0, 0), 0, 0, [])) none)) (cond (Nat.ble i 5) (cond (Nat.beq i 5) (some (.aload_n 0, 1, (0, 0, 0, 0), 0, 0, [])) none) (cond (Nat.beq i 6) (some (.getfield 15, 3, (0, 4, 1, 0), 0, 0, [])) none)))) (cond (Nat.ble i 13) (cond (Nat.ble i 9) (cond (Nat.beq i 9) (some (.if_icmp .ge 34, 3, (43, 0, 0, 0), 0, 0, [])) none) (cond (Nat.ble i 12) (cond (Nat.beq i 12) (some (.aload_n 0, 1, (0, 0, 0, 0), 0, 0, [])) none) (cond (Nat.beq i 13) (some (.getfield 9, 3, (2, 4, 1, 20), 0, 0, [])) none))) (cond (Nat.ble i 17) (cond (Nat.ble i 16) (cond (Nat.beq i 16) (some (.iload_n 3, 1, (3, 0, 0, 0), 0, 0, [])) none) (cond (Nat.beq i 17) (some (.iaload, 1, (0, 0, 0, 0), 0, 0, [])) none)) (cond (Nat.ble i 18) (cond (Nat.beq i 18) (some (.iload_n 1, 1, (1, 0, 0, 0), 0, 0, [])) none) (cond (Nat.beq i 19) (some (.if_icmp .eq 18, 3, (37, 0, 0, 0), 0, 0, [])) none))))) (cond (Nat.ble i 32) (cond (Nat.ble i 26) (cond (Nat.ble i 22) (cond (Nat.beq i 22) (some (.aload_n 0, 1, (0, 0, 0, 0), 0, 0, [])) none) (cond (Nat.ble i 23) (cond (Nat.beq i 23) (some (.getfield 9, 3, (2, 4, 1, 20), 0, 0, [])) none) (cond (Nat.beq i 26) (some (.iload_n 2, 1, (2, 0, 0, 0), 0, 0, [])) none))) (cond (Nat.ble i 28) (cond (Nat.ble i 27) (cond (Nat.beq i 27) (some (.aload_n 0, 1, (0, 0, 0, 0), 0, 0, [])) none) (cond (Nat.beq i 28) (some (.getfield 9, 3, (2, 4, 1, 20), 0, 0, [])) none)) (cond (Nat.ble i 31) (cond (Nat.beq i 31) (some (.iload_n 3, 1, (3, 0, 0, 0), 0, 0, [])) none) (cond (Nat.beq i 32) (some (.iaload, 1, (0, 0, 0, 0), 0, 0, [])) none)))) (cond (Nat.ble i 40) (cond (Nat.ble i 34) (cond (Nat.ble i 33) (cond (Nat.beq i 33) (some (.iastore, 1, (0, 0, 0, 0), 0, 0, [])) none) (cond (Nat.beq i 34) (some (.iinc 2 1, 3, (2, 0, 0, 0), 1, 0, [])) none)) (cond (Nat.ble i 37) (cond (Nat.beq i 37) (some (.iinc 3 1, 3, (3, 0, 0, 0), 1, 0, [])) none) (cond (Nat.beq i 40) (some (.goto (-36), 3, (4, 0, 0, 0), 0, 0, [])) none))) (cond (Nat.ble i 44) (cond (Nat.ble i 43) (cond (Nat.beq i 43) (some (.aload_n 0, 1, (0, 0, 0, 0), 0, 0, [])) none) (cond (Nat.beq i 44) (some (.iload_n 2, 1, (2, 0, 0, 0), 0, 0, [])) none)) (cond (Nat.ble i 45) (cond (Nat.beq i 45) (some (.putfield 15, 3, (0, 4, 1, 0), 0, 0, [])) none) (cond (Nat.beq i 48) (some (.return_, 1, (0, 0, 0, 0), 0, 0, [])) none)))))
/-- Seq_becomeLike -/
def pd_k22 (i : Nat) : Option pd_O := cond (Nat.ble i 15) (cond (Nat.ble i 8) (cond (Nat.ble i 1) (cond (Nat.ble i 0) (cond (Nat.beq i 0) (some (.aload_n 0, 1, (0, 0, 0, 0), 0, 0, [])) none) (cond (Nat.beq i 1) (some (.aload_n 1, 1, (1, 0, 0, 0), 0, 0, [])) none)) (cond (Nat.ble i 2) (cond (Nat.beq i 2) (some (.getfield 15, 3, (0, 4, 1, 0), 0, 0, [])) none) (cond (Nat.ble i 5) (cond (Nat.beq i 5) (some (.putfield 15, 3, (0, 4, 1, 0), 0, 0, [])) none) (cond (Nat.beq i 8) (some (.iconst 0, 1, (0, 0, 0, 0), 0, 0, [])) none)))) (cond (Nat.ble i 10) (cond (Nat.ble i 9) (cond (Nat.beq i 9) (some (.istore_n 2, 1, (2, 0, 0, 0), 0, 0, [])) none) (cond (Nat.beq i 10) (some (.iload_n 2, 1, (2, 0, 0, 0), 0, 0, [])) none)) (cond (Nat.ble i 11) (cond (Nat.beq i 11) (some (.aload_n 0, 1, (0, 0, 0, 0), 0, 0, [])) none) (cond (Nat.ble i 12) (cond (Nat.beq i 12) (some (.getfield 15, 3, (0, 4, 1, 0), 0, 0, [])) none) (cond (Nat.beq i 15) (some (.if_icmp .ge 21, 3, (36, 0, 0, 0), 0, 0, [])) none))))) (cond (Nat.ble i 24) (cond (Nat.ble i 19) (cond (Nat.ble i 18) (cond (Nat.beq i 18) (some (.aload_n 0, 1, (0, 0, 0, 0), 0, 0, [])) none) (cond (Nat.beq i 19) (some (.getfield 9, 3, (2, 4, 1, 20), 0, 0, [])) none)) (cond (Nat.ble i 22) (cond (Nat.beq i 22) (some (.iload_n 2, 1, (2, 0, 0, 0), 0, 0, [])) none) (cond (Nat.ble i 23) (cond (Nat.beq i 23) (some (.aload_n 1, 1, (1, 0, 0, 0), 0, 0, [])) none) (cond (Nat.beq i 24) (some (.getfield 9, 3, (2, 4, 1, 20), 0, 0, [])) none)))) (cond (Nat.ble i 29) (cond (Nat.ble i 27) (cond (Nat.beq i 27) (some (.iload_n 2, 1, (2, 0, 0, 0), 0, 0, [])) none) (cond (Nat.ble i 28) (cond (Nat.beq i 28) (some (.iaload, 1, (0, 0, 0, 0), 0, 0, [])) none) (cond (Nat.beq i 29) (some (.iastore, 1, (0, 0, 0, 0), 0, 0, [])) none))) (cond (Nat.ble i 30) (cond (Nat.beq i 30) (some (.iinc 2 1, 3, (2, 0, 0, 0), 1, 0, [])) none) (cond (Nat.ble i 33) (cond (Nat.beq i 33) (some (.goto (-23), 3, (10, 0, 0, 0), 0, 0, [])) none) (cond (Nat.beq i 36) (some (.return_, 1, (0, 0, 0, 0), 0, 0, [])) none)))))
/-- Shelf_place -/
def pd_k23 (i : Nat) : Option pd_O := cond (Nat.ble i 24) (cond (Nat.ble i 11) (cond (Nat.ble i 5) (cond (Nat.ble i 1) (cond (Nat.ble i 0) (cond (Nat.beq i 0) (some (.aload_n 0, 1, (0, 0, 0, 0), 0, 0, [])) none) (cond (Nat.beq i 1) (some (.getfield 9, 3, (2, 5, 1, 20), 0, 0, [])) none)) (cond (Nat.ble i 4) (cond (Nat.beq i 4) (some (.iload_n 1, 1, (1, 0, 0, 0), 0, 0, [])) none) (cond (Nat.beq i 5) (some (.iload_n 2, 1, (2, 0, 0, 0), 0, 0, [])) none))) (cond (Nat.ble i 7) (cond (Nat.ble i 6) (cond (Nat.beq i 6) (some (.iastore, 1, (0, 0, 0, 0), 0, 0, [])) none) (cond (Nat.beq i 7) (some (.aload_n 0, 1, (0, 0, 0, 0), 0, 0, [])) none)) (cond (Nat.ble i 8) (cond (Nat.beq i 8) (some (.getfield 15, 3, (2, 5, 2, 20), 0, 0, [])) none) (cond (Nat.beq i 11) (some (.iload_n 1, 1, (1, 0, 0, 0), 0, 0, [])) none)))) (cond (Nat.ble i 15) (cond (Nat.ble i 13) (cond (Nat.ble i 12) (cond (Nat.beq i 12) (some (.iload_n 3, 1, (3, 0, 0, 0), 0, 0, [])) none) (cond (Nat.beq i 13) (some (.iastore, 1, (0, 0, 0, 0), 0, 0, [])) none)) (cond (Nat.ble i 14) (cond (Nat.beq i 14) (some (.iload_n 2, 1, (2, 0, 0, 0), 0, 0, [])) none) (cond (Nat.beq i 15) (some (.bipush 7, 2, (0, 0, 0, 0), 7, 0, [])) none))) (cond (Nat.ble i 20) (cond (Nat.ble i 17) (cond (Nat.beq i 17) (some (.if_icmp .gt 7, 3, (24, 0, 0, 0), 0, 0, [])) none) (cond (Nat.beq i 20) (some (.iload_n 2, 1, (2, 0, 0, 0), 0, 0, [])) none)) (cond (Nat.ble i 21) (cond (Nat.beq i 21) (some (.goto 5, 3, (26, 0, 0, 0), 0, 0, [])) none) (cond (Nat.beq i 24) (some (.bipush 11, 2, (0, 0, 0, 0), 11, 0, [])) none))))) (cond (Nat.ble i 38) (cond (Nat.ble i 31) (cond (Nat.ble i 28) (cond (Nat.ble i 26) (cond (Nat.beq i 26) (some (.istore 4, 2, (4, 0, 0, 0), 0, 0, [])) none) (cond (Nat.beq i 28) (some (.iconst 0, 1, (0, 0, 0, 0), 0, 0, [])) none)) (cond (Nat.ble i 29) (cond (Nat.beq i 29) (some (.istore 5, 2, (5, 0, 0, 0), 0, 0, [])) none) (cond (Nat.beq i 31) (some (.iload 5, 2, (5, 0, 0, 0), 0, 0, [])) none))) (cond (Nat.ble i 34) (cond (Nat.ble i 33) (cond (Nat.beq i 33) (some (.iload_n 3, 1, (3, 0, 0, 0), 0, 0, [])) none) (cond (Nat.beq i 34) (some (.if_icmp .ge 25, 3, (59, 0, 0, 0), 0, 0, [])) none)) (cond (Nat.ble i 37) (cond (Nat.beq i 37) (some (.aload_n 0, 1, (0, 0, 0, 0), 0, 0, [])) none) (cond (Nat.beq i 38) (some (.getfield 23, 3, (2, 5, 3, 8), 0, 0, [])) none)))) (cond (Nat.ble i 47) (cond (Nat.ble i 42) (cond (Nat.ble i 41) (cond (Nat.beq i 41) (some (.iload_n 1, 1, (1, 0, 0, 0), 0, 0, [])) none) (cond (Nat.beq i 42) (some (.iload 5, 2, (5, 0, 0, 0), 0, 0, [])) none)) (cond (Nat.ble i 44) (cond (Nat.beq i 44) (some (.invokestatic 27, 3, (68, 2, 2, 1), 0, 0, [])) none) (cond (Nat.beq i 47) (some (.iload 4, 2, (4, 0, 0, 0), 0, 0, [])) none))) (cond (Nat.ble i 50) (cond (Nat.ble i 49) (cond (Nat.beq i 49) (some (.lconst 0, 1, (0, 0, 0, 0), 0, 0, [])) none) (cond (Nat.beq i 50) (some (.invokevirtual 31, 3, (32, 4, 5, 2048), 0, 0, [])) none)) (cond (Nat.ble i 53) (cond (Nat.beq i 53) (some (.iinc 5 1, 3, (5, 0, 0, 0), 1, 0, [])) none) (cond (Nat.ble i 56) (cond (Nat.beq i 56) (some (.goto (-25), 3, (31, 0, 0, 0), 0, 0, [])) none) (cond (Nat.beq i 59) (some (.return_, 1, (0, 0, 0, 0), 0, 0, [])) none))))))
/-- Shelf_arrayFinding -/
def pd_k24 (i : Nat) : Option pd_O := cond (Nat.ble i 12) (cond (Nat.ble i 5) (cond (Nat.ble i 1) (cond (Nat.ble i 0) (cond (Nat.beq i 0) (some (.aload_n 0, 1, (0, 0, 0, 0), 0, 0, [])) none) (cond (Nat.beq i 1) (some (.getfield 9, 3, (2, 5, 1, 20), 0, 0, [])) none)) (cond (Nat.ble i 4) (cond (Nat.beq i 4) (some (.iload_n 1, 1, (1, 0, 0, 0), 0, 0, [])) none) (cond (Nat.beq i 5) (some (.iaload, 1, (0, 0, 0, 0), 0, 0, [])) none))) (cond (Nat.ble i 7) (cond (Nat.ble i 6) (cond (Nat.beq i 6) (some (.iconst (-1), 1, (0, 0, 0, 0), -1, 0, [])) none) (cond (Nat.beq i 7) (some (.if_icmp .ne 5, 3, (12, 0, 0, 0), 0, 0, [])) none)) (cond (Nat.ble i 10) (cond (Nat.beq i 10) (some (.iconst 1, 1, (0, 0, 0, 0), 1, 0, [])) none) (cond (Nat.ble i 11) (cond (Nat.beq i 11) (some (.ireturn, 1, (0, 0, 0, 0), 0, 0, [])) none) (cond (Nat.beq i 12) (some (.aload_n 0, 1, (0, 0, 0, 0), 0, 0, [])) none))))) (cond (Nat.ble i 18) (cond (Nat.ble i 16) (cond (Nat.ble i 13) (cond (Nat.beq i 13) (some (.getfield 9, 3, (2, 5, 1, 20), 0, 0, [])) none) (cond (Nat.beq i 16) (some (.iload_n 1, 1, (1, 0, 0, 0), 0, 0, [])) none)) (cond (Nat.ble i 17) (cond (Nat.beq i 17) (some (.iaload, 1, (0, 0, 0, 0), 0, 0, [])) none) (cond (Nat.beq i 18) (some (.bipush 12, 2, (0, 0, 0, 0), 12, 0, [])) none))) (cond (Nat.ble i 23) (cond (Nat.ble i 20) (cond (Nat.beq i 20) (some (.if_icmp .le 7, 3, (27, 0, 0, 0), 0, 0, [])) none) (cond (Nat.beq i 23) (some (.iconst 2, 1, (0, 0, 0, 0), 2, 0, [])) none)) (cond (Nat.ble i 24) (cond (Nat.beq i 24) (some (.goto 4, 3, (28, 0, 0, 0), 0, 0, [])) none) (cond (Nat.ble i 27) (cond (Nat.beq i 27) (some (.iconst 0, 1, (0, 0, 0, 0), 0, 0, [])) none) (cond (Nat.beq i 28) (some (.ireturn, 1, (0, 0, 0, 0), 0, 0, [])) none)))))
/-- Shelf_elementFinding -/
def pd_k25 (i : Nat) : Option pd_O := cond (Nat.ble i 7) (cond (Nat.ble i 2) (cond (Nat.ble i 0) (cond (Nat.beq i 0) (some (.aload_n 0, 1, (0, 0, 0, 0), 0, 0, [])) none) (cond (Nat.ble i 1) (cond (Nat.beq i 1) (some (.iload_n 1, 1, (1, 0, 0, 0), 0, 0, [])) none) (cond (Nat.beq i 2) (some (.invokevirtual 35, 3, (24, 2, 2, 1281), 0, 0, [])) none))) (cond (Nat.ble i 5) (cond (Nat.beq i 5) (some (.istore_n 3, 1, (3, 0, 0, 0), 0, 0, [])) none) (cond (Nat.ble i 6) (cond (Nat.beq i 6) (some (.iload_n 3, 1, (3, 0, 0, 0), 0, 0, [])) none) (cond (Nat.beq i 7) (some (.ifCond .eq 7, 3, (14, 0, 0, 0), 0, 0, [])) none)))) (cond (Nat.ble i 14) (cond (Nat.ble i 10) (cond (Nat.beq i 10) (some (.iload_n 3, 1, (3, 0, 0, 0), 0, 0, [])) none) (cond (Nat.ble i 11) (cond (Nat.beq i 11) (some (.goto 9, 3, (20, 0, 0, 0), 0, 0, [])) none) (cond (Nat.beq i 14) (some (.aload_n 0, 1, (0, 0, 0, 0), 0, 0, [])) none))) (cond (Nat.ble i 16) (cond (Nat.ble i 15) (cond (Nat.beq i 15) (some (.iload_n 1, 1, (1, 0, 0, 0), 0, 0, [])) none) (cond (Nat.beq i 16) (some (.iload_n 2, 1, (2, 0, 0, 0), 0, 0, [])) none)) (cond (Nat.ble i 17) (cond (Nat.beq i 17) (some (.invokevirtual 39, 3, (26, 3, 3, 1281), 0, 0, [])) none) (cond (Nat.beq i 20) (some (.ireturn, 1, (0, 0, 0, 0), 0, 0, [])) none))))
/-- Shelf_indexFinding -/
def pd_k26 (i : Nat) : Option pd_O := cond (Nat.ble i 9) (cond (Nat.ble i 4) (cond (Nat.ble i 0) (cond (Nat.beq i 0) (some (.iload_n 2, 1, (2, 0, 0, 0), 0, 0, [])) none) (cond (Nat.ble i 1) (cond (Nat.beq i 1) (some (.ifCond .lt 13, 3, (14, 0, 0, 0), 0, 0, [])) none) (cond (Nat.beq i 4) (some (.iload_n 2, 1, (2, 0, 0, 0), 0, 0, [])) none))) (cond (Nat.ble i 5) (cond (Nat.beq i 5) (some (.aload_n 0, 1, (0, 0, 0, 0), 0, 0, [])) none) (cond (Nat.ble i 6) (cond (Nat.beq i 6) (some (.getfield 15, 3, (2, 5, 2, 20), 0, 0, [])) none) (cond (Nat.beq i 9) (some (.iload_n 1, 1, (1, 0, 0, 0), 0, 0, [])) none)))) (cond (Nat.ble i 14) (cond (Nat.ble i 10) (cond (Nat.beq i 10) (some (.iaload, 1, (0, 0, 0, 0), 0, 0, [])) none) (cond (Nat.ble i 11) (cond (Nat.beq i 11) (some (.if_icmp .lt 7, 3, (18, 0, 0, 0), 0, 0, [])) none) (cond (Nat.beq i 14) (some (.iconst 5, 1, (0, 0, 0, 0), 5, 0, [])) none))) (cond (Nat.ble i 15) (cond (Nat.beq i 15) (some (.goto 4, 3, (19, 0, 0, 0), 0, 0, [])) none) (cond (Nat.ble i 18) (cond (Nat.beq i 18) (some (.iconst 0, 1, (0, 0, 0, 0), 0, 0, [])) none) (cond (Nat.beq i 19) (some (.ireturn, 1, (0, 0, 0, 0), 0, 0, [])) none))))
/-- Shelf_readingFinding -/
def pd_k27 (i : Nat) : Option pd_O := cond (Nat.ble i 27) (cond (Nat.ble i 14) (cond (Nat.ble i 5) (cond (Nat.ble i 1) (cond (Nat.ble i 0) (cond (Nat.beq i 0) (some (.aload_n 0, 1, (0, 0, 0, 0), 0, 0, [])) none) (cond (Nat.beq i 1) (some (.iload_n 1, 1, (1, 0, 0, 0), 0, 0, [])) none)) (cond (Nat.ble i 2) (cond (Nat.beq i 2) (some (.invokevirtual 35, 3, (24, 2, 2, 1281), 0, 0, [])) none) (cond (Nat.beq i 5) (some (.istore 4, 2, (4, 0, 0, 0), 0, 0, [])) none))) (cond (Nat.ble i 9) (cond (Nat.ble i 7) (cond (Nat.beq i 7) (some (.iload 4, 2, (4, 0, 0, 0), 0, 0, [])) none) (cond (Nat.beq i 9) (some (.ifCond .eq 6, 3, (15, 0, 0, 0), 0, 0, [])) none)) (cond (Nat.ble i 12) (cond (Nat.beq i 12) (some (.iload 4, 2, (4, 0, 0, 0), 0, 0, [])) none) (cond (Nat.beq i 14) (some (.ireturn, 1, (0, 0, 0, 0), 0, 0, [])) none)))) (cond (Nat.ble i 21) (cond (Nat.ble i 16) (cond (Nat.ble i 15) (cond (Nat.beq i 15) (some (.iload_n 2, 1, (2, 0, 0, 0), 0, 0, [])) none) (cond (Nat.beq i 16) (some (.bipush 8, 2, (0, 0, 0, 0), 8, 0, [])) none)) (cond (Nat.ble i 18) (cond (Nat.beq i 18) (some (.if_icmp .eq 31, 3, (49, 0, 0, 0), 0, 0, [])) none) (cond (Nat.beq i 21) (some (.aload_n 0, 1, (0, 0, 0, 0), 0, 0, [])) none))) (cond (Nat.ble i 25) (cond (Nat.ble i 22) (cond (Nat.beq i 22) (some (.getfield 9, 3, (2, 5, 1, 20), 0, 0, [])) none) (cond (Nat.beq i 25) (some (.iload_n 1, 1, (1, 0, 0, 0), 0, 0, [])) none)) (cond (Nat.ble i 26) (cond (Nat.beq i 26) (some (.iaload, 1, (0, 0, 0, 0), 0, 0, [])) none) (cond (Nat.beq i 27) (some (.bipush 7, 2, (0, 0, 0, 0), 7, 0, [])) none))))) (cond (Nat.ble i 40) (cond (Nat.ble i 34) (cond (Nat.ble i 32) (cond (Nat.ble i 29) (cond (Nat.beq i 29) (some (.if_icmp .le 5, 3, (34, 0, 0, 0), 0, 0, [])) none) (cond (Nat.beq i 32) (some (.iconst 3, 1, (0, 0, 0, 0), 3, 0, [])) none)) (cond (Nat.ble i 33) (cond (Nat.beq i 33) (some (.ireturn, 1, (0, 0, 0, 0), 0, 0, [])) none) (cond (Nat.beq i 34) (some (.aload_n 0, 1, (0, 0, 0, 0), 0, 0, [])) none))) (cond (Nat.ble i 38) (cond (Nat.ble i 35) (cond (Nat.beq i 35) (some (.getfield 9, 3, (2, 5, 1, 20), 0, 0, [])) none) (cond (Nat.beq i 38) (some (.iload_n 1, 1, (1, 0, 0, 0), 0, 0, [])) none)) (cond (Nat.ble i 39) (cond (Nat.beq i 39) (some (.iaload, 1, (0, 0, 0, 0), 0, 0, [])) none) (cond (Nat.beq i 40) (some (.iload_n 2, 1, (2, 0, 0, 0), 0, 0, [])) none)))) (cond (Nat.ble i 48) (cond (Nat.ble i 44) (cond (Nat.ble i 41) (cond (Nat.beq i 41) (some (.invokestatic 42, 3, (74, 2, 2, 1), 0, 0, [])) none) (cond (Nat.beq i 44) (some (.ifCond .ne 5, 3, (49, 0, 0, 0), 0, 0, [])) none)) (cond (Nat.ble i 47) (cond (Nat.beq i 47) (some (.iconst 4, 1, (0, 0, 0, 0), 4, 0, [])) none) (cond (Nat.beq i 48) (some (.ireturn, 1, (0, 0, 0, 0), 0, 0, [])) none))) (cond (Nat.ble i 50) (cond (Nat.ble i 49) (cond (Nat.beq i 49) (some (.aload_n 0, 1, (0, 0, 0, 0), 0, 0, [])) none) (cond (Nat.beq i 50) (some (.iload_n 1, 1, (1, 0, 0, 0), 0, 0, [])) none)) (cond (Nat.ble i 51) (cond (Nat.beq i 51) (some (.iload_n 3, 1, (3, 0, 0, 0), 0, 0, [])) none) (cond (Nat.ble i 52) (cond (Nat.beq i 52) (some (.invokevirtual 39, 3, (26, 3, 3, 1281), 0, 0, [])) none) (cond (Nat.beq i 55) (some (.ireturn, 1, (0, 0, 0, 0), 0, 0, [])) none))))))
/-- Shelf_writingFinding -/
def pd_k28 (i : Nat) : Option pd_O := cond (Nat.ble i 29) (cond (Nat.ble i 14) (cond (Nat.ble i 5) (cond (Nat.ble i 1) (cond (Nat.ble i 0) (cond (Nat.beq i 0) (some (.aload_n 0, 1, (0, 0, 0, 0), 0, 0, [])) none) (cond (Nat.beq i 1) (some (.iload_n 1, 1, (1, 0, 0, 0), 0, 0, [])) none)) (cond (Nat.ble i 2) (cond (Nat.beq i 2) (some (.invokevirtual 35, 3, (24, 2, 2, 1281), 0, 0, [])) none) (cond (Nat.beq i 5) (some (.istore 4, 2, (4, 0, 0, 0), 0, 0, [])) none))) (cond (Nat.ble i 9) (cond (Nat.ble i 7) (cond (Nat.beq i 7) (some (.iload 4, 2, (4, 0, 0, 0), 0, 0, [])) none) (cond (Nat.beq i 9) (some (.ifCond .eq 6, 3, (15, 0, 0, 0), 0, 0, [])) none)) (cond (Nat.ble i 12) (cond (Nat.beq i 12) (some (.iload 4, 2, (4, 0, 0, 0), 0, 0, [])) none) (cond (Nat.beq i 14) (some (.ireturn, 1, (0, 0, 0, 0), 0, 0, [])) none)))) (cond (Nat.ble i 20) (cond (Nat.ble i 16) (cond (Nat.ble i 15) (cond (Nat.beq i 15) (some (.aload_n 0, 1, (0, 0, 0, 0), 0, 0, [])) none) (cond (Nat.beq i 16) (some (.getfield 9, 3, (2, 5, 1, 20), 0, 0, [])) none)) (cond (Nat.ble i 19) (cond (Nat.beq i 19) (some (.iload_n 1, 1, (1, 0, 0, 0), 0, 0, [])) none) (cond (Nat.beq i 20) (some (.iaload, 1, (0, 0, 0, 0), 0, 0, [])) none))) (cond (Nat.ble i 23) (cond (Nat.ble i 21) (cond (Nat.beq i 21) (some (.bipush 7, 2, (0, 0, 0, 0), 7, 0, [])) none) (cond (Nat.beq i 23) (some (.if_icmp .le 11, 3, (34, 0, 0, 0), 0, 0, [])) none)) (cond (Nat.ble i 26) (cond (Nat.beq i 26) (some (.iload_n 2, 1, (2, 0, 0, 0), 0, 0, [])) none) (cond (Nat.ble i 27) (cond (Nat.beq i 27) (some (.bipush 8, 2, (0, 0, 0, 0), 8, 0, [])) none) (cond (Nat.beq i 29) (some (.if_icmp .ge 5, 3, (34, 0, 0, 0), 0, 0, [])) none)))))) (cond (Nat.ble i 41) (cond (Nat.ble i 35) (cond (Nat.ble i 33) (cond (Nat.ble i 32) (cond (Nat.beq i 32) (some (.iconst 3, 1, (0, 0, 0, 0), 3, 0, [])) none) (cond (Nat.beq i 33) (some (.ireturn, 1, (0, 0, 0, 0), 0, 0, [])) none)) (cond (Nat.ble i 34) (cond (Nat.beq i 34) (some (.aload_n 0, 1, (0, 0, 0, 0), 0, 0, [])) none) (cond (Nat.beq i 35) (some (.getfield 9, 3, (2, 5, 1, 20), 0, 0, [])) none))) (cond (Nat.ble i 39) (cond (Nat.ble i 38) (cond (Nat.beq i 38) (some (.iload_n 1, 1, (1, 0, 0, 0), 0, 0, [])) none) (cond (Nat.beq i 39) (some (.iaload, 1, (0, 0, 0, 0), 0, 0, [])) none)) (cond (Nat.ble i 40) (cond (Nat.beq i 40) (some (.iload_n 2, 1, (2, 0, 0, 0), 0, 0, [])) none) (cond (Nat.beq i 41) (some (.invokestatic 46, 3, (77, 1, 1, 1), 0, 0, [])) none)))) (cond (Nat.ble i 51) (cond (Nat.ble i 47) (cond (Nat.ble i 44) (cond (Nat.beq i 44) (some (.invokestatic 49, 3, (29, 2, 2, 1), 0, 0, [])) none) (cond (Nat.beq i 47) (some (.ifCond .ne 5, 3, (52, 0, 0, 0), 0, 0, [])) none)) (cond (Nat.ble i 50) (cond (Nat.beq i 50) (some (.iconst 4, 1, (0, 0, 0, 0), 4, 0, [])) none) (cond (Nat.beq i 51) (some (.ireturn, 1, (0, 0, 0, 0), 0, 0, [])) none))) (cond (Nat.ble i 53) (cond (Nat.ble i 52) (cond (Nat.beq i 52) (some (.aload_n 0, 1, (0, 0, 0, 0), 0, 0, [])) none) (cond (Nat.beq i 53) (some (.iload_n 1, 1, (1, 0, 0, 0), 0, 0, [])) none)) (cond (Nat.ble i 54) (cond (Nat.beq i 54) (some (.iload_n 3, 1, (3, 0, 0, 0), 0, 0, [])) none) (cond (Nat.ble i 55) (cond (Nat.beq i 55) (some (.invokevirtual 39, 3, (26, 3, 3, 1281), 0, 0, [])) none) (cond (Nat.beq i 58) (some (.ireturn, 1, (0, 0, 0, 0), 0, 0, [])) none))))))
/-- Shelf_takes -/
def pd_k29 (i : Nat) : Option pd_O := cond (Nat.ble i 78) (cond (Nat.ble i 51) (cond (Nat.ble i 39) (cond (Nat.ble i 32) (cond (Nat.ble i 0) (cond (Nat.beq i 0) (some (.iload_n 1, 1, (1, 0, 0, 0), 0, 0, [])) none) (cond (Nat.ble i 1) (cond (Nat.beq i 1) (some (.tableswitch 91 8 11 #[31, 49, 61, 79], 31, (92, 0, 0, 0), 0, 0, [(8, 32), (9, 50), (10, 62), (11, 80)])) none) (cond (Nat.beq i 32) (some (.iload_n 0, 1, (0, 0, 0, 0), 0, 0, [])) none))) (cond (Nat.ble i 35) (cond (Nat.ble i 33) (cond (Nat.beq i 33) (some (.bipush 8, 2, (0, 0, 0, 0), 8, 0, [])) none) (cond (Nat.beq i 35) (some (.if_icmp .eq 9, 3, (44, 0, 0, 0), 0, 0, [])) none)) (cond (Nat.ble i 38) (cond (Nat.beq i 38) (some (.iload_n 0, 1, (0, 0, 0, 0), 0, 0, [])) none) (cond (Nat.beq i 39) (some (.bipush 12, 2, (0, 0, 0, 0), 12, 0, [])) none)))) (cond (Nat.ble i 45) (cond (Nat.ble i 41) (cond (Nat.beq i 41) (some (.if_icmp .ne 7, 3, (48, 0, 0, 0), 0, 0, [])) none) (cond (Nat.ble i 44) (cond (Nat.beq i 44) (some (.iconst 1, 1, (0, 0, 0, 0), 1, 0, [])) none) (cond (Nat.beq i 45) (some (.goto 4, 3, (49, 0, 0, 0), 0, 0, [])) none))) (cond (Nat.ble i 49) (cond (Nat.ble i 48) (cond (Nat.beq i 48) (some (.iconst 0, 1, (0, 0, 0, 0), 0, 0, [])) none) (cond (Nat.beq i 49) (some (.ireturn, 1, (1, 0, 0, 0), 0, 0, [])) none)) (cond (Nat.ble i 50) (cond (Nat.beq i 50) (some (.iload_n 0, 1, (0, 0, 0, 0), 0, 0, [])) none) (cond (Nat.beq i 51) (some (.bipush 9, 2, (0, 0, 0, 0), 9, 0, [])) none))))) (cond (Nat.ble i 63) (cond (Nat.ble i 57) (cond (Nat.ble i 53) (cond (Nat.beq i 53) (some (.if_icmp .ne 7, 3, (60, 0, 0, 0), 0, 0, [])) none) (cond (Nat.ble i 56) (cond (Nat.beq i 56) (some (.iconst 1, 1, (0, 0, 0, 0), 1, 0, [])) none) (cond (Nat.beq i 57) (some (.goto 4, 3, (61, 0, 0, 0), 0, 0, [])) none))) (cond (Nat.ble i 61) (cond (Nat.ble i 60) (cond (Nat.beq i 60) (some (.iconst 0, 1, (0, 0, 0, 0), 0, 0, [])) none) (cond (Nat.beq i 61) (some (.ireturn, 1, (1, 0, 0, 0), 0, 0, [])) none)) (cond (Nat.ble i 62) (cond (Nat.beq i 62) (some (.iload_n 0, 1, (0, 0, 0, 0), 0, 0, [])) none) (cond (Nat.beq i 63) (some (.bipush 9, 2, (0, 0, 0, 0), 9, 0, [])) none)))) (cond (Nat.ble i 69) (cond (Nat.ble i 65) (cond (Nat.beq i 65) (some (.if_icmp .eq 9, 3, (74, 0, 0, 0), 0, 0, [])) none) (cond (Nat.ble i 68) (cond (Nat.beq i 68) (some (.iload_n 0, 1, (0, 0, 0, 0), 0, 0, [])) none) (cond (Nat.beq i 69) (some (.bipush 10, 2, (0, 0, 0, 0), 10, 0, [])) none))) (cond (Nat.ble i 74) (cond (Nat.ble i 71) (cond (Nat.beq i 71) (some (.if_icmp .ne 7, 3, (78, 0, 0, 0), 0, 0, [])) none) (cond (Nat.beq i 74) (some (.iconst 1, 1, (0, 0, 0, 0), 1, 0, [])) none)) (cond (Nat.ble i 75) (cond (Nat.beq i 75) (some (.goto 4, 3, (79, 0, 0, 0), 0, 0, [])) none) (cond (Nat.beq i 78) (some (.iconst 0, 1, (0, 0, 0, 0), 0, 0, [])) none)))))) (cond (Nat.ble i 100) (cond (Nat.ble i 90) (cond (Nat.ble i 81) (cond (Nat.ble i 79) (cond (Nat.beq i 79) (some (.ireturn, 1, (1, 0, 0, 0), 0, 0, [])) none) (cond (Nat.ble i 80) (cond (Nat.beq i 80) (some (.iload_n 0, 1, (0, 0, 0, 0), 0, 0, [])) none) (cond (Nat.beq i 81) (some (.bipush 7, 2, (0, 0, 0, 0), 7, 0, [])) none))) (cond (Nat.ble i 86) (cond (Nat.ble i 83) (cond (Nat.beq i 83) (some (.if_icmp .le 7, 3, (90, 0, 0, 0), 0, 0, [])) none) (cond (Nat.beq i 86) (some (.iconst 1, 1, (0, 0, 0, 0), 1, 0, [])) none)) (cond (Nat.ble i 87) (cond (Nat.beq i 87) (some (.goto 4, 3, (91, 0, 0, 0), 0, 0, [])) none) (cond (Nat.beq i 90) (some (.iconst 0, 1, (0, 0, 0, 0), 0, 0, [])) none)))) (cond (Nat.ble i 93) (cond (Nat.ble i 91) (cond (Nat.beq i 91) (some (.ireturn, 1, (1, 0, 0, 0), 0, 0, [])) none) (cond (Nat.ble i 92) (cond (Nat.beq i 92) (some (.iload_n 0, 1, (0, 0, 0, 0), 0, 0, [])) none) (cond (Nat.beq i 93) (some (.bipush 7, 2, (0, 0, 0, 0), 7, 0, [])) none))) (cond (Nat.ble i 98) (cond (Nat.ble i 95) (cond (Nat.beq i 95) (some (.if_icmp .gt 9, 3, (104, 0, 0, 0), 0, 0, [])) none) (cond (Nat.beq i 98) (some (.iload_n 1, 1, (1, 0, 0, 0), 0, 0, [])) none)) (cond (Nat.ble i 99) (cond (Nat.beq i 99) (some (.iload_n 0, 1, (0, 0, 0, 0), 0, 0, [])) none) (cond (Nat.beq i 100) (some (.invokestatic 42, 3, (74, 2, 2, 1), 0, 0, [])) none))))) (cond (Nat.ble i 113) (cond (Nat.ble i 105) (cond (Nat.ble i 103) (cond (Nat.beq i 103) (some (.ireturn, 1, (1, 0, 0, 0), 0, 0, [])) none) (cond (Nat.ble i 104) (cond (Nat.beq i 104) (some (.iload_n 0, 1, (0, 0, 0, 0), 0, 0, [])) none) (cond (Nat.beq i 105) (some (.bipush 12, 2, (0, 0, 0, 0), 12, 0, [])) none))) (cond (Nat.ble i 110) (cond (Nat.ble i 107) (cond (Nat.beq i 107) (some (.if_icmp .eq 14, 3, (121, 0, 0, 0), 0, 0, [])) none) (cond (Nat.beq i 110) (some (.iload_n 0, 1, (0, 0, 0, 0), 0, 0, [])) none)) (cond (Nat.ble i 111) (cond (Nat.beq i 111) (some (.bipush 11, 2, (0, 0, 0, 0), 11, 0, [])) none) (cond (Nat.beq i 113) (some (.if_icmp .ne 12, 3, (125, 0, 0, 0), 0, 0, [])) none)))) (cond (Nat.ble i 118) (cond (Nat.ble i 116) (cond (Nat.beq i 116) (some (.iload_n 1, 1, (1, 0, 0, 0), 0, 0, [])) none) (cond (Nat.ble i 117) (cond (Nat.beq i 117) (some (.iconst 4, 1, (0, 0, 0, 0), 4, 0, [])) none) (cond (Nat.beq i 118) (some (.if_icmp .ne 7, 3, (125, 0, 0, 0), 0, 0, [])) none))) (cond (Nat.ble i 122) (cond (Nat.ble i 121) (cond (Nat.beq i 121) (some (.iconst 1, 1, (0, 0, 0, 0), 1, 0, [])) none) (cond (Nat.beq i 122) (some (.goto 4, 3, (126, 0, 0, 0), 0, 0, [])) none)) (cond (Nat.ble i 125) (cond (Nat.beq i 125) (some (.iconst 0, 1, (0, 0, 0, 0), 0, 0, [])) none) (cond (Nat.beq i 126) (some (.ireturn, 1, (1, 0, 0, 0), 0, 0, [])) none))))))
/-- Tally_add -/
def pd_k30 (i : Nat) : Option pd_O := cond (Nat.ble i 8) (cond (Nat.ble i 4) (cond (Nat.ble i 0) (cond (Nat.beq i 0) (some (.aload_n 0, 1, (0, 0, 0, 0), 0, 0, [])) none) (cond (Nat.ble i 1) (cond (Nat.beq i 1) (some (.getfield 9, 3, (2, 6, 1, 20), 0, 0, [])) none) (cond (Nat.beq i 4) (some (.iload_n 1, 1, (1, 0, 0, 0), 0, 0, [])) none))) (cond (Nat.ble i 5) (cond (Nat.beq i 5) (some (.bipush 6, 2, (0, 0, 0, 0), 6, 0, [])) none) (cond (Nat.ble i 7) (cond (Nat.beq i 7) (some (.imul, 1, (0, 0, 0, 0), 0, 0, [])) none) (cond (Nat.beq i 8) (some (.iload_n 2, 1, (2, 0, 0, 0), 0, 0, [])) none)))) (cond (Nat.ble i 11) (cond (Nat.ble i 9) (cond (Nat.beq i 9) (some (.iadd, 1, (0, 0, 0, 0), 0, 0, [])) none) (cond (Nat.ble i 10) (cond (Nat.beq i 10) (some (.dup2, 1, (0, 0, 0, 0), 0, 0, [])) none) (cond (Nat.beq i 11) (some (.iaload, 1, (0, 0, 0, 0), 0, 0, [])) none))) (cond (Nat.ble i 13) (cond (Nat.ble i 12) (cond (Nat.beq i 12) (some (.iconst 1, 1, (0, 0, 0, 0), 1, 0, [])) none) (cond (Nat.beq i 13) (some (.iadd, 1, (0, 0, 0, 0), 0, 0, [])) none)) (cond (Nat.ble i 14) (cond (Nat.beq i 14) (some (.iastore, 1, (0, 0, 0, 0), 0, 0, [])) none) (cond (Nat.beq i 15) (some (.return_, 1, (0, 0, 0, 0), 0, 0, [])) none))))
/-- Tally_addStep -/
def pd_k31 (i : Nat) : Option pd_O := cond (Nat.ble i 29) (cond (Nat.ble i 13) (cond (Nat.ble i 5) (cond (Nat.ble i 1) (cond (Nat.ble i 0) (cond (Nat.beq i 0) (some (.aload_n 1, 1, (1, 0, 0, 0), 0, 0, [])) none) (cond (Nat.beq i 1) (some (.getfield 15, 3, (0, 2, 13, 0), 0, 0, [])) none)) (cond (Nat.ble i 4) (cond (Nat.beq i 4) (some (.iconst (-1), 1, (0, 0, 0, 0), -1, 0, [])) none) (cond (Nat.beq i 5) (some (.if_icmp .eq 15, 3, (20, 0, 0, 0), 0, 0, [])) none))) (cond (Nat.ble i 9) (cond (Nat.ble i 8) (cond (Nat.beq i 8) (some (.aload_n 0, 1, (0, 0, 0, 0), 0, 0, [])) none) (cond (Nat.beq i 9) (some (.aload_n 1, 1, (1, 0, 0, 0), 0, 0, [])) none)) (cond (Nat.ble i 10) (cond (Nat.beq i 10) (some (.getfield 15, 3, (0, 2, 13, 0), 0, 0, [])) none) (cond (Nat.beq i 13) (some (.aload_n 1, 1, (1, 0, 0, 0), 0, 0, [])) none)))) (cond (Nat.ble i 21) (cond (Nat.ble i 17) (cond (Nat.ble i 14) (cond (Nat.beq i 14) (some (.getfield 21, 3, (0, 2, 14, 0), 0, 0, [])) none) (cond (Nat.beq i 17) (some (.invokevirtual 24, 3, (30, 3, 3, 1536), 0, 0, [])) none)) (cond (Nat.ble i 20) (cond (Nat.beq i 20) (some (.aload_n 1, 1, (1, 0, 0, 0), 0, 0, [])) none) (cond (Nat.beq i 21) (some (.getfield 28, 3, (0, 2, 15, 0), 0, 0, [])) none))) (cond (Nat.ble i 25) (cond (Nat.ble i 24) (cond (Nat.beq i 24) (some (.iconst (-1), 1, (0, 0, 0, 0), -1, 0, [])) none) (cond (Nat.beq i 25) (some (.if_icmp .eq 41, 3, (66, 0, 0, 0), 0, 0, [])) none)) (cond (Nat.ble i 28) (cond (Nat.beq i 28) (some (.aload_n 1, 1, (1, 0, 0, 0), 0, 0, [])) none) (cond (Nat.beq i 29) (some (.getfield 28, 3, (0, 2, 15, 0), 0, 0, [])) none))))) (cond (Nat.ble i 47) (cond (Nat.ble i 38) (cond (Nat.ble i 34) (cond (Nat.ble i 32) (cond (Nat.beq i 32) (some (.bipush 20, 2, (0, 0, 0, 0), 20, 0, [])) none) (cond (Nat.beq i 34) (some (.if_icmp .ge 32, 3, (66, 0, 0, 0), 0, 0, [])) none)) (cond (Nat.ble i 37) (cond (Nat.beq i 37) (some (.aload_n 0, 1, (0, 0, 0, 0), 0, 0, [])) none) (cond (Nat.beq i 38) (some (.aload_n 1, 1, (1, 0, 0, 0), 0, 0, [])) none))) (cond (Nat.ble i 42) (cond (Nat.ble i 39) (cond (Nat.beq i 39) (some (.getfield 28, 3, (0, 2, 15, 0), 0, 0, [])) none) (cond (Nat.beq i 42) (some (.bipush 8, 2, (0, 0, 0, 0), 8, 0, [])) none)) (cond (Nat.ble i 44) (cond (Nat.beq i 44) (some (.if_icmp .ge 13, 3, (57, 0, 0, 0), 0, 0, [])) none) (cond (Nat.beq i 47) (some (.bipush 9, 2, (0, 0, 0, 0), 9, 0, [])) none)))) (cond (Nat.ble i 54) (cond (Nat.ble i 50) (cond (Nat.ble i 49) (cond (Nat.beq i 49) (some (.aload_n 1, 1, (1, 0, 0, 0), 0, 0, [])) none) (cond (Nat.beq i 50) (some (.getfield 28, 3, (0, 2, 15, 0), 0, 0, [])) none)) (cond (Nat.ble i 53) (cond (Nat.beq i 53) (some (.iadd, 1, (0, 0, 0, 0), 0, 0, [])) none) (cond (Nat.beq i 54) (some (.goto 5, 3, (59, 0, 0, 0), 0, 0, [])) none))) (cond (Nat.ble i 59) (cond (Nat.ble i 57) (cond (Nat.beq i 57) (some (.bipush 17, 2, (0, 0, 0, 0), 17, 0, [])) none) (cond (Nat.beq i 59) (some (.aload_n 1, 1, (1, 0, 0, 0), 0, 0, [])) none)) (cond (Nat.ble i 60) (cond (Nat.beq i 60) (some (.getfield 31, 3, (0, 2, 16, 0), 0, 0, [])) none) (cond (Nat.ble i 63) (cond (Nat.beq i 63) (some (.invokevirtual 24, 3, (30, 3, 3, 1536), 0, 0, [])) none) (cond (Nat.beq i 66) (some (.return_, 1, (0, 0, 0, 0), 0, 0, [])) none))))))
/-- Values_put -/
def pd_k32 (i : Nat) : Option pd_O := cond (Nat.ble i 6) (cond (Nat.ble i 1) (cond (Nat.ble i 0) (cond (Nat.beq i 0) (some (.aload_n 0, 1, (0, 0, 0, 0), 0, 0, [])) none) (cond (Nat.beq i 1) (some (.getfield 7, 3, (2, 8, 1, 20), 0, 0, [])) none)) (cond (Nat.ble i 4) (cond (Nat.beq i 4) (some (.iload_n 1, 1, (1, 0, 0, 0), 0, 0, [])) none) (cond (Nat.ble i 5) (cond (Nat.beq i 5) (some (.iload_n 2, 1, (2, 0, 0, 0), 0, 0, [])) none) (cond (Nat.beq i 6) (some (.iastore, 1, (0, 0, 0, 0), 0, 0, [])) none)))) (cond (Nat.ble i 11) (cond (Nat.ble i 7) (cond (Nat.beq i 7) (some (.aload_n 0, 1, (0, 0, 0, 0), 0, 0, [])) none) (cond (Nat.ble i 8) (cond (Nat.beq i 8) (some (.getfield 13, 3, (2, 8, 2, 21), 0, 0, [])) none) (cond (Nat.beq i 11) (some (.iload_n 1, 1, (1, 0, 0, 0), 0, 0, [])) none))) (cond (Nat.ble i 12) (cond (Nat.beq i 12) (some (.lload_n 3, 1, (3, 0, 0, 0), 0, 0, [])) none) (cond (Nat.ble i 13) (cond (Nat.beq i 13) (some (.lastore, 1, (0, 0, 0, 0), 0, 0, [])) none) (cond (Nat.beq i 14) (some (.return_, 1, (0, 0, 0, 0), 0, 0, [])) none))))
/-- Values_isAt -/
def pd_k33 (i : Nat) : Option pd_O := cond (Nat.ble i 11) (cond (Nat.ble i 5) (cond (Nat.ble i 1) (cond (Nat.ble i 0) (cond (Nat.beq i 0) (some (.aload_n 0, 1, (0, 0, 0, 0), 0, 0, [])) none) (cond (Nat.beq i 1) (some (.getfield 7, 3, (2, 8, 1, 20), 0, 0, [])) none)) (cond (Nat.ble i 4) (cond (Nat.beq i 4) (some (.iload_n 1, 1, (1, 0, 0, 0), 0, 0, [])) none) (cond (Nat.beq i 5) (some (.iaload, 1, (0, 0, 0, 0), 0, 0, [])) none))) (cond (Nat.ble i 7) (cond (Nat.ble i 6) (cond (Nat.beq i 6) (some (.iload_n 2, 1, (2, 0, 0, 0), 0, 0, [])) none) (cond (Nat.beq i 7) (some (.if_icmp .ne 18, 3, (25, 0, 0, 0), 0, 0, [])) none)) (cond (Nat.ble i 10) (cond (Nat.beq i 10) (some (.aload_n 0, 1, (0, 0, 0, 0), 0, 0, [])) none) (cond (Nat.beq i 11) (some (.getfield 13, 3, (2, 8, 2, 21), 0, 0, [])) none)))) (cond (Nat.ble i 17) (cond (Nat.ble i 15) (cond (Nat.ble i 14) (cond (Nat.beq i 14) (some (.iload_n 1, 1, (1, 0, 0, 0), 0, 0, [])) none) (cond (Nat.beq i 15) (some (.laload, 1, (0, 0, 0, 0), 0, 0, [])) none)) (cond (Nat.ble i 16) (cond (Nat.beq i 16) (some (.lload_n 3, 1, (3, 0, 0, 0), 0, 0, [])) none) (cond (Nat.beq i 17) (some (.lcmp, 1, (0, 0, 0, 0), 0, 0, [])) none))) (cond (Nat.ble i 21) (cond (Nat.ble i 18) (cond (Nat.beq i 18) (some (.ifCond .ne 7, 3, (25, 0, 0, 0), 0, 0, [])) none) (cond (Nat.beq i 21) (some (.iconst 1, 1, (0, 0, 0, 0), 1, 0, [])) none)) (cond (Nat.ble i 22) (cond (Nat.beq i 22) (some (.goto 4, 3, (26, 0, 0, 0), 0, 0, [])) none) (cond (Nat.ble i 25) (cond (Nat.beq i 25) (some (.iconst 0, 1, (0, 0, 0, 0), 0, 0, [])) none) (cond (Nat.beq i 26) (some (.ireturn, 1, (1, 0, 0, 0), 0, 0, [])) none)))))
/-- Values_equalAt -/
def pd_k34 (i : Nat) : Option pd_O := cond (Nat.ble i 7) (cond (Nat.ble i 2) (cond (Nat.ble i 0) (cond (Nat.beq i 0) (some (.aload_n 0, 1, (0, 0, 0, 0), 0, 0, [])) none) (cond (Nat.ble i 1) (cond (Nat.beq i 1) (some (.iload_n 1, 1, (1, 0, 0, 0), 0, 0, [])) none) (cond (Nat.beq i 2) (some (.aload_n 2, 1, (2, 0, 0, 0), 0, 0, [])) none))) (cond (Nat.ble i 3) (cond (Nat.beq i 3) (some (.getfield 7, 3, (2, 8, 1, 20), 0, 0, [])) none) (cond (Nat.ble i 6) (cond (Nat.beq i 6) (some (.iload_n 1, 1, (1, 0, 0, 0), 0, 0, [])) none) (cond (Nat.beq i 7) (some (.iaload, 1, (0, 0, 0, 0), 0, 0, [])) none)))) (cond (Nat.ble i 12) (cond (Nat.ble i 8) (cond (Nat.beq i 8) (some (.aload_n 2, 1, (2, 0, 0, 0), 0, 0, [])) none) (cond (Nat.ble i 9) (cond (Nat.beq i 9) (some (.getfield 13, 3, (2, 8, 2, 21), 0, 0, [])) none) (cond (Nat.beq i 12) (some (.iload_n 1, 1, (1, 0, 0, 0), 0, 0, [])) none))) (cond (Nat.ble i 13) (cond (Nat.beq i 13) (some (.laload, 1, (0, 0, 0, 0), 0, 0, [])) none) (cond (Nat.ble i 14) (cond (Nat.beq i 14) (some (.invokevirtual 17, 3, (33, 4, 5, 2049), 0, 0, [])) none) (cond (Nat.beq i 17) (some (.ireturn, 1, (1, 0, 0, 0), 0, 0, [])) none))))
/-- Values_becomeLike -/
def pd_k35 (i : Nat) : Option pd_O := cond (Nat.ble i 18) (cond (Nat.ble i 9) (cond (Nat.ble i 4) (cond (Nat.ble i 0) (cond (Nat.beq i 0) (some (.aload_n 0, 1, (0, 0, 0, 0), 0, 0, [])) none) (cond (Nat.ble i 1) (cond (Nat.beq i 1) (some (.getfield 7, 3, (2, 8, 1, 20), 0, 0, [])) none) (cond (Nat.beq i 4) (some (.arraylength, 1, (0, 0, 0, 0), 0, 0, [])) none))) (cond (Nat.ble i 5) (cond (Nat.beq i 5) (some (.aload_n 1, 1, (1, 0, 0, 0), 0, 0, [])) none) (cond (Nat.ble i 6) (cond (Nat.beq i 6) (some (.getfield 7, 3, (2, 8, 1, 20), 0, 0, [])) none) (cond (Nat.beq i 9) (some (.arraylength, 1, (0, 0, 0, 0), 0, 0, [])) none)))) (cond (Nat.ble i 14) (cond (Nat.ble i 10) (cond (Nat.beq i 10) (some (.invokestatic 21, 3, (79, 2, 2, 1), 0, 0, [])) none) (cond (Nat.ble i 13) (cond (Nat.beq i 13) (some (.istore_n 2, 1, (2, 0, 0, 0), 0, 0, [])) none) (cond (Nat.beq i 14) (some (.iconst 0, 1, (0, 0, 0, 0), 0, 0, [])) none))) (cond (Nat.ble i 16) (cond (Nat.ble i 15) (cond (Nat.beq i 15) (some (.istore_n 3, 1, (3, 0, 0, 0), 0, 0, [])) none) (cond (Nat.beq i 16) (some (.iload_n 3, 1, (3, 0, 0, 0), 0, 0, [])) none)) (cond (Nat.ble i 17) (cond (Nat.beq i 17) (some (.iload_n 2, 1, (2, 0, 0, 0), 0, 0, [])) none) (cond (Nat.beq i 18) (some (.if_icmp .ge 26, 3, (44, 0, 0, 0), 0, 0, [])) none))))) (cond (Nat.ble i 29) (cond (Nat.ble i 23) (cond (Nat.ble i 21) (cond (Nat.beq i 21) (some (.aload_n 0, 1, (0, 0, 0, 0), 0, 0, [])) none) (cond (Nat.ble i 22) (cond (Nat.beq i 22) (some (.iload_n 3, 1, (3, 0, 0, 0), 0, 0, [])) none) (cond (Nat.beq i 23) (some (.aload_n 1, 1, (1, 0, 0, 0), 0, 0, [])) none))) (cond (Nat.ble i 27) (cond (Nat.ble i 24) (cond (Nat.beq i 24) (some (.getfield 7, 3, (2, 8, 1, 20), 0, 0, [])) none) (cond (Nat.beq i 27) (some (.iload_n 3, 1, (3, 0, 0, 0), 0, 0, [])) none)) (cond (Nat.ble i 28) (cond (Nat.beq i 28) (some (.iaload, 1, (0, 0, 0, 0), 0, 0, [])) none) (cond (Nat.beq i 29) (some (.aload_n 1, 1, (1, 0, 0, 0), 0, 0, [])) none)))) (cond (Nat.ble i 34) (cond (Nat.ble i 30) (cond (Nat.beq i 30) (some (.getfield 13, 3, (2, 8, 2, 21), 0, 0, [])) none) (cond (Nat.ble i 33) (cond (Nat.beq i 33) (some (.iload_n 3, 1, (3, 0, 0, 0), 0, 0, [])) none) (cond (Nat.beq i 34) (some (.laload, 1, (0, 0, 0, 0), 0, 0, [])) none))) (cond (Nat.ble i 38) (cond (Nat.ble i 35) (cond (Nat.beq i 35) (some (.invokevirtual 27, 3, (32, 4, 5, 2048), 0, 0, [])) none) (cond (Nat.beq i 38) (some (.iinc 3 1, 3, (3, 0, 0, 0), 1, 0, [])) none)) (cond (Nat.ble i 41) (cond (Nat.beq i 41) (some (.goto (-25), 3, (16, 0, 0, 0), 0, 0, [])) none) (cond (Nat.beq i 44) (some (.return_, 1, (0, 0, 0, 0), 0, 0, [])) none)))))
/-- X_row -/
def pd_k36 (i : Nat) : Option pd_O := cond (Nat.ble i 52) (cond (Nat.ble i 26) (cond (Nat.ble i 12) (cond (Nat.ble i 4) (cond (Nat.ble i 0) (cond (Nat.beq i 0) (some (.iload_n 1, 1, (1, 0, 0, 0), 0, 0, [])) none) (cond (Nat.ble i 1) (cond (Nat.beq i 1) (some (.invokestatic 83, 3, (60, 1, 1, 1), 0, 0, [])) none) (cond (Nat.beq i 4) (some (.ifCond .eq 13, 3, (17, 0, 0, 0), 0, 0, [])) none))) (cond (Nat.ble i 8) (cond (Nat.ble i 7) (cond (Nat.beq i 7) (some (.iload_n 2, 1, (2, 0, 0, 0), 0, 0, [])) none) (cond (Nat.beq i 8) (some (.ifCond .lt 9, 3, (17, 0, 0, 0), 0, 0, [])) none)) (cond (Nat.ble i 11) (cond (Nat.beq i 11) (some (.iload_n 2, 1, (2, 0, 0, 0), 0, 0, [])) none) (cond (Nat.beq i 12) (some (.bipush 14, 2, (0, 0, 0, 0), 14, 0, [])) none)))) (cond (Nat.ble i 19) (cond (Nat.ble i 14) (cond (Nat.beq i 14) (some (.if_icmp .le 6, 3, (20, 0, 0, 0), 0, 0, [])) none) (cond (Nat.ble i 17) (cond (Nat.beq i 17) (some (.bipush (-2), 2, (0, 0, 0, 0), -2, 0, [])) none) (cond (Nat.beq i 19) (some (.ireturn, 1, (0, 0, 0, 0), 0, 0, [])) none))) (cond (Nat.ble i 21) (cond (Nat.ble i 20) (cond (Nat.beq i 20) (some (.iload_n 2, 1, (2, 0, 0, 0), 0, 0, [])) none) (cond (Nat.beq i 21) (some (.bipush 12, 2, (0, 0, 0, 0), 12, 0, [])) none)) (cond (Nat.ble i 23) (cond (Nat.beq i 23) (some (.if_icmp .gt 7, 3, (30, 0, 0, 0), 0, 0, [])) none) (cond (Nat.beq i 26) (some (.iconst 1, 1, (0, 0, 0, 0), 1, 0, [])) none))))) (cond (Nat.ble i 39) (cond (Nat.ble i 31) (cond (Nat.ble i 27) (cond (Nat.beq i 27) (some (.goto 4, 3, (31, 0, 0, 0), 0, 0, [])) none) (cond (Nat.ble i 30) (cond (Nat.beq i 30) (some (.iconst 0, 1, (0, 0, 0, 0), 0, 0, [])) none) (cond (Nat.beq i 31) (some (.istore 4, 2, (4, 0, 0, 0), 0, 0, [])) none))) (cond (Nat.ble i 35) (cond (Nat.ble i 33) (cond (Nat.beq i 33) (some (.iload 4, 2, (4, 0, 0, 0), 0, 0, [])) none) (cond (Nat.beq i 35) (some (.ifCond .eq 12, 3, (47, 0, 0, 0), 0, 0, [])) none)) (cond (Nat.ble i 38) (cond (Nat.beq i 38) (some (.iload_n 3, 1, (3, 0, 0, 0), 0, 0, [])) none) (cond (Nat.beq i 39) (some (.bipush 12, 2, (0, 0, 0, 0), 12, 0, [])) none)))) (cond (Nat.ble i 46) (cond (Nat.ble i 41) (cond (Nat.beq i 41) (some (.if_icmp .le 6, 3, (47, 0, 0, 0), 0, 0, [])) none) (cond (Nat.ble i 44) (cond (Nat.beq i 44) (some (.bipush (-2), 2, (0, 0, 0, 0), -2, 0, [])) none) (cond (Nat.beq i 46) (some (.ireturn, 1, (0, 0, 0, 0), 0, 0, [])) none))) (cond (Nat.ble i 48) (cond (Nat.ble i 47) (cond (Nat.beq i 47) (some (.aload_n 0, 1, (0, 0, 0, 0), 0, 0, [])) none) (cond (Nat.beq i 48) (some (.iload_n 1, 1, (1, 0, 0, 0), 0, 0, [])) none)) (cond (Nat.ble i 49) (cond (Nat.beq i 49) (some (.invokevirtual 87, 3, (63, 2, 3, 2305), 0, 0, [])) none) (cond (Nat.beq i 52) (some (.ifCond .eq 6, 3, (58, 0, 0, 0), 0, 0, [])) none)))))) (cond (Nat.ble i 79) (cond (Nat.ble i 67) (cond (Nat.ble i 58) (cond (Nat.ble i 55) (cond (Nat.beq i 55) (some (.bipush (-3), 2, (0, 0, 0, 0), -3, 0, [])) none) (cond (Nat.ble i 57) (cond (Nat.beq i 57) (some (.ireturn, 1, (0, 0, 0, 0), 0, 0, [])) none) (cond (Nat.beq i 58) (some (.iload 4, 2, (4, 0, 0, 0), 0, 0, [])) none))) (cond (Nat.ble i 63) (cond (Nat.ble i 60) (cond (Nat.beq i 60) (some (.ifCond .eq 13, 3, (73, 0, 0, 0), 0, 0, [])) none) (cond (Nat.beq i 63) (some (.iload_n 3, 1, (3, 0, 0, 0), 0, 0, [])) none)) (cond (Nat.ble i 64) (cond (Nat.beq i 64) (some (.ifCond .ge 9, 3, (73, 0, 0, 0), 0, 0, [])) none) (cond (Nat.beq i 67) (some (.bipush 7, 2, (0, 0, 0, 0), 7, 0, [])) none)))) (cond (Nat.ble i 73) (cond (Nat.ble i 69) (cond (Nat.beq i 69) (some (.invokestatic 90, 3, (55, 1, 1, 1), 0, 0, [])) none) (cond (Nat.ble i 72) (cond (Nat.beq i 72) (some (.ireturn, 1, (0, 0, 0, 0), 0, 0, [])) none) (cond (Nat.beq i 73) (some (.aload_n 0, 1, (0, 0, 0, 0), 0, 0, [])) none))) (cond (Nat.ble i 77) (cond (Nat.ble i 74) (cond (Nat.beq i 74) (some (.getfield 12, 3, (2, 9, 1, 5), 0, 0, [])) none) (cond (Nat.beq i 77) (some (.iload_n 1, 1, (1, 0, 0, 0), 0, 0, [])) none)) (cond (Nat.ble i 78) (cond (Nat.beq i 78) (some (.iload_n 2, 1, (2, 0, 0, 0), 0, 0, [])) none) (cond (Nat.beq i 79) (some (.iload 4, 2, (4, 0, 0, 0), 0, 0, [])) none))))) (cond (Nat.ble i 93) (cond (Nat.ble i 85) (cond (Nat.ble i 81) (cond (Nat.beq i 81) (some (.ifCond .eq 7, 3, (88, 0, 0, 0), 0, 0, [])) none) (cond (Nat.ble i 84) (cond (Nat.beq i 84) (some (.iload_n 3, 1, (3, 0, 0, 0), 0, 0, [])) none) (cond (Nat.beq i 85) (some (.goto 4, 3, (89, 0, 0, 0), 0, 0, [])) none))) (cond (Nat.ble i 89) (cond (Nat.ble i 88) (cond (Nat.beq i 88) (some (.iconst 0, 1, (0, 0, 0, 0), 0, 0, [])) none) (cond (Nat.beq i 89) (some (.invokevirtual 94, 3, (23, 4, 6, 1280), 0, 0, [])) none)) (cond (Nat.ble i 92) (cond (Nat.beq i 92) (some (.aload_n 0, 1, (0, 0, 0, 0), 0, 0, [])) none) (cond (Nat.beq i 93) (some (.getfield 64, 3, (4, 9, 0, 2), 0, 0, [])) none)))) (cond (Nat.ble i 101) (cond (Nat.ble i 96) (cond (Nat.beq i 96) (some (.invokevirtual 98, 3, (8, 1, 4, 512), 0, 0, [])) none) (cond (Nat.ble i 99) (cond (Nat.beq i 99) (some (.iload 4, 2, (4, 0, 0, 0), 0, 0, [])) none) (cond (Nat.beq i 101) (some (.ifCond .eq 7, 3, (108, 0, 0, 0), 0, 0, [])) none))) (cond (Nat.ble i 105) (cond (Nat.ble i 104) (cond (Nat.beq i 104) (some (.iload_n 3, 1, (3, 0, 0, 0), 0, 0, [])) none) (cond (Nat.beq i 105) (some (.goto 4, 3, (109, 0, 0, 0), 0, 0, [])) none)) (cond (Nat.ble i 108) (cond (Nat.beq i 108) (some (.iconst 0, 1, (0, 0, 0, 0), 0, 0, [])) none) (cond (Nat.beq i 109) (some (.ireturn, 1, (0, 0, 0, 0), 0, 0, [])) none))))))
/-- X_get -/
def pd_k37 (i : Nat) : Option pd_O := cond (Nat.ble i 24) (cond (Nat.ble i 11) (cond (Nat.ble i 4) (cond (Nat.ble i 0) (cond (Nat.beq i 0) (some (.iload_n 1, 1, (1, 0, 0, 0), 0, 0, [])) none) (cond (Nat.ble i 1) (cond (Nat.beq i 1) (some (.invokestatic 83, 3, (60, 1, 1, 1), 0, 0, [])) none) (cond (Nat.beq i 4) (some (.ifCond .eq 13, 3, (17, 0, 0, 0), 0, 0, [])) none))) (cond (Nat.ble i 7) (cond (Nat.beq i 7) (some (.iload_n 2, 1, (2, 0, 0, 0), 0, 0, [])) none) (cond (Nat.ble i 8) (cond (Nat.beq i 8) (some (.ifCond .lt 9, 3, (17, 0, 0, 0), 0, 0, [])) none) (cond (Nat.beq i 11) (some (.iload_n 2, 1, (2, 0, 0, 0), 0, 0, [])) none)))) (cond (Nat.ble i 17) (cond (Nat.ble i 12) (cond (Nat.beq i 12) (some (.bipush 8, 2, (0, 0, 0, 0), 8, 0, [])) none) (cond (Nat.ble i 14) (cond (Nat.beq i 14) (some (.if_icmp .le 9, 3, (23, 0, 0, 0), 0, 0, [])) none) (cond (Nat.beq i 17) (some (.bipush (-2), 2, (0, 0, 0, 0), -2, 0, [])) none))) (cond (Nat.ble i 22) (cond (Nat.ble i 19) (cond (Nat.beq i 19) (some (.invokestatic 111, 3, (56, 1, 1, 2), 0, 0, [])) none) (cond (Nat.beq i 22) (some (.lreturn, 1, (0, 0, 0, 0), 0, 0, [])) none)) (cond (Nat.ble i 23) (cond (Nat.beq i 23) (some (.aload_n 0, 1, (0, 0, 0, 0), 0, 0, [])) none) (cond (Nat.beq i 24) (some (.getfield 40, 3, (2, 9, 15, 6), 0, 0, [])) none))))) (cond (Nat.ble i 35) (cond (Nat.ble i 29) (cond (Nat.ble i 27) (cond (Nat.beq i 27) (some (.iload_n 2, 1, (2, 0, 0, 0), 0, 0, [])) none) (cond (Nat.ble i 28) (cond (Nat.beq i 28) (some (.aload_n 0, 1, (0, 0, 0, 0), 0, 0, [])) none) (cond (Nat.beq i 29) (some (.getfield 12, 3, (2, 9, 1, 5), 0, 0, [])) none))) (cond (Nat.ble i 33) (cond (Nat.ble i 32) (cond (Nat.beq i 32) (some (.iload_n 1, 1, (1, 0, 0, 0), 0, 0, [])) none) (cond (Nat.beq i 33) (some (.iload_n 2, 1, (2, 0, 0, 0), 0, 0, [])) none)) (cond (Nat.ble i 34) (cond (Nat.beq i 34) (some (.iload_n 3, 1, (3, 0, 0, 0), 0, 0, [])) none) (cond (Nat.beq i 35) (some (.invokevirtual 115, 3, (27, 4, 5, 1281), 0, 0, [])) none)))) (cond (Nat.ble i 42) (cond (Nat.ble i 38) (cond (Nat.beq i 38) (some (.invokevirtual 119, 3, (30, 3, 3, 1536), 0, 0, [])) none) (cond (Nat.ble i 41) (cond (Nat.beq i 41) (some (.aload_n 0, 1, (0, 0, 0, 0), 0, 0, [])) none) (cond (Nat.beq i 42) (some (.iload_n 1, 1, (1, 0, 0, 0), 0, 0, [])) none))) (cond (Nat.ble i 44) (cond (Nat.ble i 43) (cond (Nat.beq i 43) (some (.iload_n 2, 1, (2, 0, 0, 0), 0, 0, [])) none) (cond (Nat.beq i 44) (some (.iload_n 3, 1, (3, 0, 0, 0), 0, 0, [])) none)) (cond (Nat.ble i 45) (cond (Nat.beq i 45) (some (.invokevirtual 123, 3, (70, 4, 6, 2306), 0, 0, [])) none) (cond (Nat.beq i 48) (some (.lreturn, 1, (0, 0, 0, 0), 0, 0, [])) none)))))
/-- X_what -/
def pd_k38 (i : Nat) : Option pd_O := cond (Nat.ble i 12) (cond (Nat.ble i 3) (cond (Nat.ble i 1) (cond (Nat.ble i 0) (cond (Nat.beq i 0) (some (.aload_n 0, 1, (0, 0, 0, 0), 0, 0, [])) none) (cond (Nat.beq i 1) (some (.iload_n 1, 1, (1, 0, 0, 0), 0, 0, [])) none)) (cond (Nat.ble i 2) (cond (Nat.beq i 2) (some (.iload_n 2, 1, (2, 0, 0, 0), 0, 0, [])) none) (cond (Nat.beq i 3) (some (.invokevirtual 127, 3, (57, 3, 4, 2305), 0, 0, [])) none))) (cond (Nat.ble i 7) (cond (Nat.ble i 6) (cond (Nat.beq i 6) (some (.istore_n 3, 1, (3, 0, 0, 0), 0, 0, [])) none) (cond (Nat.beq i 7) (some (.iload_n 3, 1, (3, 0, 0, 0), 0, 0, [])) none)) (cond (Nat.ble i 8) (cond (Nat.beq i 8) (some (.ifCond .eq 7, 3, (15, 0, 0, 0), 0, 0, [])) none) (cond (Nat.ble i 11) (cond (Nat.beq i 11) (some (.iload_n 3, 1, (3, 0, 0, 0), 0, 0, [])) none) (cond (Nat.beq i 12) (some (.goto 19, 3, (31, 0, 0, 0), 0, 0, [])) none))))) (cond (Nat.ble i 22) (cond (Nat.ble i 16) (cond (Nat.ble i 15) (cond (Nat.beq i 15) (some (.aload_n 0, 1, (0, 0, 0, 0), 0, 0, [])) none) (cond (Nat.beq i 16) (some (.getfield 64, 3, (4, 9, 0, 2), 0, 0, [])) none)) (cond (Nat.ble i 19) (cond (Nat.beq i 19) (some (.getfield 131, 3, (2, 2, 3, 8), 0, 0, [])) none) (cond (Nat.beq i 22) (some (.getfield 135, 3, (2, 8, 1, 20), 0, 0, [])) none))) (cond (Nat.ble i 26) (cond (Nat.ble i 25) (cond (Nat.beq i 25) (some (.iload_n 1, 1, (1, 0, 0, 0), 0, 0, [])) none) (cond (Nat.beq i 26) (some (.iload_n 2, 1, (2, 0, 0, 0), 0, 0, [])) none)) (cond (Nat.ble i 27) (cond (Nat.beq i 27) (some (.invokestatic 140, 3, (68, 2, 2, 1), 0, 0, [])) none) (cond (Nat.ble i 30) (cond (Nat.beq i 30) (some (.iaload, 1, (0, 0, 0, 0), 0, 0, [])) none) (cond (Nat.beq i 31) (some (.ireturn, 1, (0, 0, 0, 0), 0, 0, [])) none)))))
/-- X_change -/
def pd_k39 (i : Nat) : Option pd_O := cond (Nat.ble i 42) (cond (Nat.ble i 20) (cond (Nat.ble i 8) (cond (Nat.ble i 1) (cond (Nat.ble i 0) (cond (Nat.beq i 0) (some (.iload_n 1, 1, (1, 0, 0, 0), 0, 0, [])) none) (cond (Nat.beq i 1) (some (.invokestatic 83, 3, (60, 1, 1, 1), 0, 0, [])) none)) (cond (Nat.ble i 4) (cond (Nat.beq i 4) (some (.ifCond .eq 13, 3, (17, 0, 0, 0), 0, 0, [])) none) (cond (Nat.ble i 7) (cond (Nat.beq i 7) (some (.iload_n 2, 1, (2, 0, 0, 0), 0, 0, [])) none) (cond (Nat.beq i 8) (some (.ifCond .lt 9, 3, (17, 0, 0, 0), 0, 0, [])) none)))) (cond (Nat.ble i 14) (cond (Nat.ble i 11) (cond (Nat.beq i 11) (some (.iload_n 2, 1, (2, 0, 0, 0), 0, 0, [])) none) (cond (Nat.ble i 12) (cond (Nat.beq i 12) (some (.bipush 21, 2, (0, 0, 0, 0), 21, 0, [])) none) (cond (Nat.beq i 14) (some (.if_icmp .le 6, 3, (20, 0, 0, 0), 0, 0, [])) none))) (cond (Nat.ble i 17) (cond (Nat.beq i 17) (some (.bipush (-2), 2, (0, 0, 0, 0), -2, 0, [])) none) (cond (Nat.ble i 19) (cond (Nat.beq i 19) (some (.ireturn, 1, (0, 0, 0, 0), 0, 0, [])) none) (cond (Nat.beq i 20) (some (.aload_n 0, 1, (0, 0, 0, 0), 0, 0, [])) none))))) (cond (Nat.ble i 30) (cond (Nat.ble i 24) (cond (Nat.ble i 21) (cond (Nat.beq i 21) (some (.getfield 19, 3, (2, 9, 7, 0), 0, 0, [])) none) (cond (Nat.beq i 24) (some (.getfield 161, 3, (2, 0, 2, 20), 0, 0, [])) none)) (cond (Nat.ble i 27) (cond (Nat.beq i 27) (some (.bipush 24, 2, (0, 0, 0, 0), 24, 0, [])) none) (cond (Nat.ble i 29) (cond (Nat.beq i 29) (some (.iaload, 1, (0, 0, 0, 0), 0, 0, [])) none) (cond (Nat.beq i 30) (some (.bipush 6, 2, (0, 0, 0, 0), 6, 0, [])) none)))) (cond (Nat.ble i 37) (cond (Nat.ble i 32) (cond (Nat.beq i 32) (some (.if_icmp .lt 6, 3, (38, 0, 0, 0), 0, 0, [])) none) (cond (Nat.ble i 35) (cond (Nat.beq i 35) (some (.bipush (-4), 2, (0, 0, 0, 0), -4, 0, [])) none) (cond (Nat.beq i 37) (some (.ireturn, 1, (0, 0, 0, 0), 0, 0, [])) none))) (cond (Nat.ble i 38) (cond (Nat.beq i 38) (some (.aload_n 0, 1, (0, 0, 0, 0), 0, 0, [])) none) (cond (Nat.ble i 39) (cond (Nat.beq i 39) (some (.getfield 19, 3, (2, 9, 7, 0), 0, 0, [])) none) (cond (Nat.beq i 42) (some (.invokevirtual 164, 3, (0, 1, 1, 11), 0, 0, [])) none)))))) (cond (Nat.ble i 62) (cond (Nat.ble i 49) (cond (Nat.ble i 46) (cond (Nat.ble i 45) (cond (Nat.beq i 45) (some (.iconst (-1), 1, (0, 0, 0, 0), -1, 0, [])) none) (cond (Nat.beq i 46) (some (.iconst 0, 1, (0, 0, 0, 0), 0, 0, [])) none)) (cond (Nat.ble i 47) (cond (Nat.beq i 47) (some (.iload_n 2, 1, (2, 0, 0, 0), 0, 0, [])) none) (cond (Nat.ble i 48) (cond (Nat.beq i 48) (some (.iload_n 1, 1, (1, 0, 0, 0), 0, 0, [])) none) (cond (Nat.beq i 49) (some (.iload_n 3, 1, (3, 0, 0, 0), 0, 0, [])) none)))) (cond (Nat.ble i 55) (cond (Nat.ble i 50) (cond (Nat.beq i 50) (some (.iload 4, 2, (4, 0, 0, 0), 0, 0, [])) none) (cond (Nat.ble i 52) (cond (Nat.beq i 52) (some (.invokevirtual 168, 3, (4, 7, 7, 256), 0, 0, [])) none) (cond (Nat.beq i 55) (some (.aload_n 0, 1, (0, 0, 0, 0), 0, 0, [])) none))) (cond (Nat.ble i 56) (cond (Nat.beq i 56) (some (.getfield 19, 3, (2, 9, 7, 0), 0, 0, [])) none) (cond (Nat.ble i 59) (cond (Nat.beq i 59) (some (.getfield 161, 3, (2, 0, 2, 20), 0, 0, [])) none) (cond (Nat.beq i 62) (some (.bipush 24, 2, (0, 0, 0, 0), 24, 0, [])) none))))) (cond (Nat.ble i 68) (cond (Nat.ble i 65) (cond (Nat.ble i 64) (cond (Nat.beq i 64) (some (.dup2, 1, (0, 0, 0, 0), 0, 0, [])) none) (cond (Nat.beq i 65) (some (.iaload, 1, (0, 0, 0, 0), 0, 0, [])) none)) (cond (Nat.ble i 66) (cond (Nat.beq i 66) (some (.iconst 1, 1, (0, 0, 0, 0), 1, 0, [])) none) (cond (Nat.ble i 67) (cond (Nat.beq i 67) (some (.iadd, 1, (0, 0, 0, 0), 0, 0, [])) none) (cond (Nat.beq i 68) (some (.iastore, 1, (0, 0, 0, 0), 0, 0, [])) none)))) (cond (Nat.ble i 73) (cond (Nat.ble i 69) (cond (Nat.beq i 69) (some (.aload_n 0, 1, (0, 0, 0, 0), 0, 0, [])) none) (cond (Nat.ble i 70) (cond (Nat.beq i 70) (some (.getfield 19, 3, (2, 9, 7, 0), 0, 0, [])) none) (cond (Nat.beq i 73) (some (.getfield 161, 3, (2, 0, 2, 20), 0, 0, [])) none))) (cond (Nat.ble i 76) (cond (Nat.beq i 76) (some (.bipush 24, 2, (0, 0, 0, 0), 24, 0, [])) none) (cond (Nat.ble i 78) (cond (Nat.beq i 78) (some (.iaload, 1, (0, 0, 0, 0), 0, 0, [])) none) (cond (Nat.beq i 79) (some (.ireturn, 1, (0, 0, 0, 0), 0, 0, [])) none))))))
/-- X_move -/
def pd_k40 (i : Nat) : Option pd_O := cond (Nat.ble i 46) (cond (Nat.ble i 22) (cond (Nat.ble i 8) (cond (Nat.ble i 1) (cond (Nat.ble i 0) (cond (Nat.beq i 0) (some (.iload_n 1, 1, (1, 0, 0, 0), 0, 0, [])) none) (cond (Nat.beq i 1) (some (.invokestatic 83, 3, (60, 1, 1, 1), 0, 0, [])) none)) (cond (Nat.ble i 4) (cond (Nat.beq i 4) (some (.ifCond .eq 21, 3, (25, 0, 0, 0), 0, 0, [])) none) (cond (Nat.ble i 7) (cond (Nat.beq i 7) (some (.iload_n 3, 1, (3, 0, 0, 0), 0, 0, [])) none) (cond (Nat.beq i 8) (some (.ifCond .lt 17, 3, (25, 0, 0, 0), 0, 0, [])) none)))) (cond (Nat.ble i 14) (cond (Nat.ble i 11) (cond (Nat.beq i 11) (some (.iload_n 3, 1, (3, 0, 0, 0), 0, 0, [])) none) (cond (Nat.ble i 12) (cond (Nat.beq i 12) (some (.bipush 8, 2, (0, 0, 0, 0), 8, 0, [])) none) (cond (Nat.beq i 14) (some (.if_icmp .gt 11, 3, (25, 0, 0, 0), 0, 0, [])) none))) (cond (Nat.ble i 17) (cond (Nat.beq i 17) (some (.iload 4, 2, (4, 0, 0, 0), 0, 0, [])) none) (cond (Nat.ble i 19) (cond (Nat.beq i 19) (some (.invokestatic 83, 3, (60, 1, 1, 1), 0, 0, [])) none) (cond (Nat.beq i 22) (some (.ifCond .ne 6, 3, (28, 0, 0, 0), 0, 0, [])) none))))) (cond (Nat.ble i 35) (cond (Nat.ble i 28) (cond (Nat.ble i 25) (cond (Nat.beq i 25) (some (.bipush (-2), 2, (0, 0, 0, 0), -2, 0, [])) none) (cond (Nat.ble i 27) (cond (Nat.beq i 27) (some (.ireturn, 1, (0, 0, 0, 0), 0, 0, [])) none) (cond (Nat.beq i 28) (some (.aload_n 0, 1, (0, 0, 0, 0), 0, 0, [])) none))) (cond (Nat.ble i 29) (cond (Nat.beq i 29) (some (.getfield 19, 3, (2, 9, 7, 0), 0, 0, [])) none) (cond (Nat.ble i 32) (cond (Nat.beq i 32) (some (.getfield 161, 3, (2, 0, 2, 20), 0, 0, [])) none) (cond (Nat.beq i 35) (some (.bipush 24, 2, (0, 0, 0, 0), 24, 0, [])) none)))) (cond (Nat.ble i 40) (cond (Nat.ble i 37) (cond (Nat.beq i 37) (some (.iaload, 1, (0, 0, 0, 0), 0, 0, [])) none) (cond (Nat.ble i 38) (cond (Nat.beq i 38) (some (.bipush 6, 2, (0, 0, 0, 0), 6, 0, [])) none) (cond (Nat.beq i 40) (some (.if_icmp .lt 6, 3, (46, 0, 0, 0), 0, 0, [])) none))) (cond (Nat.ble i 43) (cond (Nat.beq i 43) (some (.bipush (-4), 2, (0, 0, 0, 0), -4, 0, [])) none) (cond (Nat.ble i 45) (cond (Nat.beq i 45) (some (.ireturn, 1, (0, 0, 0, 0), 0, 0, [])) none) (cond (Nat.beq i 46) (some (.aload_n 0, 1, (0, 0, 0, 0), 0, 0, [])) none)))))) (cond (Nat.ble i 68) (cond (Nat.ble i 56) (cond (Nat.ble i 53) (cond (Nat.ble i 47) (cond (Nat.beq i 47) (some (.getfield 19, 3, (2, 9, 7, 0), 0, 0, [])) none) (cond (Nat.ble i 50) (cond (Nat.beq i 50) (some (.invokevirtual 164, 3, (0, 1, 1, 11), 0, 0, [])) none) (cond (Nat.beq i 53) (some (.iload_n 1, 1, (1, 0, 0, 0), 0, 0, [])) none))) (cond (Nat.ble i 54) (cond (Nat.beq i 54) (some (.iload_n 2, 1, (2, 0, 0, 0), 0, 0, [])) none) (cond (Nat.ble i 55) (cond (Nat.beq i 55) (some (.iload_n 3, 1, (3, 0, 0, 0), 0, 0, [])) none) (cond (Nat.beq i 56) (some (.iload 4, 2, (4, 0, 0, 0), 0, 0, [])) none)))) (cond (Nat.ble i 61) (cond (Nat.ble i 58) (cond (Nat.beq i 58) (some (.iload 5, 2, (5, 0, 0, 0), 0, 0, [])) none) (cond (Nat.ble i 60) (cond (Nat.beq i 60) (some (.iconst 0, 1, (0, 0, 0, 0), 0, 0, [])) none) (cond (Nat.beq i 61) (some (.invokevirtual 168, 3, (4, 7, 7, 256), 0, 0, [])) none))) (cond (Nat.ble i 64) (cond (Nat.beq i 64) (some (.aload_n 0, 1, (0, 0, 0, 0), 0, 0, [])) none) (cond (Nat.ble i 65) (cond (Nat.beq i 65) (some (.getfield 19, 3, (2, 9, 7, 0), 0, 0, [])) none) (cond (Nat.beq i 68) (some (.getfield 161, 3, (2, 0, 2, 20), 0, 0, [])) none))))) (cond (Nat.ble i 77) (cond (Nat.ble i 74) (cond (Nat.ble i 71) (cond (Nat.beq i 71) (some (.bipush 24, 2, (0, 0, 0, 0), 24, 0, [])) none) (cond (Nat.ble i 73) (cond (Nat.beq i 73) (some (.dup2, 1, (0, 0, 0, 0), 0, 0, [])) none) (cond (Nat.beq i 74) (some (.iaload, 1, (0, 0, 0, 0), 0, 0, [])) none))) (cond (Nat.ble i 75) (cond (Nat.beq i 75) (some (.iconst 1, 1, (0, 0, 0, 0), 1, 0, [])) none) (cond (Nat.ble i 76) (cond (Nat.beq i 76) (some (.iadd, 1, (0, 0, 0, 0), 0, 0, [])) none) (cond (Nat.beq i 77) (some (.iastore, 1, (0, 0, 0, 0), 0, 0, [])) none)))) (cond (Nat.ble i 82) (cond (Nat.ble i 78) (cond (Nat.beq i 78) (some (.aload_n 0, 1, (0, 0, 0, 0), 0, 0, [])) none) (cond (Nat.ble i 79) (cond (Nat.beq i 79) (some (.getfield 19, 3, (2, 9, 7, 0), 0, 0, [])) none) (cond (Nat.beq i 82) (some (.getfield 161, 3, (2, 0, 2, 20), 0, 0, [])) none))) (cond (Nat.ble i 85) (cond (Nat.beq i 85) (some (.bipush 24, 2, (0, 0, 0, 0), 24, 0, [])) none) (cond (Nat.ble i 87) (cond (Nat.beq i 87) (some (.iaload, 1, (0, 0, 0, 0), 0, 0, [])) none) (cond (Nat.beq i 88) (some (.ireturn, 1, (0, 0, 0, 0), 0, 0, [])) none))))))
/-- X_drop -/
def pd_k41 (i : Nat) : Option pd_O := cond (Nat.ble i 20) (cond (Nat.ble i 9) (cond (Nat.ble i 1) (cond (Nat.ble i 0) (cond (Nat.beq i 0) (some (.aload_n 0, 1, (0, 0, 0, 0), 0, 0, [])) none) (cond (Nat.beq i 1) (some (.getfield 19, 3, (2, 9, 7, 0), 0, 0, [])) none)) (cond (Nat.ble i 4) (cond (Nat.beq i 4) (some (.getfield 161, 3, (2, 0, 2, 20), 0, 0, [])) none) (cond (Nat.ble i 7) (cond (Nat.beq i 7) (some (.bipush 24, 2, (0, 0, 0, 0), 24, 0, [])) none) (cond (Nat.beq i 9) (some (.iaload, 1, (0, 0, 0, 0), 0, 0, [])) none)))) (cond (Nat.ble i 15) (cond (Nat.ble i 10) (cond (Nat.beq i 10) (some (.ifCond .ne 6, 3, (16, 0, 0, 0), 0, 0, [])) none) (cond (Nat.ble i 13) (cond (Nat.beq i 13) (some (.bipush (-3), 2, (0, 0, 0, 0), -3, 0, [])) none) (cond (Nat.beq i 15) (some (.ireturn, 1, (0, 0, 0, 0), 0, 0, [])) none))) (cond (Nat.ble i 16) (cond (Nat.beq i 16) (some (.aload_n 0, 1, (0, 0, 0, 0), 0, 0, [])) none) (cond (Nat.ble i 17) (cond (Nat.beq i 17) (some (.getfield 19, 3, (2, 9, 7, 0), 0, 0, [])) none) (cond (Nat.beq i 20) (some (.getfield 161, 3, (2, 0, 2, 20), 0, 0, [])) none))))) (cond (Nat.ble i 29) (cond (Nat.ble i 26) (cond (Nat.ble i 23) (cond (Nat.beq i 23) (some (.bipush 24, 2, (0, 0, 0, 0), 24, 0, [])) none) (cond (Nat.ble i 25) (cond (Nat.beq i 25) (some (.dup2, 1, (0, 0, 0, 0), 0, 0, [])) none) (cond (Nat.beq i 26) (some (.iaload, 1, (0, 0, 0, 0), 0, 0, [])) none))) (cond (Nat.ble i 27) (cond (Nat.beq i 27) (some (.iconst 1, 1, (0, 0, 0, 0), 1, 0, [])) none) (cond (Nat.ble i 28) (cond (Nat.beq i 28) (some (.isub, 1, (0, 0, 0, 0), 0, 0, [])) none) (cond (Nat.beq i 29) (some (.iastore, 1, (0, 0, 0, 0), 0, 0, [])) none)))) (cond (Nat.ble i 34) (cond (Nat.ble i 30) (cond (Nat.beq i 30) (some (.aload_n 0, 1, (0, 0, 0, 0), 0, 0, [])) none) (cond (Nat.ble i 31) (cond (Nat.beq i 31) (some (.getfield 19, 3, (2, 9, 7, 0), 0, 0, [])) none) (cond (Nat.beq i 34) (some (.getfield 161, 3, (2, 0, 2, 20), 0, 0, [])) none))) (cond (Nat.ble i 37) (cond (Nat.beq i 37) (some (.bipush 24, 2, (0, 0, 0, 0), 24, 0, [])) none) (cond (Nat.ble i 39) (cond (Nat.beq i 39) (some (.iaload, 1, (0, 0, 0, 0), 0, 0, [])) none) (cond (Nat.beq i 40) (some (.ireturn, 1, (0, 0, 0, 0), 0, 0, [])) none)))))
/-- X_lay -/
def pd_k42 (i : Nat) : Option pd_O := cond (Nat.ble i 61) (cond (Nat.ble i 30) (cond (Nat.ble i 12) (cond (Nat.ble i 7) (cond (Nat.ble i 1) (cond (Nat.ble i 0) (cond (Nat.beq i 0) (some (.aload_n 0, 1, (0, 0, 0, 0), 0, 0, [])) none) (cond (Nat.beq i 1) (some (.getfield 19, 3, (2, 9, 7, 0), 0, 0, [])) none)) (cond (Nat.ble i 4) (cond (Nat.beq i 4) (some (.getfield 161, 3, (2, 0, 2, 20), 0, 0, [])) none) (cond (Nat.beq i 7) (some (.bipush 24, 2, (0, 0, 0, 0), 24, 0, [])) none))) (cond (Nat.ble i 10) (cond (Nat.ble i 9) (cond (Nat.beq i 9) (some (.iaload, 1, (0, 0, 0, 0), 0, 0, [])) none) (cond (Nat.beq i 10) (some (.istore_n 1, 1, (1, 0, 0, 0), 0, 0, [])) none)) (cond (Nat.ble i 11) (cond (Nat.beq i 11) (some (.iload_n 1, 1, (1, 0, 0, 0), 0, 0, [])) none) (cond (Nat.beq i 12) (some (.ifCond .ne 6, 3, (18, 0, 0, 0), 0, 0, [])) none)))) (cond (Nat.ble i 19) (cond (Nat.ble i 17) (cond (Nat.ble i 15) (cond (Nat.beq i 15) (some (.bipush (-3), 2, (0, 0, 0, 0), -3, 0, [])) none) (cond (Nat.beq i 17) (some (.ireturn, 1, (0, 0, 0, 0), 0, 0, [])) none)) (cond (Nat.ble i 18) (cond (Nat.beq i 18) (some (.aload_n 0, 1, (0, 0, 0, 0), 0, 0, [])) none) (cond (Nat.beq i 19) (some (.getfield 19, 3, (2, 9, 7, 0), 0, 0, [])) none))) (cond (Nat.ble i 25) (cond (Nat.ble i 22) (cond (Nat.beq i 22) (some (.getfield 222, 3, (0, 0, 2, 0), 0, 0, [])) none) (cond (Nat.beq i 25) (some (.bipush 24, 2, (0, 0, 0, 0), 24, 0, [])) none)) (cond (Nat.ble i 27) (cond (Nat.beq i 27) (some (.if_icmp .lt 6, 3, (33, 0, 0, 0), 0, 0, [])) none) (cond (Nat.beq i 30) (some (.bipush (-4), 2, (0, 0, 0, 0), -4, 0, [])) none))))) (cond (Nat.ble i 45) (cond (Nat.ble i 37) (cond (Nat.ble i 33) (cond (Nat.ble i 32) (cond (Nat.beq i 32) (some (.ireturn, 1, (0, 0, 0, 0), 0, 0, [])) none) (cond (Nat.beq i 33) (some (.aload_n 0, 1, (0, 0, 0, 0), 0, 0, [])) none)) (cond (Nat.ble i 34) (cond (Nat.beq i 34) (some (.getfield 68, 3, (4, 9, 1, 2), 0, 0, [])) none) (cond (Nat.beq i 37) (some (.aload_n 0, 1, (0, 0, 0, 0), 0, 0, [])) none))) (cond (Nat.ble i 41) (cond (Nat.ble i 38) (cond (Nat.beq i 38) (some (.getfield 64, 3, (4, 9, 0, 2), 0, 0, [])) none) (cond (Nat.beq i 41) (some (.invokevirtual 174, 3, (7, 2, 2, 512), 0, 0, [])) none)) (cond (Nat.ble i 44) (cond (Nat.beq i 44) (some (.iconst 0, 1, (0, 0, 0, 0), 0, 0, [])) none) (cond (Nat.beq i 45) (some (.istore_n 2, 1, (2, 0, 0, 0), 0, 0, [])) none)))) (cond (Nat.ble i 51) (cond (Nat.ble i 47) (cond (Nat.ble i 46) (cond (Nat.beq i 46) (some (.iload_n 2, 1, (2, 0, 0, 0), 0, 0, [])) none) (cond (Nat.beq i 47) (some (.iload_n 1, 1, (1, 0, 0, 0), 0, 0, [])) none)) (cond (Nat.ble i 48) (cond (Nat.beq i 48) (some (.if_icmp .ge 44, 3, (92, 0, 0, 0), 0, 0, [])) none) (cond (Nat.beq i 51) (some (.aload_n 0, 1, (0, 0, 0, 0), 0, 0, [])) none))) (cond (Nat.ble i 55) (cond (Nat.ble i 52) (cond (Nat.beq i 52) (some (.getfield 68, 3, (4, 9, 1, 2), 0, 0, [])) none) (cond (Nat.beq i 55) (some (.bipush 24, 2, (0, 0, 0, 0), 24, 0, [])) none)) (cond (Nat.ble i 57) (cond (Nat.beq i 57) (some (.iload_n 2, 1, (2, 0, 0, 0), 0, 0, [])) none) (cond (Nat.ble i 58) (cond (Nat.beq i 58) (some (.invokevirtual 178, 3, (9, 3, 5, 513), 0, 0, [])) none) (cond (Nat.beq i 61) (some (.istore_n 3, 1, (3, 0, 0, 0), 0, 0, [])) none))))))) (cond (Nat.ble i 92) (cond (Nat.ble i 77) (cond (Nat.ble i 67) (cond (Nat.ble i 63) (cond (Nat.ble i 62) (cond (Nat.beq i 62) (some (.aload_n 0, 1, (0, 0, 0, 0), 0, 0, [])) none) (cond (Nat.beq i 63) (some (.getfield 40, 3, (2, 9, 15, 6), 0, 0, [])) none)) (cond (Nat.ble i 66) (cond (Nat.beq i 66) (some (.aload_n 0, 1, (0, 0, 0, 0), 0, 0, [])) none) (cond (Nat.beq i 67) (some (.getfield 68, 3, (4, 9, 1, 2), 0, 0, [])) none))) (cond (Nat.ble i 73) (cond (Nat.ble i 70) (cond (Nat.beq i 70) (some (.invokevirtual 225, 3, (31, 2, 2, 1536), 0, 0, [])) none) (cond (Nat.beq i 73) (some (.iload_n 3, 1, (3, 0, 0, 0), 0, 0, [])) none)) (cond (Nat.ble i 74) (cond (Nat.beq i 74) (some (.ifCond .eq 12, 3, (86, 0, 0, 0), 0, 0, [])) none) (cond (Nat.beq i 77) (some (.aload_n 0, 1, (0, 0, 0, 0), 0, 0, [])) none)))) (cond (Nat.ble i 82) (cond (Nat.ble i 80) (cond (Nat.ble i 78) (cond (Nat.beq i 78) (some (.bipush 24, 2, (0, 0, 0, 0), 24, 0, [])) none) (cond (Nat.beq i 80) (some (.iload_n 2, 1, (2, 0, 0, 0), 0, 0, [])) none)) (cond (Nat.ble i 81) (cond (Nat.beq i 81) (some (.iload_n 3, 1, (3, 0, 0, 0), 0, 0, [])) none) (cond (Nat.beq i 82) (some (.invokevirtual 228, 3, (59, 4, 4, 2305), 0, 0, [])) none))) (cond (Nat.ble i 86) (cond (Nat.ble i 85) (cond (Nat.beq i 85) (some (.ireturn, 1, (0, 0, 0, 0), 0, 0, [])) none) (cond (Nat.beq i 86) (some (.iinc 2 1, 3, (2, 0, 0, 0), 1, 0, [])) none)) (cond (Nat.ble i 89) (cond (Nat.beq i 89) (some (.goto (-43), 3, (46, 0, 0, 0), 0, 0, [])) none) (cond (Nat.beq i 92) (some (.aload_n 0, 1, (0, 0, 0, 0), 0, 0, [])) none))))) (cond (Nat.ble i 108) (cond (Nat.ble i 100) (cond (Nat.ble i 96) (cond (Nat.ble i 93) (cond (Nat.beq i 93) (some (.getfield 19, 3, (2, 9, 7, 0), 0, 0, [])) none) (cond (Nat.beq i 96) (some (.invokevirtual 231, 3, (1, 1, 3, 1), 0, 0, [])) none)) (cond (Nat.ble i 99) (cond (Nat.beq i 99) (some (.istore_n 2, 1, (2, 0, 0, 0), 0, 0, [])) none) (cond (Nat.beq i 100) (some (.aload_n 0, 1, (0, 0, 0, 0), 0, 0, [])) none))) (cond (Nat.ble i 104) (cond (Nat.ble i 101) (cond (Nat.beq i 101) (some (.getfield 64, 3, (4, 9, 0, 2), 0, 0, [])) none) (cond (Nat.beq i 104) (some (.getfield 234, 3, (2, 2, 1, 4), 0, 0, [])) none)) (cond (Nat.ble i 107) (cond (Nat.beq i 107) (some (.iload_n 2, 1, (2, 0, 0, 0), 0, 0, [])) none) (cond (Nat.beq i 108) (some (.invokevirtual 237, 3, (19, 2, 2, 1024), 0, 0, [])) none)))) (cond (Nat.ble i 118) (cond (Nat.ble i 112) (cond (Nat.ble i 111) (cond (Nat.beq i 111) (some (.aload_n 0, 1, (0, 0, 0, 0), 0, 0, [])) none) (cond (Nat.beq i 112) (some (.getfield 64, 3, (4, 9, 0, 2), 0, 0, [])) none)) (cond (Nat.ble i 115) (cond (Nat.beq i 115) (some (.invokevirtual 98, 3, (8, 1, 4, 512), 0, 0, [])) none) (cond (Nat.beq i 118) (some (.aload_n 0, 1, (0, 0, 0, 0), 0, 0, [])) none))) (cond (Nat.ble i 122) (cond (Nat.ble i 119) (cond (Nat.beq i 119) (some (.getfield 47, 3, (2, 9, 17, 4), 0, 0, [])) none) (cond (Nat.beq i 122) (some (.iconst 0, 1, (0, 0, 0, 0), 0, 0, [])) none)) (cond (Nat.ble i 123) (cond (Nat.beq i 123) (some (.putfield 241, 3, (0, 4, 1, 0), 0, 0, [])) none) (cond (Nat.ble i 126) (cond (Nat.beq i 126) (some (.iload_n 2, 1, (2, 0, 0, 0), 0, 0, [])) none) (cond (Nat.beq i 127) (some (.ireturn, 1, (0, 0, 0, 0), 0, 0, [])) none)))))))
/-- X_undo -/
def pd_k43 (i : Nat) : Option pd_O := cond (Nat.ble i 31) (cond (Nat.ble i 15) (cond (Nat.ble i 7) (cond (Nat.ble i 1) (cond (Nat.ble i 0) (cond (Nat.beq i 0) (some (.aload_n 0, 1, (0, 0, 0, 0), 0, 0, [])) none) (cond (Nat.beq i 1) (some (.getfield 64, 3, (4, 9, 0, 2), 0, 0, [])) none)) (cond (Nat.ble i 4) (cond (Nat.beq i 4) (some (.getfield 234, 3, (2, 2, 1, 4), 0, 0, [])) none) (cond (Nat.beq i 7) (some (.getfield 241, 3, (0, 4, 1, 0), 0, 0, [])) none))) (cond (Nat.ble i 11) (cond (Nat.ble i 10) (cond (Nat.beq i 10) (some (.istore_n 1, 1, (1, 0, 0, 0), 0, 0, [])) none) (cond (Nat.beq i 11) (some (.iload_n 1, 1, (1, 0, 0, 0), 0, 0, [])) none)) (cond (Nat.ble i 12) (cond (Nat.beq i 12) (some (.ifCond .ne 6, 3, (18, 0, 0, 0), 0, 0, [])) none) (cond (Nat.beq i 15) (some (.bipush (-3), 2, (0, 0, 0, 0), -3, 0, [])) none)))) (cond (Nat.ble i 22) (cond (Nat.ble i 18) (cond (Nat.ble i 17) (cond (Nat.beq i 17) (some (.ireturn, 1, (0, 0, 0, 0), 0, 0, [])) none) (cond (Nat.beq i 18) (some (.aload_n 0, 1, (0, 0, 0, 0), 0, 0, [])) none)) (cond (Nat.ble i 19) (cond (Nat.beq i 19) (some (.getfield 64, 3, (4, 9, 0, 2), 0, 0, [])) none) (cond (Nat.beq i 22) (some (.getfield 234, 3, (2, 2, 1, 4), 0, 0, [])) none))) (cond (Nat.ble i 28) (cond (Nat.ble i 25) (cond (Nat.beq i 25) (some (.getfield 242, 3, (2, 4, 1, 20), 0, 0, [])) none) (cond (Nat.beq i 28) (some (.iload_n 1, 1, (1, 0, 0, 0), 0, 0, [])) none)) (cond (Nat.ble i 29) (cond (Nat.beq i 29) (some (.iconst 1, 1, (0, 0, 0, 0), 1, 0, [])) none) (cond (Nat.ble i 30) (cond (Nat.beq i 30) (some (.isub, 1, (0, 0, 0, 0), 0, 0, [])) none) (cond (Nat.beq i 31) (some (.iaload, 1, (0, 0, 0, 0), 0, 0, [])) none)))))) (cond (Nat.ble i 43) (cond (Nat.ble i 37) (cond (Nat.ble i 33) (cond (Nat.ble i 32) (cond (Nat.beq i 32) (some (.istore_n 2, 1, (2, 0, 0, 0), 0, 0, [])) none) (cond (Nat.beq i 33) (some (.aload_n 0, 1, (0, 0, 0, 0), 0, 0, [])) none)) (cond (Nat.ble i 34) (cond (Nat.beq i 34) (some (.getfield 64, 3, (4, 9, 0, 2), 0, 0, [])) none) (cond (Nat.beq i 37) (some (.getfield 234, 3, (2, 2, 1, 4), 0, 0, [])) none))) (cond (Nat.ble i 41) (cond (Nat.ble i 40) (cond (Nat.beq i 40) (some (.iload_n 1, 1, (1, 0, 0, 0), 0, 0, [])) none) (cond (Nat.beq i 41) (some (.iconst 1, 1, (0, 0, 0, 0), 1, 0, [])) none)) (cond (Nat.ble i 42) (cond (Nat.beq i 42) (some (.isub, 1, (0, 0, 0, 0), 0, 0, [])) none) (cond (Nat.beq i 43) (some (.putfield 241, 3, (0, 4, 1, 0), 0, 0, [])) none)))) (cond (Nat.ble i 53) (cond (Nat.ble i 47) (cond (Nat.ble i 46) (cond (Nat.beq i 46) (some (.aload_n 0, 1, (0, 0, 0, 0), 0, 0, [])) none) (cond (Nat.beq i 47) (some (.getfield 64, 3, (4, 9, 0, 2), 0, 0, [])) none)) (cond (Nat.ble i 50) (cond (Nat.beq i 50) (some (.invokevirtual 98, 3, (8, 1, 4, 512), 0, 0, [])) none) (cond (Nat.beq i 53) (some (.aload_n 0, 1, (0, 0, 0, 0), 0, 0, [])) none))) (cond (Nat.ble i 57) (cond (Nat.ble i 54) (cond (Nat.beq i 54) (some (.getfield 47, 3, (2, 9, 17, 4), 0, 0, [])) none) (cond (Nat.beq i 57) (some (.iload_n 2, 1, (2, 0, 0, 0), 0, 0, [])) none)) (cond (Nat.ble i 58) (cond (Nat.beq i 58) (some (.invokevirtual 237, 3, (19, 2, 2, 1024), 0, 0, [])) none) (cond (Nat.ble i 61) (cond (Nat.beq i 61) (some (.iload_n 2, 1, (2, 0, 0, 0), 0, 0, [])) none) (cond (Nat.beq i 62) (some (.ireturn, 1, (0, 0, 0, 0), 0, 0, [])) none))))))
/-- X_out -/
def pd_k44 (i : Nat) : Option pd_O := cond (Nat.ble i 19) (cond (Nat.ble i 7) (cond (Nat.ble i 2) (cond (Nat.ble i 0) (cond (Nat.beq i 0) (some (.aload_n 0, 1, (0, 0, 0, 0), 0, 0, [])) none) (cond (Nat.ble i 1) (cond (Nat.beq i 1) (some (.iload_n 1, 1, (1, 0, 0, 0), 0, 0, [])) none) (cond (Nat.beq i 2) (some (.invokevirtual 254, 3, (58, 2, 2, 2305), 0, 0, [])) none))) (cond (Nat.ble i 5) (cond (Nat.beq i 5) (some (.istore_n 2, 1, (2, 0, 0, 0), 0, 0, [])) none) (cond (Nat.ble i 6) (cond (Nat.beq i 6) (some (.iload_n 2, 1, (2, 0, 0, 0), 0, 0, [])) none) (cond (Nat.beq i 7) (some (.ifCond .eq 5, 3, (12, 0, 0, 0), 0, 0, [])) none)))) (cond (Nat.ble i 12) (cond (Nat.ble i 10) (cond (Nat.beq i 10) (some (.iload_n 2, 1, (2, 0, 0, 0), 0, 0, [])) none) (cond (Nat.ble i 11) (cond (Nat.beq i 11) (some (.ireturn, 1, (0, 0, 0, 0), 0, 0, [])) none) (cond (Nat.beq i 12) (some (.aload_n 0, 1, (0, 0, 0, 0), 0, 0, [])) none))) (cond (Nat.ble i 13) (cond (Nat.beq i 13) (some (.getfield 68, 3, (4, 9, 1, 2), 0, 0, [])) none) (cond (Nat.ble i 16) (cond (Nat.beq i 16) (some (.getfield 234, 3, (2, 2, 1, 4), 0, 0, [])) none) (cond (Nat.beq i 19) (some (.aload_n 0, 1, (0, 0, 0, 0), 0, 0, [])) none))))) (cond (Nat.ble i 33) (cond (Nat.ble i 26) (cond (Nat.ble i 20) (cond (Nat.beq i 20) (some (.getfield 64, 3, (4, 9, 0, 2), 0, 0, [])) none) (cond (Nat.ble i 23) (cond (Nat.beq i 23) (some (.getfield 234, 3, (2, 2, 1, 4), 0, 0, [])) none) (cond (Nat.beq i 26) (some (.invokevirtual 257, 3, (22, 2, 3, 1024), 0, 0, [])) none))) (cond (Nat.ble i 29) (cond (Nat.beq i 29) (some (.aload_n 0, 1, (0, 0, 0, 0), 0, 0, [])) none) (cond (Nat.ble i 30) (cond (Nat.beq i 30) (some (.getfield 68, 3, (4, 9, 1, 2), 0, 0, [])) none) (cond (Nat.beq i 33) (some (.getfield 234, 3, (2, 2, 1, 4), 0, 0, [])) none)))) (cond (Nat.ble i 40) (cond (Nat.ble i 36) (cond (Nat.beq i 36) (some (.iload_n 1, 1, (1, 0, 0, 0), 0, 0, [])) none) (cond (Nat.ble i 37) (cond (Nat.beq i 37) (some (.invokevirtual 260, 3, (21, 2, 4, 1024), 0, 0, [])) none) (cond (Nat.beq i 40) (some (.aload_n 0, 1, (0, 0, 0, 0), 0, 0, [])) none))) (cond (Nat.ble i 42) (cond (Nat.ble i 41) (cond (Nat.beq i 41) (some (.aload_n 0, 1, (0, 0, 0, 0), 0, 0, [])) none) (cond (Nat.beq i 42) (some (.invokevirtual 248, 3, (66, 1, 2, 2305), 0, 0, [])) none)) (cond (Nat.ble i 45) (cond (Nat.beq i 45) (some (.invokevirtual 263, 3, (67, 2, 2, 2305), 0, 0, [])) none) (cond (Nat.beq i 48) (some (.ireturn, 1, (0, 0, 0, 0), 0, 0, [])) none)))))
/-- X_with -/
def pd_k45 (i : Nat) : Option pd_O := cond (Nat.ble i 57) (cond (Nat.ble i 27) (cond (Nat.ble i 11) (cond (Nat.ble i 5) (cond (Nat.ble i 1) (cond (Nat.ble i 0) (cond (Nat.beq i 0) (some (.aload_n 0, 1, (0, 0, 0, 0), 0, 0, [])) none) (cond (Nat.beq i 1) (some (.iload_n 1, 1, (1, 0, 0, 0), 0, 0, [])) none)) (cond (Nat.ble i 2) (cond (Nat.beq i 2) (some (.invokevirtual 254, 3, (58, 2, 2, 2305), 0, 0, [])) none) (cond (Nat.beq i 5) (some (.istore_n 2, 1, (2, 0, 0, 0), 0, 0, [])) none))) (cond (Nat.ble i 7) (cond (Nat.ble i 6) (cond (Nat.beq i 6) (some (.iload_n 2, 1, (2, 0, 0, 0), 0, 0, [])) none) (cond (Nat.beq i 7) (some (.ifCond .eq 5, 3, (12, 0, 0, 0), 0, 0, [])) none)) (cond (Nat.ble i 10) (cond (Nat.beq i 10) (some (.iload_n 2, 1, (2, 0, 0, 0), 0, 0, [])) none) (cond (Nat.beq i 11) (some (.ireturn, 1, (0, 0, 0, 0), 0, 0, [])) none)))) (cond (Nat.ble i 19) (cond (Nat.ble i 13) (cond (Nat.ble i 12) (cond (Nat.beq i 12) (some (.aload_n 0, 1, (0, 0, 0, 0), 0, 0, [])) none) (cond (Nat.beq i 13) (some (.getfield 64, 3, (4, 9, 0, 2), 0, 0, [])) none)) (cond (Nat.ble i 16) (cond (Nat.beq i 16) (some (.getfield 234, 3, (2, 2, 1, 4), 0, 0, [])) none) (cond (Nat.beq i 19) (some (.getfield 241, 3, (0, 4, 1, 0), 0, 0, [])) none))) (cond (Nat.ble i 23) (cond (Nat.ble i 22) (cond (Nat.beq i 22) (some (.istore_n 3, 1, (3, 0, 0, 0), 0, 0, [])) none) (cond (Nat.beq i 23) (some (.aload_n 0, 1, (0, 0, 0, 0), 0, 0, [])) none)) (cond (Nat.ble i 24) (cond (Nat.beq i 24) (some (.getfield 64, 3, (4, 9, 0, 2), 0, 0, [])) none) (cond (Nat.beq i 27) (some (.iload_n 1, 1, (1, 0, 0, 0), 0, 0, [])) none))))) (cond (Nat.ble i 38) (cond (Nat.ble i 33) (cond (Nat.ble i 31) (cond (Nat.ble i 28) (cond (Nat.beq i 28) (some (.invokevirtual 266, 3, (14, 2, 5, 513), 0, 0, [])) none) (cond (Nat.beq i 31) (some (.iconst 1, 1, (0, 0, 0, 0), 1, 0, [])) none)) (cond (Nat.ble i 32) (cond (Nat.beq i 32) (some (.iload_n 1, 1, (1, 0, 0, 0), 0, 0, [])) none) (cond (Nat.beq i 33) (some (.ishl, 1, (0, 0, 0, 0), 0, 0, [])) none))) (cond (Nat.ble i 35) (cond (Nat.ble i 34) (cond (Nat.beq i 34) (some (.ior, 1, (0, 0, 0, 0), 0, 0, [])) none) (cond (Nat.beq i 35) (some (.istore 4, 2, (4, 0, 0, 0), 0, 0, [])) none)) (cond (Nat.ble i 37) (cond (Nat.beq i 37) (some (.aload_n 0, 1, (0, 0, 0, 0), 0, 0, [])) none) (cond (Nat.beq i 38) (some (.getfield 68, 3, (4, 9, 1, 2), 0, 0, [])) none)))) (cond (Nat.ble i 48) (cond (Nat.ble i 44) (cond (Nat.ble i 41) (cond (Nat.beq i 41) (some (.getfield 234, 3, (2, 2, 1, 4), 0, 0, [])) none) (cond (Nat.beq i 44) (some (.iconst 0, 1, (0, 0, 0, 0), 0, 0, [])) none)) (cond (Nat.ble i 45) (cond (Nat.beq i 45) (some (.putfield 241, 3, (0, 4, 1, 0), 0, 0, [])) none) (cond (Nat.beq i 48) (some (.iconst 0, 1, (0, 0, 0, 0), 0, 0, [])) none))) (cond (Nat.ble i 51) (cond (Nat.ble i 49) (cond (Nat.beq i 49) (some (.istore 5, 2, (5, 0, 0, 0), 0, 0, [])) none) (cond (Nat.beq i 51) (some (.iload 5, 2, (5, 0, 0, 0), 0, 0, [])) none)) (cond (Nat.ble i 53) (cond (Nat.beq i 53) (some (.iload_n 3, 1, (3, 0, 0, 0), 0, 0, [])) none) (cond (Nat.ble i 54) (cond (Nat.beq i 54) (some (.if_icmp .ge 46, 3, (100, 0, 0, 0), 0, 0, [])) none) (cond (Nat.beq i 57) (some (.aload_n 0, 1, (0, 0, 0, 0), 0, 0, [])) none))))))) (cond (Nat.ble i 89) (cond (Nat.ble i 74) (cond (Nat.ble i 67) (cond (Nat.ble i 61) (cond (Nat.ble i 58) (cond (Nat.beq i 58) (some (.getfield 64, 3, (4, 9, 0, 2), 0, 0, [])) none) (cond (Nat.beq i 61) (some (.getfield 234, 3, (2, 2, 1, 4), 0, 0, [])) none)) (cond (Nat.ble i 64) (cond (Nat.beq i 64) (some (.getfield 242, 3, (2, 4, 1, 20), 0, 0, [])) none) (cond (Nat.beq i 67) (some (.iload 5, 2, (5, 0, 0, 0), 0, 0, [])) none))) (cond (Nat.ble i 70) (cond (Nat.ble i 69) (cond (Nat.beq i 69) (some (.iaload, 1, (0, 0, 0, 0), 0, 0, [])) none) (cond (Nat.beq i 70) (some (.istore 6, 2, (6, 0, 0, 0), 0, 0, [])) none)) (cond (Nat.ble i 72) (cond (Nat.beq i 72) (some (.iload 4, 2, (4, 0, 0, 0), 0, 0, [])) none) (cond (Nat.beq i 74) (some (.iload 6, 2, (6, 0, 0, 0), 0, 0, [])) none)))) (cond (Nat.ble i 79) (cond (Nat.ble i 77) (cond (Nat.ble i 76) (cond (Nat.beq i 76) (some (.ishr, 1, (0, 0, 0, 0), 0, 0, [])) none) (cond (Nat.beq i 77) (some (.iconst 1, 1, (0, 0, 0, 0), 1, 0, [])) none)) (cond (Nat.ble i 78) (cond (Nat.beq i 78) (some (.iand, 1, (0, 0, 0, 0), 0, 0, [])) none) (cond (Nat.beq i 79) (some (.ifCond .ne 15, 3, (94, 0, 0, 0), 0, 0, [])) none))) (cond (Nat.ble i 83) (cond (Nat.ble i 82) (cond (Nat.beq i 82) (some (.aload_n 0, 1, (0, 0, 0, 0), 0, 0, [])) none) (cond (Nat.beq i 83) (some (.getfield 68, 3, (4, 9, 1, 2), 0, 0, [])) none)) (cond (Nat.ble i 86) (cond (Nat.beq i 86) (some (.getfield 234, 3, (2, 2, 1, 4), 0, 0, [])) none) (cond (Nat.beq i 89) (some (.iload 6, 2, (6, 0, 0, 0), 0, 0, [])) none))))) (cond (Nat.ble i 106) (cond (Nat.ble i 100) (cond (Nat.ble i 94) (cond (Nat.ble i 91) (cond (Nat.beq i 91) (some (.invokevirtual 237, 3, (19, 2, 2, 1024), 0, 0, [])) none) (cond (Nat.beq i 94) (some (.iinc 5 1, 3, (5, 0, 0, 0), 1, 0, [])) none)) (cond (Nat.ble i 97) (cond (Nat.beq i 97) (some (.goto (-46), 3, (51, 0, 0, 0), 0, 0, [])) none) (cond (Nat.beq i 100) (some (.aload_n 0, 1, (0, 0, 0, 0), 0, 0, [])) none))) (cond (Nat.ble i 104) (cond (Nat.ble i 101) (cond (Nat.beq i 101) (some (.invokevirtual 248, 3, (66, 1, 2, 2305), 0, 0, [])) none) (cond (Nat.beq i 104) (some (.pop, 1, (0, 0, 0, 0), 0, 0, [])) none)) (cond (Nat.ble i 105) (cond (Nat.beq i 105) (some (.aload_n 0, 1, (0, 0, 0, 0), 0, 0, [])) none) (cond (Nat.beq i 106) (some (.getfield 47, 3, (2, 9, 17, 4), 0, 0, [])) none)))) (cond (Nat.ble i 114) (cond (Nat.ble i 110) (cond (Nat.ble i 109) (cond (Nat.beq i 109) (some (.iconst 0, 1, (0, 0, 0, 0), 0, 0, [])) none) (cond (Nat.beq i 110) (some (.putfield 241, 3, (0, 4, 1, 0), 0, 0, [])) none)) (cond (Nat.ble i 113) (cond (Nat.beq i 113) (some (.iload_n 3, 1, (3, 0, 0, 0), 0, 0, [])) none) (cond (Nat.beq i 114) (some (.aload_n 0, 1, (0, 0, 0, 0), 0, 0, [])) none))) (cond (Nat.ble i 118) (cond (Nat.ble i 115) (cond (Nat.beq i 115) (some (.getfield 64, 3, (4, 9, 0, 2), 0, 0, [])) none) (cond (Nat.beq i 118) (some (.getfield 234, 3, (2, 2, 1, 4), 0, 0, [])) none)) (cond (Nat.ble i 121) (cond (Nat.beq i 121) (some (.getfield 241, 3, (0, 4, 1, 0), 0, 0, [])) none) (cond (Nat.ble i 124) (cond (Nat.beq i 124) (some (.isub, 1, (0, 0, 0, 0), 0, 0, [])) none) (cond (Nat.beq i 125) (some (.ireturn, 1, (0, 0, 0, 0), 0, 0, [])) none)))))))
/-- X_hangs -/
def pd_k46 (i : Nat) : Option pd_O := cond (Nat.ble i 7) (cond (Nat.ble i 2) (cond (Nat.ble i 0) (cond (Nat.beq i 0) (some (.aload_n 0, 1, (0, 0, 0, 0), 0, 0, [])) none) (cond (Nat.ble i 1) (cond (Nat.beq i 1) (some (.iload_n 1, 1, (1, 0, 0, 0), 0, 0, [])) none) (cond (Nat.beq i 2) (some (.invokevirtual 254, 3, (58, 2, 2, 2305), 0, 0, [])) none))) (cond (Nat.ble i 5) (cond (Nat.beq i 5) (some (.istore_n 2, 1, (2, 0, 0, 0), 0, 0, [])) none) (cond (Nat.ble i 6) (cond (Nat.beq i 6) (some (.iload_n 2, 1, (2, 0, 0, 0), 0, 0, [])) none) (cond (Nat.beq i 7) (some (.ifCond .eq 7, 3, (14, 0, 0, 0), 0, 0, [])) none)))) (cond (Nat.ble i 14) (cond (Nat.ble i 10) (cond (Nat.beq i 10) (some (.iload_n 2, 1, (2, 0, 0, 0), 0, 0, [])) none) (cond (Nat.ble i 11) (cond (Nat.beq i 11) (some (.goto 11, 3, (22, 0, 0, 0), 0, 0, [])) none) (cond (Nat.beq i 14) (some (.aload_n 0, 1, (0, 0, 0, 0), 0, 0, [])) none))) (cond (Nat.ble i 18) (cond (Nat.ble i 15) (cond (Nat.beq i 15) (some (.getfield 64, 3, (4, 9, 0, 2), 0, 0, [])) none) (cond (Nat.beq i 18) (some (.iload_n 1, 1, (1, 0, 0, 0), 0, 0, [])) none)) (cond (Nat.ble i 19) (cond (Nat.beq i 19) (some (.invokevirtual 266, 3, (14, 2, 5, 513), 0, 0, [])) none) (cond (Nat.beq i 22) (some (.ireturn, 1, (0, 0, 0, 0), 0, 0, [])) none))))
/-- X_without -/
def pd_k47 (i : Nat) : Option pd_O := cond (Nat.ble i 58) (cond (Nat.ble i 29) (cond (Nat.ble i 12) (cond (Nat.ble i 2) (cond (Nat.ble i 0) (cond (Nat.beq i 0) (some (.aload_n 0, 1, (0, 0, 0, 0), 0, 0, [])) none) (cond (Nat.ble i 1) (cond (Nat.beq i 1) (some (.iload_n 1, 1, (1, 0, 0, 0), 0, 0, [])) none) (cond (Nat.beq i 2) (some (.invokevirtual 213, 3, (61, 2, 2, 2305), 0, 0, [])) none))) (cond (Nat.ble i 8) (cond (Nat.ble i 5) (cond (Nat.beq i 5) (some (.ifCond .eq 10, 3, (15, 0, 0, 0), 0, 0, [])) none) (cond (Nat.beq i 8) (some (.iload_n 2, 1, (2, 0, 0, 0), 0, 0, [])) none)) (cond (Nat.ble i 9) (cond (Nat.beq i 9) (some (.invokestatic 83, 3, (60, 1, 1, 1), 0, 0, [])) none) (cond (Nat.beq i 12) (some (.ifCond .ne 9, 3, (21, 0, 0, 0), 0, 0, [])) none)))) (cond (Nat.ble i 21) (cond (Nat.ble i 17) (cond (Nat.ble i 15) (cond (Nat.beq i 15) (some (.bipush (-2), 2, (0, 0, 0, 0), -2, 0, [])) none) (cond (Nat.beq i 17) (some (.invokestatic 111, 3, (56, 1, 1, 2), 0, 0, [])) none)) (cond (Nat.ble i 20) (cond (Nat.beq i 20) (some (.lreturn, 1, (0, 0, 0, 0), 0, 0, [])) none) (cond (Nat.beq i 21) (some (.aload_n 0, 1, (0, 0, 0, 0), 0, 0, [])) none))) (cond (Nat.ble i 23) (cond (Nat.ble i 22) (cond (Nat.beq i 22) (some (.iload_n 1, 1, (1, 0, 0, 0), 0, 0, [])) none) (cond (Nat.beq i 23) (some (.invokevirtual 251, 3, (62, 2, 2, 2305), 0, 0, [])) none)) (cond (Nat.ble i 26) (cond (Nat.beq i 26) (some (.ifCond .ne 9, 3, (35, 0, 0, 0), 0, 0, [])) none) (cond (Nat.beq i 29) (some (.bipush (-3), 2, (0, 0, 0, 0), -3, 0, [])) none))))) (cond (Nat.ble i 41) (cond (Nat.ble i 35) (cond (Nat.ble i 31) (cond (Nat.beq i 31) (some (.invokestatic 111, 3, (56, 1, 1, 2), 0, 0, [])) none) (cond (Nat.ble i 34) (cond (Nat.beq i 34) (some (.lreturn, 1, (0, 0, 0, 0), 0, 0, [])) none) (cond (Nat.beq i 35) (some (.aload_n 0, 1, (0, 0, 0, 0), 0, 0, [])) none))) (cond (Nat.ble i 37) (cond (Nat.ble i 36) (cond (Nat.beq i 36) (some (.iload_n 2, 1, (2, 0, 0, 0), 0, 0, [])) none) (cond (Nat.beq i 37) (some (.iload_n 3, 1, (3, 0, 0, 0), 0, 0, [])) none)) (cond (Nat.ble i 38) (cond (Nat.beq i 38) (some (.invokevirtual 127, 3, (57, 3, 4, 2305), 0, 0, [])) none) (cond (Nat.beq i 41) (some (.istore 4, 2, (4, 0, 0, 0), 0, 0, [])) none)))) (cond (Nat.ble i 50) (cond (Nat.ble i 45) (cond (Nat.ble i 43) (cond (Nat.beq i 43) (some (.iload 4, 2, (4, 0, 0, 0), 0, 0, [])) none) (cond (Nat.beq i 45) (some (.ifCond .eq 9, 3, (54, 0, 0, 0), 0, 0, [])) none)) (cond (Nat.ble i 48) (cond (Nat.beq i 48) (some (.iload 4, 2, (4, 0, 0, 0), 0, 0, [])) none) (cond (Nat.beq i 50) (some (.invokestatic 111, 3, (56, 1, 1, 2), 0, 0, [])) none))) (cond (Nat.ble i 54) (cond (Nat.ble i 53) (cond (Nat.beq i 53) (some (.lreturn, 1, (0, 0, 0, 0), 0, 0, [])) none) (cond (Nat.beq i 54) (some (.aload_n 0, 1, (0, 0, 0, 0), 0, 0, [])) none)) (cond (Nat.ble i 55) (cond (Nat.beq i 55) (some (.getfield 68, 3, (4, 9, 1, 2), 0, 0, [])) none) (cond (Nat.beq i 58) (some (.getfield 234, 3, (2, 2, 1, 4), 0, 0, [])) none)))))) (cond (Nat.ble i 93) (cond (Nat.ble i 75) (cond (Nat.ble i 65) (cond (Nat.ble i 61) (cond (Nat.beq i 61) (some (.aload_n 0, 1, (0, 0, 0, 0), 0, 0, [])) none) (cond (Nat.ble i 62) (cond (Nat.beq i 62) (some (.getfield 64, 3, (4, 9, 0, 2), 0, 0, [])) none) (cond (Nat.beq i 65) (some (.getfield 234, 3, (2, 2, 1, 4), 0, 0, [])) none))) (cond (Nat.ble i 71) (cond (Nat.ble i 68) (cond (Nat.beq i 68) (some (.invokevirtual 257, 3, (22, 2, 3, 1024), 0, 0, [])) none) (cond (Nat.beq i 71) (some (.aload_n 0, 1, (0, 0, 0, 0), 0, 0, [])) none)) (cond (Nat.ble i 72) (cond (Nat.beq i 72) (some (.getfield 68, 3, (4, 9, 1, 2), 0, 0, [])) none) (cond (Nat.beq i 75) (some (.getfield 234, 3, (2, 2, 1, 4), 0, 0, [])) none)))) (cond (Nat.ble i 83) (cond (Nat.ble i 79) (cond (Nat.ble i 78) (cond (Nat.beq i 78) (some (.iload_n 1, 1, (1, 0, 0, 0), 0, 0, [])) none) (cond (Nat.beq i 79) (some (.invokevirtual 260, 3, (21, 2, 4, 1024), 0, 0, [])) none)) (cond (Nat.ble i 82) (cond (Nat.beq i 82) (some (.aload_n 0, 1, (0, 0, 0, 0), 0, 0, [])) none) (cond (Nat.beq i 83) (some (.getfield 68, 3, (4, 9, 1, 2), 0, 0, [])) none))) (cond (Nat.ble i 89) (cond (Nat.ble i 86) (cond (Nat.beq i 86) (some (.invokevirtual 98, 3, (8, 1, 4, 512), 0, 0, [])) none) (cond (Nat.beq i 89) (some (.aload_n 0, 1, (0, 0, 0, 0), 0, 0, [])) none)) (cond (Nat.ble i 90) (cond (Nat.beq i 90) (some (.getfield 68, 3, (4, 9, 1, 2), 0, 0, [])) none) (cond (Nat.beq i 93) (some (.getfield 269, 3, (0, 2, 10, 0), 0, 0, [])) none))))) (cond (Nat.ble i 112) (cond (Nat.ble i 100) (cond (Nat.ble i 96) (cond (Nat.beq i 96) (some (.ifCond .eq 17, 3, (113, 0, 0, 0), 0, 0, [])) none) (cond (Nat.ble i 99) (cond (Nat.beq i 99) (some (.aload_n 0, 1, (0, 0, 0, 0), 0, 0, [])) none) (cond (Nat.beq i 100) (some (.getfield 68, 3, (4, 9, 1, 2), 0, 0, [])) none))) (cond (Nat.ble i 106) (cond (Nat.ble i 103) (cond (Nat.beq i 103) (some (.getfield 269, 3, (0, 2, 10, 0), 0, 0, [])) none) (cond (Nat.beq i 106) (some (.invokestatic 90, 3, (55, 1, 1, 1), 0, 0, [])) none)) (cond (Nat.ble i 109) (cond (Nat.beq i 109) (some (.invokestatic 111, 3, (56, 1, 1, 2), 0, 0, [])) none) (cond (Nat.beq i 112) (some (.lreturn, 1, (0, 0, 0, 0), 0, 0, [])) none)))) (cond (Nat.ble i 120) (cond (Nat.ble i 114) (cond (Nat.ble i 113) (cond (Nat.beq i 113) (some (.aload_n 0, 1, (0, 0, 0, 0), 0, 0, [])) none) (cond (Nat.beq i 114) (some (.getfield 68, 3, (4, 9, 1, 2), 0, 0, [])) none)) (cond (Nat.ble i 117) (cond (Nat.beq i 117) (some (.getfield 131, 3, (2, 2, 3, 8), 0, 0, [])) none) (cond (Nat.beq i 120) (some (.iload_n 2, 1, (2, 0, 0, 0), 0, 0, [])) none))) (cond (Nat.ble i 122) (cond (Nat.ble i 121) (cond (Nat.beq i 121) (some (.iload_n 3, 1, (3, 0, 0, 0), 0, 0, [])) none) (cond (Nat.beq i 122) (some (.invokestatic 140, 3, (68, 2, 2, 1), 0, 0, [])) none)) (cond (Nat.ble i 125) (cond (Nat.beq i 125) (some (.invokestatic 272, 3, (71, 2, 2, 2), 0, 0, [])) none) (cond (Nat.beq i 128) (some (.lreturn, 1, (0, 0, 0, 0), 0, 0, [])) none))))))
/-- X_trace -/
def pd_k48 (i : Nat) : Option pd_O := cond (Nat.ble i 39) (cond (Nat.ble i 17) (cond (Nat.ble i 8) (cond (Nat.ble i 1) (cond (Nat.ble i 0) (cond (Nat.beq i 0) (some (.aload_n 0, 1, (0, 0, 0, 0), 0, 0, [])) none) (cond (Nat.beq i 1) (some (.iload_n 1, 1, (1, 0, 0, 0), 0, 0, [])) none)) (cond (Nat.ble i 2) (cond (Nat.beq i 2) (some (.invokevirtual 213, 3, (61, 2, 2, 2305), 0, 0, [])) none) (cond (Nat.ble i 5) (cond (Nat.beq i 5) (some (.ifCond .eq 29, 3, (34, 0, 0, 0), 0, 0, [])) none) (cond (Nat.beq i 8) (some (.iload_n 3, 1, (3, 0, 0, 0), 0, 0, [])) none)))) (cond (Nat.ble i 12) (cond (Nat.ble i 9) (cond (Nat.beq i 9) (some (.ifCond .lt 25, 3, (34, 0, 0, 0), 0, 0, [])) none) (cond (Nat.beq i 12) (some (.iload_n 3, 1, (3, 0, 0, 0), 0, 0, [])) none)) (cond (Nat.ble i 13) (cond (Nat.beq i 13) (some (.iconst 1, 1, (0, 0, 0, 0), 1, 0, [])) none) (cond (Nat.ble i 14) (cond (Nat.beq i 14) (some (.if_icmp .gt 20, 3, (34, 0, 0, 0), 0, 0, [])) none) (cond (Nat.beq i 17) (some (.iload_n 2, 1, (2, 0, 0, 0), 0, 0, [])) none))))) (cond (Nat.ble i 26) (cond (Nat.ble i 21) (cond (Nat.ble i 18) (cond (Nat.beq i 18) (some (.ifCond .lt 16, 3, (34, 0, 0, 0), 0, 0, [])) none) (cond (Nat.beq i 21) (some (.iload_n 2, 1, (2, 0, 0, 0), 0, 0, [])) none)) (cond (Nat.ble i 22) (cond (Nat.beq i 22) (some (.aload_n 0, 1, (0, 0, 0, 0), 0, 0, [])) none) (cond (Nat.ble i 23) (cond (Nat.beq i 23) (some (.getfield 19, 3, (2, 9, 7, 0), 0, 0, [])) none) (cond (Nat.beq i 26) (some (.getfield 161, 3, (2, 0, 2, 20), 0, 0, [])) none)))) (cond (Nat.ble i 31) (cond (Nat.ble i 29) (cond (Nat.beq i 29) (some (.iload_n 1, 1, (1, 0, 0, 0), 0, 0, [])) none) (cond (Nat.ble i 30) (cond (Nat.beq i 30) (some (.iaload, 1, (0, 0, 0, 0), 0, 0, [])) none) (cond (Nat.beq i 31) (some (.if_icmp .lt 9, 3, (40, 0, 0, 0), 0, 0, [])) none))) (cond (Nat.ble i 34) (cond (Nat.beq i 34) (some (.bipush (-2), 2, (0, 0, 0, 0), -2, 0, [])) none) (cond (Nat.ble i 36) (cond (Nat.beq i 36) (some (.invokestatic 111, 3, (56, 1, 1, 2), 0, 0, [])) none) (cond (Nat.beq i 39) (some (.lreturn, 1, (0, 0, 0, 0), 0, 0, [])) none)))))) (cond (Nat.ble i 58) (cond (Nat.ble i 48) (cond (Nat.ble i 41) (cond (Nat.ble i 40) (cond (Nat.beq i 40) (some (.aload_n 0, 1, (0, 0, 0, 0), 0, 0, [])) none) (cond (Nat.beq i 41) (some (.iload_n 1, 1, (1, 0, 0, 0), 0, 0, [])) none)) (cond (Nat.ble i 42) (cond (Nat.beq i 42) (some (.invokevirtual 251, 3, (62, 2, 2, 2305), 0, 0, [])) none) (cond (Nat.ble i 45) (cond (Nat.beq i 45) (some (.ifCond .ne 9, 3, (54, 0, 0, 0), 0, 0, [])) none) (cond (Nat.beq i 48) (some (.bipush (-3), 2, (0, 0, 0, 0), -3, 0, [])) none)))) (cond (Nat.ble i 53) (cond (Nat.ble i 50) (cond (Nat.beq i 50) (some (.invokestatic 111, 3, (56, 1, 1, 2), 0, 0, [])) none) (cond (Nat.beq i 53) (some (.lreturn, 1, (0, 0, 0, 0), 0, 0, [])) none)) (cond (Nat.ble i 54) (cond (Nat.beq i 54) (some (.iload_n 3, 1, (3, 0, 0, 0), 0, 0, [])) none) (cond (Nat.ble i 55) (cond (Nat.beq i 55) (some (.ifCond .ne 13, 3, (68, 0, 0, 0), 0, 0, [])) none) (cond (Nat.beq i 58) (some (.aload_n 0, 1, (0, 0, 0, 0), 0, 0, [])) none))))) (cond (Nat.ble i 69) (cond (Nat.ble i 62) (cond (Nat.ble i 59) (cond (Nat.beq i 59) (some (.getfield 64, 3, (4, 9, 0, 2), 0, 0, [])) none) (cond (Nat.beq i 62) (some (.getfield 276, 3, (2, 2, 11, 8), 0, 0, [])) none)) (cond (Nat.ble i 65) (cond (Nat.beq i 65) (some (.goto 10, 3, (75, 0, 0, 0), 0, 0, [])) none) (cond (Nat.ble i 68) (cond (Nat.beq i 68) (some (.aload_n 0, 1, (0, 0, 0, 0), 0, 0, [])) none) (cond (Nat.beq i 69) (some (.getfield 64, 3, (4, 9, 0, 2), 0, 0, [])) none)))) (cond (Nat.ble i 76) (cond (Nat.ble i 72) (cond (Nat.beq i 72) (some (.getfield 279, 3, (2, 2, 8, 8), 0, 0, [])) none) (cond (Nat.ble i 75) (cond (Nat.beq i 75) (some (.iload_n 1, 1, (1, 0, 0, 0), 0, 0, [])) none) (cond (Nat.beq i 76) (some (.iload_n 2, 1, (2, 0, 0, 0), 0, 0, [])) none))) (cond (Nat.ble i 77) (cond (Nat.beq i 77) (some (.invokestatic 282, 3, (69, 2, 2, 1), 0, 0, [])) none) (cond (Nat.ble i 80) (cond (Nat.beq i 80) (some (.invokestatic 272, 3, (71, 2, 2, 2), 0, 0, [])) none) (cond (Nat.beq i 83) (some (.lreturn, 1, (0, 0, 0, 0), 0, 0, [])) none))))))
/-- X_prune -/
def pd_k49 (i : Nat) : Option pd_O := cond (Nat.ble i 31) (cond (Nat.ble i 12) (cond (Nat.ble i 3) (cond (Nat.ble i 1) (cond (Nat.ble i 0) (cond (Nat.beq i 0) (some (.iconst 0, 1, (0, 0, 0, 0), 0, 0, [])) none) (cond (Nat.beq i 1) (some (.istore_n 1, 1, (1, 0, 0, 0), 0, 0, [])) none)) (cond (Nat.ble i 2) (cond (Nat.beq i 2) (some (.iconst 0, 1, (0, 0, 0, 0), 0, 0, [])) none) (cond (Nat.beq i 3) (some (.istore_n 2, 1, (2, 0, 0, 0), 0, 0, [])) none))) (cond (Nat.ble i 5) (cond (Nat.ble i 4) (cond (Nat.beq i 4) (some (.iload_n 2, 1, (2, 0, 0, 0), 0, 0, [])) none) (cond (Nat.beq i 5) (some (.aload_n 0, 1, (0, 0, 0, 0), 0, 0, [])) none)) (cond (Nat.ble i 6) (cond (Nat.beq i 6) (some (.getfield 64, 3, (4, 9, 0, 2), 0, 0, [])) none) (cond (Nat.ble i 9) (cond (Nat.beq i 9) (some (.getfield 234, 3, (2, 2, 1, 4), 0, 0, [])) none) (cond (Nat.beq i 12) (some (.getfield 241, 3, (0, 4, 1, 0), 0, 0, [])) none))))) (cond (Nat.ble i 22) (cond (Nat.ble i 18) (cond (Nat.ble i 15) (cond (Nat.beq i 15) (some (.if_icmp .ge 42, 3, (57, 0, 0, 0), 0, 0, [])) none) (cond (Nat.beq i 18) (some (.aload_n 0, 1, (0, 0, 0, 0), 0, 0, [])) none)) (cond (Nat.ble i 19) (cond (Nat.beq i 19) (some (.getfield 64, 3, (4, 9, 0, 2), 0, 0, [])) none) (cond (Nat.beq i 22) (some (.getfield 234, 3, (2, 2, 1, 4), 0, 0, [])) none))) (cond (Nat.ble i 28) (cond (Nat.ble i 25) (cond (Nat.beq i 25) (some (.getfield 242, 3, (2, 4, 1, 20), 0, 0, [])) none) (cond (Nat.beq i 28) (some (.iload_n 2, 1, (2, 0, 0, 0), 0, 0, [])) none)) (cond (Nat.ble i 29) (cond (Nat.beq i 29) (some (.iaload, 1, (0, 0, 0, 0), 0, 0, [])) none) (cond (Nat.ble i 30) (cond (Nat.beq i 30) (some (.istore_n 3, 1, (3, 0, 0, 0), 0, 0, [])) none) (cond (Nat.beq i 31) (some (.iload_n 1, 1, (1, 0, 0, 0), 0, 0, [])) none)))))) (cond (Nat.ble i 46) (cond (Nat.ble i 37) (cond (Nat.ble i 33) (cond (Nat.ble i 32) (cond (Nat.beq i 32) (some (.aload_n 0, 1, (0, 0, 0, 0), 0, 0, [])) none) (cond (Nat.beq i 33) (some (.getfield 19, 3, (2, 9, 7, 0), 0, 0, [])) none)) (cond (Nat.ble i 36) (cond (Nat.beq i 36) (some (.iload_n 3, 1, (3, 0, 0, 0), 0, 0, [])) none) (cond (Nat.beq i 37) (some (.aload_n 0, 1, (0, 0, 0, 0), 0, 0, [])) none))) (cond (Nat.ble i 41) (cond (Nat.ble i 38) (cond (Nat.beq i 38) (some (.getfield 64, 3, (4, 9, 0, 2), 0, 0, [])) none) (cond (Nat.beq i 41) (some (.getfield 285, 3, (2, 2, 15, 20), 0, 0, [])) none)) (cond (Nat.ble i 44) (cond (Nat.beq i 44) (some (.iload_n 3, 1, (3, 0, 0, 0), 0, 0, [])) none) (cond (Nat.ble i 45) (cond (Nat.beq i 45) (some (.iaload, 1, (0, 0, 0, 0), 0, 0, [])) none) (cond (Nat.beq i 46) (some (.invokevirtual 288, 3, (2, 3, 6, 1), 0, 0, [])) none))))) (cond (Nat.ble i 54) (cond (Nat.ble i 50) (cond (Nat.ble i 49) (cond (Nat.beq i 49) (some (.iadd, 1, (0, 0, 0, 0), 0, 0, [])) none) (cond (Nat.beq i 50) (some (.istore_n 1, 1, (1, 0, 0, 0), 0, 0, [])) none)) (cond (Nat.ble i 51) (cond (Nat.beq i 51) (some (.iinc 2 1, 3, (2, 0, 0, 0), 1, 0, [])) none) (cond (Nat.beq i 54) (some (.goto (-50), 3, (4, 0, 0, 0), 0, 0, [])) none))) (cond (Nat.ble i 58) (cond (Nat.ble i 57) (cond (Nat.beq i 57) (some (.aload_n 0, 1, (0, 0, 0, 0), 0, 0, [])) none) (cond (Nat.beq i 58) (some (.getfield 64, 3, (4, 9, 0, 2), 0, 0, [])) none)) (cond (Nat.ble i 61) (cond (Nat.beq i 61) (some (.invokevirtual 98, 3, (8, 1, 4, 512), 0, 0, [])) none) (cond (Nat.ble i 64) (cond (Nat.beq i 64) (some (.iload_n 1, 1, (1, 0, 0, 0), 0, 0, [])) none) (cond (Nat.beq i 65) (some (.ireturn, 1, (0, 0, 0, 0), 0, 0, [])) none))))))
/-- X_blame -/
def pd_k50 (i : Nat) : Option pd_O := cond (Nat.ble i 11) (cond (Nat.ble i 3) (cond (Nat.ble i 1) (cond (Nat.ble i 0) (cond (Nat.beq i 0) (some (.aload_n 0, 1, (0, 0, 0, 0), 0, 0, [])) none) (cond (Nat.beq i 1) (some (.iload_n 1, 1, (1, 0, 0, 0), 0, 0, [])) none)) (cond (Nat.ble i 2) (cond (Nat.beq i 2) (some (.iload_n 2, 1, (2, 0, 0, 0), 0, 0, [])) none) (cond (Nat.beq i 3) (some (.invokevirtual 127, 3, (57, 3, 4, 2305), 0, 0, [])) none))) (cond (Nat.ble i 7) (cond (Nat.ble i 6) (cond (Nat.beq i 6) (some (.istore_n 3, 1, (3, 0, 0, 0), 0, 0, [])) none) (cond (Nat.beq i 7) (some (.iload_n 3, 1, (3, 0, 0, 0), 0, 0, [])) none)) (cond (Nat.ble i 8) (cond (Nat.beq i 8) (some (.ifCond .eq 7, 3, (15, 0, 0, 0), 0, 0, [])) none) (cond (Nat.beq i 11) (some (.iload_n 3, 1, (3, 0, 0, 0), 0, 0, [])) none)))) (cond (Nat.ble i 19) (cond (Nat.ble i 15) (cond (Nat.ble i 12) (cond (Nat.beq i 12) (some (.goto 16, 3, (28, 0, 0, 0), 0, 0, [])) none) (cond (Nat.beq i 15) (some (.aload_n 0, 1, (0, 0, 0, 0), 0, 0, [])) none)) (cond (Nat.ble i 16) (cond (Nat.beq i 16) (some (.getfield 64, 3, (4, 9, 0, 2), 0, 0, [])) none) (cond (Nat.beq i 19) (some (.getfield 291, 3, (2, 2, 6, 20), 0, 0, [])) none))) (cond (Nat.ble i 23) (cond (Nat.ble i 22) (cond (Nat.beq i 22) (some (.iload_n 1, 1, (1, 0, 0, 0), 0, 0, [])) none) (cond (Nat.beq i 23) (some (.iload_n 2, 1, (2, 0, 0, 0), 0, 0, [])) none)) (cond (Nat.ble i 24) (cond (Nat.beq i 24) (some (.invokestatic 140, 3, (68, 2, 2, 1), 0, 0, [])) none) (cond (Nat.ble i 27) (cond (Nat.beq i 27) (some (.iaload, 1, (0, 0, 0, 0), 0, 0, [])) none) (cond (Nat.beq i 28) (some (.ireturn, 1, (0, 0, 0, 0), 0, 0, [])) none)))))
/-- X_since -/
def pd_k51 (i : Nat) : Option pd_O := cond (Nat.ble i 11) (cond (Nat.ble i 3) (cond (Nat.ble i 1) (cond (Nat.ble i 0) (cond (Nat.beq i 0) (some (.aload_n 0, 1, (0, 0, 0, 0), 0, 0, [])) none) (cond (Nat.beq i 1) (some (.iload_n 1, 1, (1, 0, 0, 0), 0, 0, [])) none)) (cond (Nat.ble i 2) (cond (Nat.beq i 2) (some (.iload_n 2, 1, (2, 0, 0, 0), 0, 0, [])) none) (cond (Nat.beq i 3) (some (.invokevirtual 127, 3, (57, 3, 4, 2305), 0, 0, [])) none))) (cond (Nat.ble i 7) (cond (Nat.ble i 6) (cond (Nat.beq i 6) (some (.istore_n 3, 1, (3, 0, 0, 0), 0, 0, [])) none) (cond (Nat.beq i 7) (some (.iload_n 3, 1, (3, 0, 0, 0), 0, 0, [])) none)) (cond (Nat.ble i 8) (cond (Nat.beq i 8) (some (.ifCond .eq 7, 3, (15, 0, 0, 0), 0, 0, [])) none) (cond (Nat.beq i 11) (some (.iload_n 3, 1, (3, 0, 0, 0), 0, 0, [])) none)))) (cond (Nat.ble i 19) (cond (Nat.ble i 15) (cond (Nat.ble i 12) (cond (Nat.beq i 12) (some (.goto 15, 3, (27, 0, 0, 0), 0, 0, [])) none) (cond (Nat.beq i 15) (some (.aload_n 0, 1, (0, 0, 0, 0), 0, 0, [])) none)) (cond (Nat.ble i 16) (cond (Nat.beq i 16) (some (.getfield 64, 3, (4, 9, 0, 2), 0, 0, [])) none) (cond (Nat.beq i 19) (some (.iload_n 1, 1, (1, 0, 0, 0), 0, 0, [])) none))) (cond (Nat.ble i 21) (cond (Nat.ble i 20) (cond (Nat.beq i 20) (some (.iload_n 2, 1, (2, 0, 0, 0), 0, 0, [])) none) (cond (Nat.beq i 21) (some (.invokestatic 140, 3, (68, 2, 2, 1), 0, 0, [])) none)) (cond (Nat.ble i 24) (cond (Nat.beq i 24) (some (.invokevirtual 294, 3, (17, 2, 8, 513), 0, 0, [])) none) (cond (Nat.beq i 27) (some (.ireturn, 1, (0, 0, 0, 0), 0, 0, [])) none))))
/-- X_settle -/
def pd_k52 (i : Nat) : Option pd_O := cond (Nat.ble i 33) (cond (Nat.ble i 15) (cond (Nat.ble i 7) (cond (Nat.ble i 1) (cond (Nat.ble i 0) (cond (Nat.beq i 0) (some (.aload_n 0, 1, (0, 0, 0, 0), 0, 0, [])) none) (cond (Nat.beq i 1) (some (.getfield 64, 3, (4, 9, 0, 2), 0, 0, [])) none)) (cond (Nat.ble i 4) (cond (Nat.beq i 4) (some (.getfield 234, 3, (2, 2, 1, 4), 0, 0, [])) none) (cond (Nat.beq i 7) (some (.getfield 241, 3, (0, 4, 1, 0), 0, 0, [])) none))) (cond (Nat.ble i 11) (cond (Nat.ble i 10) (cond (Nat.beq i 10) (some (.istore_n 1, 1, (1, 0, 0, 0), 0, 0, [])) none) (cond (Nat.beq i 11) (some (.aload_n 0, 1, (0, 0, 0, 0), 0, 0, [])) none)) (cond (Nat.ble i 12) (cond (Nat.beq i 12) (some (.getfield 12, 3, (2, 9, 1, 5), 0, 0, [])) none) (cond (Nat.beq i 15) (some (.getfield 154, 3, (2, 5, 3, 8), 0, 0, [])) none)))) (cond (Nat.ble i 25) (cond (Nat.ble i 19) (cond (Nat.ble i 18) (cond (Nat.beq i 18) (some (.aload_n 0, 1, (0, 0, 0, 0), 0, 0, [])) none) (cond (Nat.beq i 19) (some (.getfield 64, 3, (4, 9, 0, 2), 0, 0, [])) none)) (cond (Nat.ble i 22) (cond (Nat.beq i 22) (some (.getfield 131, 3, (2, 2, 3, 8), 0, 0, [])) none) (cond (Nat.beq i 25) (some (.invokevirtual 297, 3, (35, 2, 4, 2048), 0, 0, [])) none))) (cond (Nat.ble i 29) (cond (Nat.ble i 28) (cond (Nat.beq i 28) (some (.aload_n 0, 1, (0, 0, 0, 0), 0, 0, [])) none) (cond (Nat.beq i 29) (some (.getfield 19, 3, (2, 9, 7, 0), 0, 0, [])) none)) (cond (Nat.ble i 32) (cond (Nat.beq i 32) (some (.iconst 0, 1, (0, 0, 0, 0), 0, 0, [])) none) (cond (Nat.beq i 33) (some (.putfield 222, 3, (0, 0, 2, 0), 0, 0, [])) none))))) (cond (Nat.ble i 49) (cond (Nat.ble i 41) (cond (Nat.ble i 37) (cond (Nat.ble i 36) (cond (Nat.beq i 36) (some (.aload_n 0, 1, (0, 0, 0, 0), 0, 0, [])) none) (cond (Nat.beq i 37) (some (.iconst 0, 1, (0, 0, 0, 0), 0, 0, [])) none)) (cond (Nat.ble i 38) (cond (Nat.beq i 38) (some (.putfield 55, 3, (0, 9, 7, 0), 0, 0, [])) none) (cond (Nat.beq i 41) (some (.aload_n 0, 1, (0, 0, 0, 0), 0, 0, [])) none))) (cond (Nat.ble i 45) (cond (Nat.ble i 42) (cond (Nat.beq i 42) (some (.getfield 47, 3, (2, 9, 17, 4), 0, 0, [])) none) (cond (Nat.beq i 45) (some (.iconst 0, 1, (0, 0, 0, 0), 0, 0, [])) none)) (cond (Nat.ble i 46) (cond (Nat.beq i 46) (some (.putfield 241, 3, (0, 4, 1, 0), 0, 0, [])) none) (cond (Nat.beq i 49) (some (.aload_n 0, 1, (0, 0, 0, 0), 0, 0, [])) none)))) (cond (Nat.ble i 57) (cond (Nat.ble i 53) (cond (Nat.ble i 50) (cond (Nat.beq i 50) (some (.getfield 64, 3, (4, 9, 0, 2), 0, 0, [])) none) (cond (Nat.beq i 53) (some (.getfield 234, 3, (2, 2, 1, 4), 0, 0, [])) none)) (cond (Nat.ble i 56) (cond (Nat.beq i 56) (some (.iconst 0, 1, (0, 0, 0, 0), 0, 0, [])) none) (cond (Nat.beq i 57) (some (.putfield 241, 3, (0, 4, 1, 0), 0, 0, [])) none))) (cond (Nat.ble i 61) (cond (Nat.ble i 60) (cond (Nat.beq i 60) (some (.aload_n 0, 1, (0, 0, 0, 0), 0, 0, [])) none) (cond (Nat.beq i 61) (some (.getfield 64, 3, (4, 9, 0, 2), 0, 0, [])) none)) (cond (Nat.ble i 64) (cond (Nat.beq i 64) (some (.invokevirtual 98, 3, (8, 1, 4, 512), 0, 0, [])) none) (cond (Nat.ble i 67) (cond (Nat.beq i 67) (some (.iload_n 1, 1, (1, 0, 0, 0), 0, 0, [])) none) (cond (Nat.beq i 68) (some (.ireturn, 1, (0, 0, 0, 0), 0, 0, [])) none))))))
/-- X_fault -/
def pd_k53 (i : Nat) : Option pd_O := cond (Nat.ble i 33) (cond (Nat.ble i 28) (cond (Nat.ble i 0) (cond (Nat.beq i 0) (some (.iload_n 1, 1, (1, 0, 0, 0), 0, 0, [])) none) (cond (Nat.ble i 1) (cond (Nat.beq i 1) (some (.tableswitch 42 0 2 #[27, 32, 37], 27, (43, 0, 0, 0), 0, 0, [(0, 28), (1, 33), (2, 38)])) none) (cond (Nat.beq i 28) (some (.aload_n 0, 1, (0, 0, 0, 0), 0, 0, [])) none))) (cond (Nat.ble i 29) (cond (Nat.beq i 29) (some (.getfield 74, 3, (0, 9, 11, 0), 0, 0, [])) none) (cond (Nat.ble i 32) (cond (Nat.beq i 32) (some (.ireturn, 1, (0, 0, 0, 0), 0, 0, [])) none) (cond (Nat.beq i 33) (some (.aload_n 0, 1, (0, 0, 0, 0), 0, 0, [])) none)))) (cond (Nat.ble i 38) (cond (Nat.ble i 34) (cond (Nat.beq i 34) (some (.getfield 77, 3, (0, 9, 12, 0), 0, 0, [])) none) (cond (Nat.ble i 37) (cond (Nat.beq i 37) (some (.ireturn, 1, (0, 0, 0, 0), 0, 0, [])) none) (cond (Nat.beq i 38) (some (.aload_n 0, 1, (0, 0, 0, 0), 0, 0, [])) none))) (cond (Nat.ble i 42) (cond (Nat.ble i 39) (cond (Nat.beq i 39) (some (.getfield 80, 3, (0, 9, 13, 0), 0, 0, [])) none) (cond (Nat.beq i 42) (some (.ireturn, 1, (0, 0, 0, 0), 0, 0, [])) none)) (cond (Nat.ble i 43) (cond (Nat.beq i 43) (some (.bipush (-2), 2, (0, 0, 0, 0), -2, 0, [])) none) (cond (Nat.beq i 45) (some (.ireturn, 1, (0, 0, 0, 0), 0, 0, [])) none))))
/-- X_count -/
def pd_k54 (i : Nat) : Option pd_O := cond (Nat.ble i 99) (cond (Nat.ble i 74) (cond (Nat.ble i 12) (cond (Nat.ble i 4) (cond (Nat.ble i 0) (cond (Nat.beq i 0) (some (.aload_n 0, 1, (0, 0, 0, 0), 0, 0, [])) none) (cond (Nat.ble i 1) (cond (Nat.beq i 1) (some (.getfield 64, 3, (4, 9, 0, 2), 0, 0, [])) none) (cond (Nat.beq i 4) (some (.getfield 234, 3, (2, 2, 1, 4), 0, 0, [])) none))) (cond (Nat.ble i 10) (cond (Nat.ble i 7) (cond (Nat.beq i 7) (some (.getfield 241, 3, (0, 4, 1, 0), 0, 0, [])) none) (cond (Nat.beq i 10) (some (.istore_n 2, 1, (2, 0, 0, 0), 0, 0, [])) none)) (cond (Nat.ble i 11) (cond (Nat.beq i 11) (some (.iload_n 1, 1, (1, 0, 0, 0), 0, 0, [])) none) (cond (Nat.beq i 12) (some (.tableswitch 138 0 8 #[52, 60, 62, 73, 81, 86, 105, 110, 115], 52, (150, 0, 0, 0), 0, 0, [(0, 64), (1, 72), (2, 74), (3, 85), (4, 93), (5, 98), (6, 117), (7, 122), (8, 127)])) none)))) (cond (Nat.ble i 68) (cond (Nat.ble i 64) (cond (Nat.beq i 64) (some (.aload_n 0, 1, (0, 0, 0, 0), 0, 0, [])) none) (cond (Nat.ble i 65) (cond (Nat.beq i 65) (some (.getfield 19, 3, (2, 9, 7, 0), 0, 0, [])) none) (cond (Nat.beq i 68) (some (.getfield 222, 3, (0, 0, 2, 0), 0, 0, [])) none))) (cond (Nat.ble i 72) (cond (Nat.ble i 71) (cond (Nat.beq i 71) (some (.ireturn, 1, (0, 0, 0, 0), 0, 0, [])) none) (cond (Nat.beq i 72) (some (.iload_n 2, 1, (2, 0, 0, 0), 0, 0, [])) none)) (cond (Nat.ble i 73) (cond (Nat.beq i 73) (some (.ireturn, 1, (0, 0, 0, 0), 0, 0, [])) none) (cond (Nat.beq i 74) (some (.aload_n 0, 1, (0, 0, 0, 0), 0, 0, [])) none))))) (cond (Nat.ble i 86) (cond (Nat.ble i 81) (cond (Nat.ble i 75) (cond (Nat.beq i 75) (some (.getfield 19, 3, (2, 9, 7, 0), 0, 0, [])) none) (cond (Nat.ble i 78) (cond (Nat.beq i 78) (some (.getfield 161, 3, (2, 0, 2, 20), 0, 0, [])) none) (cond (Nat.beq i 81) (some (.bipush 24, 2, (0, 0, 0, 0), 24, 0, [])) none))) (cond (Nat.ble i 84) (cond (Nat.ble i 83) (cond (Nat.beq i 83) (some (.iaload, 1, (0, 0, 0, 0), 0, 0, [])) none) (cond (Nat.beq i 84) (some (.ireturn, 1, (0, 0, 0, 0), 0, 0, [])) none)) (cond (Nat.ble i 85) (cond (Nat.beq i 85) (some (.aload_n 0, 1, (0, 0, 0, 0), 0, 0, [])) none) (cond (Nat.beq i 86) (some (.getfield 47, 3, (2, 9, 17, 4), 0, 0, [])) none)))) (cond (Nat.ble i 93) (cond (Nat.ble i 89) (cond (Nat.beq i 89) (some (.getfield 241, 3, (0, 4, 1, 0), 0, 0, [])) none) (cond (Nat.ble i 92) (cond (Nat.beq i 92) (some (.ireturn, 1, (0, 0, 0, 0), 0, 0, [])) none) (cond (Nat.beq i 93) (some (.aload_n 0, 1, (0, 0, 0, 0), 0, 0, [])) none))) (cond (Nat.ble i 97) (cond (Nat.ble i 94) (cond (Nat.beq i 94) (some (.getfield 55, 3, (0, 9, 7, 0), 0, 0, [])) none) (cond (Nat.beq i 97) (some (.ireturn, 1, (0, 0, 0, 0), 0, 0, [])) none)) (cond (Nat.ble i 98) (cond (Nat.beq i 98) (some (.aload_n 0, 1, (0, 0, 0, 0), 0, 0, [])) none) (cond (Nat.beq i 99) (some (.aload_n 0, 1, (0, 0, 0, 0), 0, 0, [])) none)))))) (cond (Nat.ble i 127) (cond (Nat.ble i 116) (cond (Nat.ble i 106) (cond (Nat.ble i 100) (cond (Nat.beq i 100) (some (.getfield 64, 3, (4, 9, 0, 2), 0, 0, [])) none) (cond (Nat.ble i 103) (cond (Nat.beq i 103) (some (.getfield 131, 3, (2, 2, 3, 8), 0, 0, [])) none) (cond (Nat.beq i 106) (some (.aload_n 0, 1, (0, 0, 0, 0), 0, 0, [])) none))) (cond (Nat.ble i 110) (cond (Nat.ble i 107) (cond (Nat.beq i 107) (some (.getfield 12, 3, (2, 9, 1, 5), 0, 0, [])) none) (cond (Nat.beq i 110) (some (.getfield 154, 3, (2, 5, 3, 8), 0, 0, [])) none)) (cond (Nat.ble i 113) (cond (Nat.beq i 113) (some (.invokevirtual 303, 3, (73, 3, 5, 2305), 0, 0, [])) none) (cond (Nat.beq i 116) (some (.ireturn, 1, (0, 0, 0, 0), 0, 0, [])) none)))) (cond (Nat.ble i 121) (cond (Nat.ble i 117) (cond (Nat.beq i 117) (some (.aload_n 0, 1, (0, 0, 0, 0), 0, 0, [])) none) (cond (Nat.ble i 118) (cond (Nat.beq i 118) (some (.invokevirtual 310, 3, (64, 1, 3, 2305), 0, 0, [])) none) (cond (Nat.beq i 121) (some (.ireturn, 1, (0, 0, 0, 0), 0, 0, [])) none))) (cond (Nat.ble i 123) (cond (Nat.ble i 122) (cond (Nat.beq i 122) (some (.aload_n 0, 1, (0, 0, 0, 0), 0, 0, [])) none) (cond (Nat.beq i 123) (some (.invokevirtual 313, 3, (65, 1, 3, 2305), 0, 0, [])) none)) (cond (Nat.ble i 126) (cond (Nat.beq i 126) (some (.ireturn, 1, (0, 0, 0, 0), 0, 0, [])) none) (cond (Nat.beq i 127) (some (.iload_n 2, 1, (2, 0, 0, 0), 0, 0, [])) none))))) (cond (Nat.ble i 142) (cond (Nat.ble i 132) (cond (Nat.ble i 128) (cond (Nat.beq i 128) (some (.ifCond .ne 7, 3, (135, 0, 0, 0), 0, 0, [])) none) (cond (Nat.ble i 131) (cond (Nat.beq i 131) (some (.iconst (-1), 1, (0, 0, 0, 0), -1, 0, [])) none) (cond (Nat.beq i 132) (some (.goto 17, 3, (149, 0, 0, 0), 0, 0, [])) none))) (cond (Nat.ble i 136) (cond (Nat.ble i 135) (cond (Nat.beq i 135) (some (.aload_n 0, 1, (0, 0, 0, 0), 0, 0, [])) none) (cond (Nat.beq i 136) (some (.getfield 64, 3, (4, 9, 0, 2), 0, 0, [])) none)) (cond (Nat.ble i 139) (cond (Nat.beq i 139) (some (.getfield 234, 3, (2, 2, 1, 4), 0, 0, [])) none) (cond (Nat.beq i 142) (some (.getfield 242, 3, (2, 4, 1, 20), 0, 0, [])) none)))) (cond (Nat.ble i 147) (cond (Nat.ble i 145) (cond (Nat.beq i 145) (some (.iload_n 2, 1, (2, 0, 0, 0), 0, 0, [])) none) (cond (Nat.ble i 146) (cond (Nat.beq i 146) (some (.iconst 1, 1, (0, 0, 0, 0), 1, 0, [])) none) (cond (Nat.beq i 147) (some (.isub, 1, (0, 0, 0, 0), 0, 0, [])) none))) (cond (Nat.ble i 149) (cond (Nat.ble i 148) (cond (Nat.beq i 148) (some (.iaload, 1, (0, 0, 0, 0), 0, 0, [])) none) (cond (Nat.beq i 149) (some (.ireturn, 1, (0, 0, 0, 0), 0, 0, [])) none)) (cond (Nat.ble i 150) (cond (Nat.beq i 150) (some (.bipush (-2), 2, (0, 0, 0, 0), -2, 0, [])) none) (cond (Nat.beq i 152) (some (.ireturn, 1, (0, 0, 0, 0), 0, 0, [])) none))))))
/-- X_findingCode -/
def pd_k55 (i : Nat) : Option pd_O := cond (Nat.ble i 2) (cond (Nat.ble i 0) (cond (Nat.beq i 0) (some (.bipush (-10), 2, (0, 0, 0, 0), -10, 0, [])) none) (cond (Nat.beq i 2) (some (.iload_n 0, 1, (0, 0, 0, 0), 0, 0, [])) none)) (cond (Nat.ble i 3) (cond (Nat.beq i 3) (some (.isub, 1, (0, 0, 0, 0), 0, 0, [])) none) (cond (Nat.beq i 4) (some (.ireturn, 1, (0, 0, 0, 0), 0, 0, [])) none))
/-- X_longError -/
def pd_k56 (i : Nat) : Option pd_O := cond (Nat.ble i 3) (cond (Nat.ble i 0) (cond (Nat.beq i 0) (some (.ldc2_w 373, 3, (0, 0, 0, 0), 0, -9223372036854775808, [])) none) (cond (Nat.beq i 3) (some (.iload_n 0, 1, (0, 0, 0, 0), 0, 0, [])) none)) (cond (Nat.ble i 4) (cond (Nat.beq i 4) (some (.i2l, 1, (0, 0, 0, 0), 0, 0, [])) none) (cond (Nat.ble i 5) (cond (Nat.beq i 5) (some (.lsub, 1, (0, 0, 0, 0), 0, 0, [])) none) (cond (Nat.beq i 6) (some (.lreturn, 1, (0, 0, 0, 0), 0, 0, [])) none)))
/-- X_elementError -/
def pd_k57 (i : Nat) : Option pd_O := cond (Nat.ble i 15) (cond (Nat.ble i 7) (cond (Nat.ble i 1) (cond (Nat.ble i 0) (cond (Nat.beq i 0) (some (.iload_n 1, 1, (1, 0, 0, 0), 0, 0, [])) none) (cond (Nat.beq i 1) (some (.invokestatic 83, 3, (60, 1, 1, 1), 0, 0, [])) none)) (cond (Nat.ble i 4) (cond (Nat.beq i 4) (some (.ifCond .ne 6, 3, (10, 0, 0, 0), 0, 0, [])) none) (cond (Nat.beq i 7) (some (.bipush (-2), 2, (0, 0, 0, 0), -2, 0, [])) none))) (cond (Nat.ble i 10) (cond (Nat.ble i 9) (cond (Nat.beq i 9) (some (.ireturn, 1, (0, 0, 0, 0), 0, 0, [])) none) (cond (Nat.beq i 10) (some (.aload_n 0, 1, (0, 0, 0, 0), 0, 0, [])) none)) (cond (Nat.ble i 11) (cond (Nat.beq i 11) (some (.getfield 12, 3, (2, 9, 1, 5), 0, 0, [])) none) (cond (Nat.ble i 14) (cond (Nat.beq i 14) (some (.iload_n 1, 1, (1, 0, 0, 0), 0, 0, [])) none) (cond (Nat.beq i 15) (some (.iload_n 2, 1, (2, 0, 0, 0), 0, 0, [])) none))))) (cond (Nat.ble i 21) (cond (Nat.ble i 19) (cond (Nat.ble i 16) (cond (Nat.beq i 16) (some (.invokevirtual 375, 3, (25, 3, 4, 1281), 0, 0, [])) none) (cond (Nat.beq i 19) (some (.istore_n 3, 1, (3, 0, 0, 0), 0, 0, [])) none)) (cond (Nat.ble i 20) (cond (Nat.beq i 20) (some (.iload_n 3, 1, (3, 0, 0, 0), 0, 0, [])) none) (cond (Nat.beq i 21) (some (.ifCond .ne 7, 3, (28, 0, 0, 0), 0, 0, [])) none))) (cond (Nat.ble i 25) (cond (Nat.ble i 24) (cond (Nat.beq i 24) (some (.iconst 0, 1, (0, 0, 0, 0), 0, 0, [])) none) (cond (Nat.beq i 25) (some (.goto 7, 3, (32, 0, 0, 0), 0, 0, [])) none)) (cond (Nat.ble i 28) (cond (Nat.beq i 28) (some (.iload_n 3, 1, (3, 0, 0, 0), 0, 0, [])) none) (cond (Nat.ble i 29) (cond (Nat.beq i 29) (some (.invokestatic 90, 3, (55, 1, 1, 1), 0, 0, [])) none) (cond (Nat.beq i 32) (some (.ireturn, 1, (0, 0, 0, 0), 0, 0, [])) none)))))
/-- X_appliedError -/
def pd_k58 (i : Nat) : Option pd_O := cond (Nat.ble i 11) (cond (Nat.ble i 2) (cond (Nat.ble i 0) (cond (Nat.beq i 0) (some (.aload_n 0, 1, (0, 0, 0, 0), 0, 0, [])) none) (cond (Nat.ble i 1) (cond (Nat.beq i 1) (some (.iload_n 1, 1, (1, 0, 0, 0), 0, 0, [])) none) (cond (Nat.beq i 2) (some (.invokevirtual 213, 3, (61, 2, 2, 2305), 0, 0, [])) none))) (cond (Nat.ble i 8) (cond (Nat.ble i 5) (cond (Nat.beq i 5) (some (.ifCond .ne 6, 3, (11, 0, 0, 0), 0, 0, [])) none) (cond (Nat.beq i 8) (some (.bipush (-2), 2, (0, 0, 0, 0), -2, 0, [])) none)) (cond (Nat.ble i 10) (cond (Nat.beq i 10) (some (.ireturn, 1, (0, 0, 0, 0), 0, 0, [])) none) (cond (Nat.beq i 11) (some (.aload_n 0, 1, (0, 0, 0, 0), 0, 0, [])) none)))) (cond (Nat.ble i 16) (cond (Nat.ble i 12) (cond (Nat.beq i 12) (some (.iload_n 1, 1, (1, 0, 0, 0), 0, 0, [])) none) (cond (Nat.ble i 13) (cond (Nat.beq i 13) (some (.invokevirtual 251, 3, (62, 2, 2, 2305), 0, 0, [])) none) (cond (Nat.beq i 16) (some (.ifCond .eq 7, 3, (23, 0, 0, 0), 0, 0, [])) none))) (cond (Nat.ble i 20) (cond (Nat.ble i 19) (cond (Nat.beq i 19) (some (.iconst 0, 1, (0, 0, 0, 0), 0, 0, [])) none) (cond (Nat.beq i 20) (some (.goto 5, 3, (25, 0, 0, 0), 0, 0, [])) none)) (cond (Nat.ble i 23) (cond (Nat.beq i 23) (some (.bipush (-3), 2, (0, 0, 0, 0), -3, 0, [])) none) (cond (Nat.beq i 25) (some (.ireturn, 1, (0, 0, 0, 0), 0, 0, [])) none))))
/-- X_refuse -/
def pd_k59 (i : Nat) : Option pd_O := cond (Nat.ble i 7) (cond (Nat.ble i 2) (cond (Nat.ble i 0) (cond (Nat.beq i 0) (some (.aload_n 0, 1, (0, 0, 0, 0), 0, 0, [])) none) (cond (Nat.ble i 1) (cond (Nat.beq i 1) (some (.iload_n 1, 1, (1, 0, 0, 0), 0, 0, [])) none) (cond (Nat.beq i 2) (some (.putfield 74, 3, (0, 9, 11, 0), 0, 0, [])) none))) (cond (Nat.ble i 5) (cond (Nat.beq i 5) (some (.aload_n 0, 1, (0, 0, 0, 0), 0, 0, [])) none) (cond (Nat.ble i 6) (cond (Nat.beq i 6) (some (.iload_n 2, 1, (2, 0, 0, 0), 0, 0, [])) none) (cond (Nat.beq i 7) (some (.putfield 77, 3, (0, 9, 12, 0), 0, 0, [])) none)))) (cond (Nat.ble i 12) (cond (Nat.ble i 10) (cond (Nat.beq i 10) (some (.aload_n 0, 1, (0, 0, 0, 0), 0, 0, [])) none) (cond (Nat.ble i 11) (cond (Nat.beq i 11) (some (.iload_n 3, 1, (3, 0, 0, 0), 0, 0, [])) none) (cond (Nat.beq i 12) (some (.putfield 80, 3, (0, 9, 13, 0), 0, 0, [])) none))) (cond (Nat.ble i 15) (cond (Nat.beq i 15) (some (.iload_n 3, 1, (3, 0, 0, 0), 0, 0, [])) none) (cond (Nat.ble i 16) (cond (Nat.beq i 16) (some (.invokestatic 90, 3, (55, 1, 1, 1), 0, 0, [])) none) (cond (Nat.beq i 19) (some (.ireturn, 1, (0, 0, 0, 0), 0, 0, [])) none))))
/-- X_isSlot -/
def pd_k60 (i : Nat) : Option pd_O := cond (Nat.ble i 5) (cond (Nat.ble i 1) (cond (Nat.ble i 0) (cond (Nat.beq i 0) (some (.iload_n 0, 1, (0, 0, 0, 0), 0, 0, [])) none) (cond (Nat.beq i 1) (some (.ifCond .lt 13, 3, (14, 0, 0, 0), 0, 0, [])) none)) (cond (Nat.ble i 4) (cond (Nat.beq i 4) (some (.iload_n 0, 1, (0, 0, 0, 0), 0, 0, [])) none) (cond (Nat.beq i 5) (some (.bipush 6, 2, (0, 0, 0, 0), 6, 0, [])) none))) (cond (Nat.ble i 10) (cond (Nat.ble i 7) (cond (Nat.beq i 7) (some (.if_icmp .ge 7, 3, (14, 0, 0, 0), 0, 0, [])) none) (cond (Nat.beq i 10) (some (.iconst 1, 1, (0, 0, 0, 0), 1, 0, [])) none)) (cond (Nat.ble i 11) (cond (Nat.beq i 11) (some (.goto 4, 3, (15, 0, 0, 0), 0, 0, [])) none) (cond (Nat.ble i 14) (cond (Nat.beq i 14) (some (.iconst 0, 1, (0, 0, 0, 0), 0, 0, [])) none) (cond (Nat.beq i 15) (some (.ireturn, 1, (1, 0, 0, 0), 0, 0, [])) none))))
/-- X_isPatch -/
def pd_k61 (i : Nat) : Option pd_O := cond (Nat.ble i 6) (cond (Nat.ble i 1) (cond (Nat.ble i 0) (cond (Nat.beq i 0) (some (.iload_n 1, 1, (1, 0, 0, 0), 0, 0, [])) none) (cond (Nat.beq i 1) (some (.ifCond .lt 18, 3, (19, 0, 0, 0), 0, 0, [])) none)) (cond (Nat.ble i 4) (cond (Nat.beq i 4) (some (.iload_n 1, 1, (1, 0, 0, 0), 0, 0, [])) none) (cond (Nat.ble i 5) (cond (Nat.beq i 5) (some (.aload_n 0, 1, (0, 0, 0, 0), 0, 0, [])) none) (cond (Nat.beq i 6) (some (.getfield 19, 3, (2, 9, 7, 0), 0, 0, [])) none)))) (cond (Nat.ble i 15) (cond (Nat.ble i 9) (cond (Nat.beq i 9) (some (.getfield 222, 3, (0, 0, 2, 0), 0, 0, [])) none) (cond (Nat.ble i 12) (cond (Nat.beq i 12) (some (.if_icmp .ge 7, 3, (19, 0, 0, 0), 0, 0, [])) none) (cond (Nat.beq i 15) (some (.iconst 1, 1, (0, 0, 0, 0), 1, 0, [])) none))) (cond (Nat.ble i 16) (cond (Nat.beq i 16) (some (.goto 4, 3, (20, 0, 0, 0), 0, 0, [])) none) (cond (Nat.ble i 19) (cond (Nat.beq i 19) (some (.iconst 0, 1, (0, 0, 0, 0), 0, 0, [])) none) (cond (Nat.beq i 20) (some (.ireturn, 1, (1, 0, 0, 0), 0, 0, [])) none))))
/-- X_isApplied -/
def pd_k62 (i : Nat) : Option pd_O := cond (Nat.ble i 8) (cond (Nat.ble i 1) (cond (Nat.ble i 0) (cond (Nat.beq i 0) (some (.aload_n 0, 1, (0, 0, 0, 0), 0, 0, [])) none) (cond (Nat.beq i 1) (some (.getfield 64, 3, (4, 9, 0, 2), 0, 0, [])) none)) (cond (Nat.ble i 4) (cond (Nat.beq i 4) (some (.getfield 234, 3, (2, 2, 1, 4), 0, 0, [])) none) (cond (Nat.ble i 7) (cond (Nat.beq i 7) (some (.iload_n 1, 1, (1, 0, 0, 0), 0, 0, [])) none) (cond (Nat.beq i 8) (some (.invokevirtual 378, 3, (20, 2, 3, 1025), 0, 0, [])) none)))) (cond (Nat.ble i 15) (cond (Nat.ble i 11) (cond (Nat.beq i 11) (some (.iconst (-1), 1, (0, 0, 0, 0), -1, 0, [])) none) (cond (Nat.ble i 12) (cond (Nat.beq i 12) (some (.if_icmp .eq 7, 3, (19, 0, 0, 0), 0, 0, [])) none) (cond (Nat.beq i 15) (some (.iconst 1, 1, (0, 0, 0, 0), 1, 0, [])) none))) (cond (Nat.ble i 16) (cond (Nat.beq i 16) (some (.goto 4, 3, (20, 0, 0, 0), 0, 0, [])) none) (cond (Nat.ble i 19) (cond (Nat.beq i 19) (some (.iconst 0, 1, (0, 0, 0, 0), 0, 0, [])) none) (cond (Nat.beq i 20) (some (.ireturn, 1, (1, 0, 0, 0), 0, 0, [])) none))))
/-- X_isInUse -/
def pd_k63 (i : Nat) : Option pd_O := cond (Nat.ble i 21) (cond (Nat.ble i 7) (cond (Nat.ble i 2) (cond (Nat.ble i 0) (cond (Nat.beq i 0) (some (.iconst 0, 1, (0, 0, 0, 0), 0, 0, [])) none) (cond (Nat.ble i 1) (cond (Nat.beq i 1) (some (.istore_n 2, 1, (2, 0, 0, 0), 0, 0, [])) none) (cond (Nat.beq i 2) (some (.iload_n 2, 1, (2, 0, 0, 0), 0, 0, [])) none))) (cond (Nat.ble i 3) (cond (Nat.beq i 3) (some (.aload_n 0, 1, (0, 0, 0, 0), 0, 0, [])) none) (cond (Nat.ble i 4) (cond (Nat.beq i 4) (some (.getfield 64, 3, (4, 9, 0, 2), 0, 0, [])) none) (cond (Nat.beq i 7) (some (.getfield 234, 3, (2, 2, 1, 4), 0, 0, [])) none)))) (cond (Nat.ble i 16) (cond (Nat.ble i 10) (cond (Nat.beq i 10) (some (.getfield 241, 3, (0, 4, 1, 0), 0, 0, [])) none) (cond (Nat.ble i 13) (cond (Nat.beq i 13) (some (.if_icmp .ge 34, 3, (47, 0, 0, 0), 0, 0, [])) none) (cond (Nat.beq i 16) (some (.aload_n 0, 1, (0, 0, 0, 0), 0, 0, [])) none))) (cond (Nat.ble i 17) (cond (Nat.beq i 17) (some (.getfield 19, 3, (2, 9, 7, 0), 0, 0, [])) none) (cond (Nat.ble i 20) (cond (Nat.beq i 20) (some (.aload_n 0, 1, (0, 0, 0, 0), 0, 0, [])) none) (cond (Nat.beq i 21) (some (.getfield 64, 3, (4, 9, 0, 2), 0, 0, [])) none))))) (cond (Nat.ble i 33) (cond (Nat.ble i 30) (cond (Nat.ble i 24) (cond (Nat.beq i 24) (some (.getfield 234, 3, (2, 2, 1, 4), 0, 0, [])) none) (cond (Nat.ble i 27) (cond (Nat.beq i 27) (some (.getfield 242, 3, (2, 4, 1, 20), 0, 0, [])) none) (cond (Nat.beq i 30) (some (.iload_n 2, 1, (2, 0, 0, 0), 0, 0, [])) none))) (cond (Nat.ble i 31) (cond (Nat.beq i 31) (some (.iaload, 1, (0, 0, 0, 0), 0, 0, [])) none) (cond (Nat.ble i 32) (cond (Nat.beq i 32) (some (.iload_n 1, 1, (1, 0, 0, 0), 0, 0, [])) none) (cond (Nat.beq i 33) (some (.invokevirtual 381, 3, (3, 3, 5, 1), 0, 0, [])) none)))) (cond (Nat.ble i 40) (cond (Nat.ble i 36) (cond (Nat.beq i 36) (some (.ifCond .eq 5, 3, (41, 0, 0, 0), 0, 0, [])) none) (cond (Nat.ble i 39) (cond (Nat.beq i 39) (some (.iconst 1, 1, (0, 0, 0, 0), 1, 0, [])) none) (cond (Nat.beq i 40) (some (.ireturn, 1, (1, 0, 0, 0), 0, 0, [])) none))) (cond (Nat.ble i 44) (cond (Nat.ble i 41) (cond (Nat.beq i 41) (some (.iinc 2 1, 3, (2, 0, 0, 0), 1, 0, [])) none) (cond (Nat.beq i 44) (some (.goto (-42), 3, (2, 0, 0, 0), 0, 0, [])) none)) (cond (Nat.ble i 47) (cond (Nat.beq i 47) (some (.iconst 0, 1, (0, 0, 0, 0), 0, 0, [])) none) (cond (Nat.beq i 48) (some (.ireturn, 1, (1, 0, 0, 0), 0, 0, [])) none)))))
/-- X_appliedChanges -/
def pd_k64 (i : Nat) : Option pd_O := cond (Nat.ble i 20) (cond (Nat.ble i 5) (cond (Nat.ble i 2) (cond (Nat.ble i 0) (cond (Nat.beq i 0) (some (.iconst 0, 1, (0, 0, 0, 0), 0, 0, [])) none) (cond (Nat.ble i 1) (cond (Nat.beq i 1) (some (.istore_n 1, 1, (1, 0, 0, 0), 0, 0, [])) none) (cond (Nat.beq i 2) (some (.iconst 0, 1, (0, 0, 0, 0), 0, 0, [])) none))) (cond (Nat.ble i 3) (cond (Nat.beq i 3) (some (.istore_n 2, 1, (2, 0, 0, 0), 0, 0, [])) none) (cond (Nat.ble i 4) (cond (Nat.beq i 4) (some (.iload_n 2, 1, (2, 0, 0, 0), 0, 0, [])) none) (cond (Nat.beq i 5) (some (.aload_n 0, 1, (0, 0, 0, 0), 0, 0, [])) none)))) (cond (Nat.ble i 12) (cond (Nat.ble i 6) (cond (Nat.beq i 6) (some (.getfield 64, 3, (4, 9, 0, 2), 0, 0, [])) none) (cond (Nat.ble i 9) (cond (Nat.beq i 9) (some (.getfield 234, 3, (2, 2, 1, 4), 0, 0, [])) none) (cond (Nat.beq i 12) (some (.getfield 241, 3, (0, 4, 1, 0), 0, 0, [])) none))) (cond (Nat.ble i 18) (cond (Nat.ble i 15) (cond (Nat.beq i 15) (some (.if_icmp .ge 32, 3, (47, 0, 0, 0), 0, 0, [])) none) (cond (Nat.beq i 18) (some (.iload_n 1, 1, (1, 0, 0, 0), 0, 0, [])) none)) (cond (Nat.ble i 19) (cond (Nat.beq i 19) (some (.aload_n 0, 1, (0, 0, 0, 0), 0, 0, [])) none) (cond (Nat.beq i 20) (some (.getfield 19, 3, (2, 9, 7, 0), 0, 0, [])) none))))) (cond (Nat.ble i 37) (cond (Nat.ble i 27) (cond (Nat.ble i 23) (cond (Nat.beq i 23) (some (.getfield 161, 3, (2, 0, 2, 20), 0, 0, [])) none) (cond (Nat.ble i 26) (cond (Nat.beq i 26) (some (.aload_n 0, 1, (0, 0, 0, 0), 0, 0, [])) none) (cond (Nat.beq i 27) (some (.getfield 64, 3, (4, 9, 0, 2), 0, 0, [])) none))) (cond (Nat.ble i 33) (cond (Nat.ble i 30) (cond (Nat.beq i 30) (some (.getfield 234, 3, (2, 2, 1, 4), 0, 0, [])) none) (cond (Nat.beq i 33) (some (.getfield 242, 3, (2, 4, 1, 20), 0, 0, [])) none)) (cond (Nat.ble i 36) (cond (Nat.beq i 36) (some (.iload_n 2, 1, (2, 0, 0, 0), 0, 0, [])) none) (cond (Nat.beq i 37) (some (.iaload, 1, (0, 0, 0, 0), 0, 0, [])) none)))) (cond (Nat.ble i 40) (cond (Nat.ble i 38) (cond (Nat.beq i 38) (some (.iaload, 1, (0, 0, 0, 0), 0, 0, [])) none) (cond (Nat.ble i 39) (cond (Nat.beq i 39) (some (.iadd, 1, (0, 0, 0, 0), 0, 0, [])) none) (cond (Nat.beq i 40) (some (.istore_n 1, 1, (1, 0, 0, 0), 0, 0, [])) none))) (cond (Nat.ble i 44) (cond (Nat.ble i 41) (cond (Nat.beq i 41) (some (.iinc 2 1, 3, (2, 0, 0, 0), 1, 0, [])) none) (cond (Nat.beq i 44) (some (.goto (-40), 3, (4, 0, 0, 0), 0, 0, [])) none)) (cond (Nat.ble i 47) (cond (Nat.beq i 47) (some (.iload_n 1, 1, (1, 0, 0, 0), 0, 0, [])) none) (cond (Nat.beq i 48) (some (.ireturn, 1, (0, 0, 0, 0), 0, 0, [])) none)))))
/-- X_deadChanges -/
def pd_k65 (i : Nat) : Option pd_O := cond (Nat.ble i 23) (cond (Nat.ble i 6) (cond (Nat.ble i 2) (cond (Nat.ble i 0) (cond (Nat.beq i 0) (some (.iconst 0, 1, (0, 0, 0, 0), 0, 0, [])) none) (cond (Nat.ble i 1) (cond (Nat.beq i 1) (some (.istore_n 1, 1, (1, 0, 0, 0), 0, 0, [])) none) (cond (Nat.beq i 2) (some (.iconst 0, 1, (0, 0, 0, 0), 0, 0, [])) none))) (cond (Nat.ble i 4) (cond (Nat.ble i 3) (cond (Nat.beq i 3) (some (.istore_n 2, 1, (2, 0, 0, 0), 0, 0, [])) none) (cond (Nat.beq i 4) (some (.iload_n 2, 1, (2, 0, 0, 0), 0, 0, [])) none)) (cond (Nat.ble i 5) (cond (Nat.beq i 5) (some (.aload_n 0, 1, (0, 0, 0, 0), 0, 0, [])) none) (cond (Nat.beq i 6) (some (.getfield 64, 3, (4, 9, 0, 2), 0, 0, [])) none)))) (cond (Nat.ble i 15) (cond (Nat.ble i 9) (cond (Nat.beq i 9) (some (.getfield 234, 3, (2, 2, 1, 4), 0, 0, [])) none) (cond (Nat.ble i 12) (cond (Nat.beq i 12) (some (.getfield 241, 3, (0, 4, 1, 0), 0, 0, [])) none) (cond (Nat.beq i 15) (some (.if_icmp .ge 35, 3, (50, 0, 0, 0), 0, 0, [])) none))) (cond (Nat.ble i 19) (cond (Nat.ble i 18) (cond (Nat.beq i 18) (some (.iload_n 1, 1, (1, 0, 0, 0), 0, 0, [])) none) (cond (Nat.beq i 19) (some (.aload_n 0, 1, (0, 0, 0, 0), 0, 0, [])) none)) (cond (Nat.ble i 20) (cond (Nat.beq i 20) (some (.getfield 64, 3, (4, 9, 0, 2), 0, 0, [])) none) (cond (Nat.beq i 23) (some (.getfield 285, 3, (2, 2, 15, 20), 0, 0, [])) none))))) (cond (Nat.ble i 38) (cond (Nat.ble i 30) (cond (Nat.ble i 26) (cond (Nat.beq i 26) (some (.aload_n 0, 1, (0, 0, 0, 0), 0, 0, [])) none) (cond (Nat.ble i 27) (cond (Nat.beq i 27) (some (.getfield 64, 3, (4, 9, 0, 2), 0, 0, [])) none) (cond (Nat.beq i 30) (some (.getfield 234, 3, (2, 2, 1, 4), 0, 0, [])) none))) (cond (Nat.ble i 36) (cond (Nat.ble i 33) (cond (Nat.beq i 33) (some (.getfield 242, 3, (2, 4, 1, 20), 0, 0, [])) none) (cond (Nat.beq i 36) (some (.iload_n 2, 1, (2, 0, 0, 0), 0, 0, [])) none)) (cond (Nat.ble i 37) (cond (Nat.beq i 37) (some (.iaload, 1, (0, 0, 0, 0), 0, 0, [])) none) (cond (Nat.beq i 38) (some (.iaload, 1, (0, 0, 0, 0), 0, 0, [])) none)))) (cond (Nat.ble i 43) (cond (Nat.ble i 39) (cond (Nat.beq i 39) (some (.invokestatic 384, 3, (78, 1, 1, 1), 0, 0, [])) none) (cond (Nat.ble i 42) (cond (Nat.beq i 42) (some (.iadd, 1, (0, 0, 0, 0), 0, 0, [])) none) (cond (Nat.beq i 43) (some (.istore_n 1, 1, (1, 0, 0, 0), 0, 0, [])) none))) (cond (Nat.ble i 47) (cond (Nat.ble i 44) (cond (Nat.beq i 44) (some (.iinc 2 1, 3, (2, 0, 0, 0), 1, 0, [])) none) (cond (Nat.beq i 47) (some (.goto (-43), 3, (4, 0, 0, 0), 0, 0, [])) none)) (cond (Nat.ble i 50) (cond (Nat.beq i 50) (some (.iload_n 1, 1, (1, 0, 0, 0), 0, 0, [])) none) (cond (Nat.beq i 51) (some (.ireturn, 1, (0, 0, 0, 0), 0, 0, [])) none)))))
/-- X_carryOut -/
def pd_k66 (i : Nat) : Option pd_O := cond (Nat.ble i 32) (cond (Nat.ble i 14) (cond (Nat.ble i 4) (cond (Nat.ble i 0) (cond (Nat.beq i 0) (some (.aload_n 0, 1, (0, 0, 0, 0), 0, 0, [])) none) (cond (Nat.ble i 1) (cond (Nat.beq i 1) (some (.getfield 68, 3, (4, 9, 1, 2), 0, 0, [])) none) (cond (Nat.beq i 4) (some (.invokevirtual 98, 3, (8, 1, 4, 512), 0, 0, [])) none))) (cond (Nat.ble i 8) (cond (Nat.ble i 7) (cond (Nat.beq i 7) (some (.aload_n 0, 1, (0, 0, 0, 0), 0, 0, [])) none) (cond (Nat.beq i 8) (some (.getfield 68, 3, (4, 9, 1, 2), 0, 0, [])) none)) (cond (Nat.ble i 11) (cond (Nat.beq i 11) (some (.getfield 269, 3, (0, 2, 10, 0), 0, 0, [])) none) (cond (Nat.beq i 14) (some (.ifCond .eq 29, 3, (43, 0, 0, 0), 0, 0, [])) none)))) (cond (Nat.ble i 22) (cond (Nat.ble i 18) (cond (Nat.ble i 17) (cond (Nat.beq i 17) (some (.aload_n 0, 1, (0, 0, 0, 0), 0, 0, [])) none) (cond (Nat.beq i 18) (some (.aload_n 0, 1, (0, 0, 0, 0), 0, 0, [])) none)) (cond (Nat.ble i 19) (cond (Nat.beq i 19) (some (.getfield 68, 3, (4, 9, 1, 2), 0, 0, [])) none) (cond (Nat.beq i 22) (some (.getfield 389, 3, (0, 2, 11, 0), 0, 0, [])) none))) (cond (Nat.ble i 26) (cond (Nat.ble i 25) (cond (Nat.beq i 25) (some (.aload_n 0, 1, (0, 0, 0, 0), 0, 0, [])) none) (cond (Nat.beq i 26) (some (.getfield 68, 3, (4, 9, 1, 2), 0, 0, [])) none)) (cond (Nat.ble i 29) (cond (Nat.beq i 29) (some (.getfield 392, 3, (0, 2, 12, 0), 0, 0, [])) none) (cond (Nat.beq i 32) (some (.aload_n 0, 1, (0, 0, 0, 0), 0, 0, [])) none))))) (cond (Nat.ble i 48) (cond (Nat.ble i 42) (cond (Nat.ble i 36) (cond (Nat.ble i 33) (cond (Nat.beq i 33) (some (.getfield 68, 3, (4, 9, 1, 2), 0, 0, [])) none) (cond (Nat.beq i 36) (some (.getfield 269, 3, (0, 2, 10, 0), 0, 0, [])) none)) (cond (Nat.ble i 39) (cond (Nat.beq i 39) (some (.invokevirtual 228, 3, (59, 4, 4, 2305), 0, 0, [])) none) (cond (Nat.beq i 42) (some (.ireturn, 1, (0, 0, 0, 0), 0, 0, [])) none))) (cond (Nat.ble i 44) (cond (Nat.ble i 43) (cond (Nat.beq i 43) (some (.aload_n 0, 1, (0, 0, 0, 0), 0, 0, [])) none) (cond (Nat.beq i 44) (some (.getfield 64, 3, (4, 9, 0, 2), 0, 0, [])) none)) (cond (Nat.ble i 47) (cond (Nat.beq i 47) (some (.astore_n 1, 1, (1, 0, 0, 0), 0, 0, [])) none) (cond (Nat.beq i 48) (some (.aload_n 0, 1, (0, 0, 0, 0), 0, 0, [])) none)))) (cond (Nat.ble i 56) (cond (Nat.ble i 50) (cond (Nat.ble i 49) (cond (Nat.beq i 49) (some (.aload_n 0, 1, (0, 0, 0, 0), 0, 0, [])) none) (cond (Nat.beq i 50) (some (.getfield 68, 3, (4, 9, 1, 2), 0, 0, [])) none)) (cond (Nat.ble i 53) (cond (Nat.beq i 53) (some (.putfield 64, 3, (4, 9, 0, 2), 0, 0, [])) none) (cond (Nat.beq i 56) (some (.aload_n 0, 1, (0, 0, 0, 0), 0, 0, [])) none))) (cond (Nat.ble i 58) (cond (Nat.ble i 57) (cond (Nat.beq i 57) (some (.aload_n 1, 1, (1, 0, 0, 0), 0, 0, [])) none) (cond (Nat.beq i 58) (some (.putfield 68, 3, (4, 9, 1, 2), 0, 0, [])) none)) (cond (Nat.ble i 61) (cond (Nat.beq i 61) (some (.iconst 0, 1, (0, 0, 0, 0), 0, 0, [])) none) (cond (Nat.beq i 62) (some (.ireturn, 1, (0, 0, 0, 0), 0, 0, [])) none)))))
/-- X_rearranged -/
def pd_k67 (i : Nat) : Option pd_O := cond (Nat.ble i 10) (cond (Nat.ble i 4) (cond (Nat.ble i 0) (cond (Nat.beq i 0) (some (.iload_n 1, 1, (1, 0, 0, 0), 0, 0, [])) none) (cond (Nat.ble i 1) (cond (Nat.beq i 1) (some (.ifCond .eq 5, 3, (6, 0, 0, 0), 0, 0, [])) none) (cond (Nat.beq i 4) (some (.iload_n 1, 1, (1, 0, 0, 0), 0, 0, [])) none))) (cond (Nat.ble i 6) (cond (Nat.ble i 5) (cond (Nat.beq i 5) (some (.ireturn, 1, (0, 0, 0, 0), 0, 0, [])) none) (cond (Nat.beq i 6) (some (.aload_n 0, 1, (0, 0, 0, 0), 0, 0, [])) none)) (cond (Nat.ble i 7) (cond (Nat.beq i 7) (some (.getfield 47, 3, (2, 9, 17, 4), 0, 0, [])) none) (cond (Nat.beq i 10) (some (.iconst 0, 1, (0, 0, 0, 0), 0, 0, [])) none)))) (cond (Nat.ble i 15) (cond (Nat.ble i 11) (cond (Nat.beq i 11) (some (.putfield 241, 3, (0, 4, 1, 0), 0, 0, [])) none) (cond (Nat.ble i 14) (cond (Nat.beq i 14) (some (.aload_n 0, 1, (0, 0, 0, 0), 0, 0, [])) none) (cond (Nat.beq i 15) (some (.getfield 64, 3, (4, 9, 0, 2), 0, 0, [])) none))) (cond (Nat.ble i 19) (cond (Nat.ble i 18) (cond (Nat.beq i 18) (some (.aload_n 0, 1, (0, 0, 0, 0), 0, 0, [])) none) (cond (Nat.beq i 19) (some (.getfield 68, 3, (4, 9, 1, 2), 0, 0, [])) none)) (cond (Nat.ble i 22) (cond (Nat.beq i 22) (some (.invokevirtual 395, 3, (16, 2, 7, 513), 0, 0, [])) none) (cond (Nat.beq i 25) (some (.ireturn, 1, (0, 0, 0, 0), 0, 0, [])) none))))
/-- X_cellOf -/
def pd_k68 (i : Nat) : Option pd_O := cond (Nat.ble i 3) (cond (Nat.ble i 0) (cond (Nat.beq i 0) (some (.iload_n 0, 1, (0, 0, 0, 0), 0, 0, [])) none) (cond (Nat.ble i 1) (cond (Nat.beq i 1) (some (.bipush 12, 2, (0, 0, 0, 0), 12, 0, [])) none) (cond (Nat.beq i 3) (some (.imul, 1, (0, 0, 0, 0), 0, 0, [])) none))) (cond (Nat.ble i 4) (cond (Nat.beq i 4) (some (.iload_n 1, 1, (1, 0, 0, 0), 0, 0, [])) none) (cond (Nat.ble i 5) (cond (Nat.beq i 5) (some (.iadd, 1, (0, 0, 0, 0), 0, 0, [])) none) (cond (Nat.beq i 6) (some (.ireturn, 1, (0, 0, 0, 0), 0, 0, [])) none)))
/-- X_stepOf -/
def pd_k69 (i : Nat) : Option pd_O := cond (Nat.ble i 3) (cond (Nat.ble i 0) (cond (Nat.beq i 0) (some (.iload_n 0, 1, (0, 0, 0, 0), 0, 0, [])) none) (cond (Nat.ble i 1) (cond (Nat.beq i 1) (some (.bipush 6, 2, (0, 0, 0, 0), 6, 0, [])) none) (cond (Nat.beq i 3) (some (.imul, 1, (0, 0, 0, 0), 0, 0, [])) none))) (cond (Nat.ble i 4) (cond (Nat.beq i 4) (some (.iload_n 1, 1, (1, 0, 0, 0), 0, 0, [])) none) (cond (Nat.ble i 5) (cond (Nat.beq i 5) (some (.iadd, 1, (0, 0, 0, 0), 0, 0, [])) none) (cond (Nat.beq i 6) (some (.ireturn, 1, (0, 0, 0, 0), 0, 0, [])) none)))
/-- X_numberRead -/
def pd_k70 (i : Nat) : Option pd_O := cond (Nat.ble i 36) (cond (Nat.ble i 17) (cond (Nat.ble i 6) (cond (Nat.ble i 1) (cond (Nat.ble i 0) (cond (Nat.beq i 0) (some (.aload_n 0, 1, (0, 0, 0, 0), 0, 0, [])) none) (cond (Nat.beq i 1) (some (.getfield 12, 3, (2, 9, 1, 5), 0, 0, [])) none)) (cond (Nat.ble i 4) (cond (Nat.beq i 4) (some (.iload_n 1, 1, (1, 0, 0, 0), 0, 0, [])) none) (cond (Nat.ble i 5) (cond (Nat.beq i 5) (some (.iload_n 2, 1, (2, 0, 0, 0), 0, 0, [])) none) (cond (Nat.beq i 6) (some (.iload_n 3, 1, (3, 0, 0, 0), 0, 0, [])) none)))) (cond (Nat.ble i 10) (cond (Nat.ble i 7) (cond (Nat.beq i 7) (some (.invokevirtual 115, 3, (27, 4, 5, 1281), 0, 0, [])) none) (cond (Nat.beq i 10) (some (.istore 4, 2, (4, 0, 0, 0), 0, 0, [])) none)) (cond (Nat.ble i 12) (cond (Nat.beq i 12) (some (.iload 4, 2, (4, 0, 0, 0), 0, 0, [])) none) (cond (Nat.ble i 14) (cond (Nat.beq i 14) (some (.ifCond .eq 12, 3, (26, 0, 0, 0), 0, 0, [])) none) (cond (Nat.beq i 17) (some (.iload 4, 2, (4, 0, 0, 0), 0, 0, [])) none))))) (cond (Nat.ble i 27) (cond (Nat.ble i 22) (cond (Nat.ble i 19) (cond (Nat.beq i 19) (some (.invokestatic 90, 3, (55, 1, 1, 1), 0, 0, [])) none) (cond (Nat.beq i 22) (some (.invokestatic 111, 3, (56, 1, 1, 2), 0, 0, [])) none)) (cond (Nat.ble i 25) (cond (Nat.beq i 25) (some (.lreturn, 1, (0, 0, 0, 0), 0, 0, [])) none) (cond (Nat.ble i 26) (cond (Nat.beq i 26) (some (.iload_n 1, 1, (1, 0, 0, 0), 0, 0, [])) none) (cond (Nat.beq i 27) (some (.iload_n 3, 1, (3, 0, 0, 0), 0, 0, [])) none)))) (cond (Nat.ble i 31) (cond (Nat.ble i 28) (cond (Nat.beq i 28) (some (.invokestatic 140, 3, (68, 2, 2, 1), 0, 0, [])) none) (cond (Nat.beq i 31) (some (.istore 5, 2, (5, 0, 0, 0), 0, 0, [])) none)) (cond (Nat.ble i 33) (cond (Nat.beq i 33) (some (.iload_n 2, 1, (2, 0, 0, 0), 0, 0, [])) none) (cond (Nat.ble i 34) (cond (Nat.beq i 34) (some (.bipush 8, 2, (0, 0, 0, 0), 8, 0, [])) none) (cond (Nat.beq i 36) (some (.if_icmp .ne 16, 3, (52, 0, 0, 0), 0, 0, [])) none)))))) (cond (Nat.ble i 59) (cond (Nat.ble i 48) (cond (Nat.ble i 40) (cond (Nat.ble i 39) (cond (Nat.beq i 39) (some (.aload_n 0, 1, (0, 0, 0, 0), 0, 0, [])) none) (cond (Nat.beq i 40) (some (.getfield 64, 3, (4, 9, 0, 2), 0, 0, [])) none)) (cond (Nat.ble i 43) (cond (Nat.beq i 43) (some (.getfield 131, 3, (2, 2, 3, 8), 0, 0, [])) none) (cond (Nat.ble i 46) (cond (Nat.beq i 46) (some (.iload 5, 2, (5, 0, 0, 0), 0, 0, [])) none) (cond (Nat.beq i 48) (some (.invokestatic 272, 3, (71, 2, 2, 2), 0, 0, [])) none)))) (cond (Nat.ble i 52) (cond (Nat.ble i 51) (cond (Nat.beq i 51) (some (.lreturn, 1, (0, 0, 0, 0), 0, 0, [])) none) (cond (Nat.beq i 52) (some (.aload_n 0, 1, (0, 0, 0, 0), 0, 0, [])) none)) (cond (Nat.ble i 53) (cond (Nat.beq i 53) (some (.getfield 64, 3, (4, 9, 0, 2), 0, 0, [])) none) (cond (Nat.ble i 56) (cond (Nat.beq i 56) (some (.getfield 131, 3, (2, 2, 3, 8), 0, 0, [])) none) (cond (Nat.beq i 59) (some (.getfield 135, 3, (2, 8, 1, 20), 0, 0, [])) none))))) (cond (Nat.ble i 69) (cond (Nat.ble i 64) (cond (Nat.ble i 62) (cond (Nat.beq i 62) (some (.iload 5, 2, (5, 0, 0, 0), 0, 0, [])) none) (cond (Nat.beq i 64) (some (.iaload, 1, (0, 0, 0, 0), 0, 0, [])) none)) (cond (Nat.ble i 65) (cond (Nat.beq i 65) (some (.aload_n 0, 1, (0, 0, 0, 0), 0, 0, [])) none) (cond (Nat.ble i 66) (cond (Nat.beq i 66) (some (.getfield 64, 3, (4, 9, 0, 2), 0, 0, [])) none) (cond (Nat.beq i 69) (some (.getfield 131, 3, (2, 2, 3, 8), 0, 0, [])) none)))) (cond (Nat.ble i 77) (cond (Nat.ble i 72) (cond (Nat.beq i 72) (some (.getfield 143, 3, (2, 8, 2, 21), 0, 0, [])) none) (cond (Nat.ble i 75) (cond (Nat.beq i 75) (some (.iload 5, 2, (5, 0, 0, 0), 0, 0, [])) none) (cond (Nat.beq i 77) (some (.laload, 1, (0, 0, 0, 0), 0, 0, [])) none))) (cond (Nat.ble i 78) (cond (Nat.beq i 78) (some (.iload_n 2, 1, (2, 0, 0, 0), 0, 0, [])) none) (cond (Nat.ble i 79) (cond (Nat.beq i 79) (some (.invokestatic 399, 3, (75, 3, 4, 2), 0, 0, [])) none) (cond (Nat.beq i 82) (some (.lreturn, 1, (0, 0, 0, 0), 0, 0, [])) none))))))
/-- X_numberAt -/
def pd_k71 (i : Nat) : Option pd_O := cond (Nat.ble i 11) (cond (Nat.ble i 4) (cond (Nat.ble i 0) (cond (Nat.beq i 0) (some (.aload_n 0, 1, (0, 0, 0, 0), 0, 0, [])) none) (cond (Nat.ble i 1) (cond (Nat.beq i 1) (some (.getfield 135, 3, (2, 8, 1, 20), 0, 0, [])) none) (cond (Nat.beq i 4) (some (.iload_n 1, 1, (1, 0, 0, 0), 0, 0, [])) none))) (cond (Nat.ble i 6) (cond (Nat.ble i 5) (cond (Nat.beq i 5) (some (.iaload, 1, (0, 0, 0, 0), 0, 0, [])) none) (cond (Nat.beq i 6) (some (.bipush 11, 2, (0, 0, 0, 0), 11, 0, [])) none)) (cond (Nat.ble i 8) (cond (Nat.beq i 8) (some (.if_icmp .ne 14, 3, (22, 0, 0, 0), 0, 0, [])) none) (cond (Nat.beq i 11) (some (.bipush 6, 2, (0, 0, 0, 0), 6, 0, [])) none)))) (cond (Nat.ble i 22) (cond (Nat.ble i 16) (cond (Nat.ble i 13) (cond (Nat.beq i 13) (some (.invokestatic 90, 3, (55, 1, 1, 1), 0, 0, [])) none) (cond (Nat.beq i 16) (some (.invokestatic 111, 3, (56, 1, 1, 2), 0, 0, [])) none)) (cond (Nat.ble i 19) (cond (Nat.beq i 19) (some (.goto 9, 3, (28, 0, 0, 0), 0, 0, [])) none) (cond (Nat.beq i 22) (some (.aload_n 0, 1, (0, 0, 0, 0), 0, 0, [])) none))) (cond (Nat.ble i 26) (cond (Nat.ble i 23) (cond (Nat.beq i 23) (some (.getfield 143, 3, (2, 8, 2, 21), 0, 0, [])) none) (cond (Nat.beq i 26) (some (.iload_n 1, 1, (1, 0, 0, 0), 0, 0, [])) none)) (cond (Nat.ble i 27) (cond (Nat.beq i 27) (some (.laload, 1, (0, 0, 0, 0), 0, 0, [])) none) (cond (Nat.beq i 28) (some (.lreturn, 1, (0, 0, 0, 0), 0, 0, [])) none))))
/-- X_differences -/
def pd_k72 (i : Nat) : Option pd_O := cond (Nat.ble i 17) (cond (Nat.ble i 6) (cond (Nat.ble i 1) (cond (Nat.ble i 0) (cond (Nat.beq i 0) (some (.iconst 0, 1, (0, 0, 0, 0), 0, 0, [])) none) (cond (Nat.beq i 1) (some (.istore 4, 2, (4, 0, 0, 0), 0, 0, [])) none)) (cond (Nat.ble i 3) (cond (Nat.beq i 3) (some (.iconst 0, 1, (0, 0, 0, 0), 0, 0, [])) none) (cond (Nat.ble i 4) (cond (Nat.beq i 4) (some (.istore 5, 2, (5, 0, 0, 0), 0, 0, [])) none) (cond (Nat.beq i 6) (some (.iload 5, 2, (5, 0, 0, 0), 0, 0, [])) none)))) (cond (Nat.ble i 12) (cond (Nat.ble i 8) (cond (Nat.beq i 8) (some (.aload_n 0, 1, (0, 0, 0, 0), 0, 0, [])) none) (cond (Nat.ble i 9) (cond (Nat.beq i 9) (some (.getfield 12, 3, (2, 9, 1, 5), 0, 0, [])) none) (cond (Nat.beq i 12) (some (.getfield 108, 3, (2, 5, 2, 20), 0, 0, [])) none))) (cond (Nat.ble i 15) (cond (Nat.beq i 15) (some (.iload_n 1, 1, (1, 0, 0, 0), 0, 0, [])) none) (cond (Nat.ble i 16) (cond (Nat.beq i 16) (some (.iaload, 1, (0, 0, 0, 0), 0, 0, [])) none) (cond (Nat.beq i 17) (some (.if_icmp .ge 26, 3, (43, 0, 0, 0), 0, 0, [])) none))))) (cond (Nat.ble i 28) (cond (Nat.ble i 22) (cond (Nat.ble i 20) (cond (Nat.beq i 20) (some (.aload_n 2, 1, (2, 0, 0, 0), 0, 0, [])) none) (cond (Nat.ble i 21) (cond (Nat.beq i 21) (some (.iload_n 1, 1, (1, 0, 0, 0), 0, 0, [])) none) (cond (Nat.beq i 22) (some (.iload 5, 2, (5, 0, 0, 0), 0, 0, [])) none))) (cond (Nat.ble i 24) (cond (Nat.beq i 24) (some (.invokestatic 140, 3, (68, 2, 2, 1), 0, 0, [])) none) (cond (Nat.ble i 27) (cond (Nat.beq i 27) (some (.aload_n 3, 1, (3, 0, 0, 0), 0, 0, [])) none) (cond (Nat.beq i 28) (some (.invokevirtual 403, 3, (34, 3, 3, 2049), 0, 0, [])) none)))) (cond (Nat.ble i 37) (cond (Nat.ble i 31) (cond (Nat.beq i 31) (some (.ifCond .ne 6, 3, (37, 0, 0, 0), 0, 0, [])) none) (cond (Nat.ble i 34) (cond (Nat.beq i 34) (some (.iinc 4 1, 3, (4, 0, 0, 0), 1, 0, [])) none) (cond (Nat.beq i 37) (some (.iinc 5 1, 3, (5, 0, 0, 0), 1, 0, [])) none))) (cond (Nat.ble i 40) (cond (Nat.beq i 40) (some (.goto (-34), 3, (6, 0, 0, 0), 0, 0, [])) none) (cond (Nat.ble i 43) (cond (Nat.beq i 43) (some (.iload 4, 2, (4, 0, 0, 0), 0, 0, [])) none) (cond (Nat.beq i 45) (some (.ireturn, 1, (0, 0, 0, 0), 0, 0, [])) none)))))
/-- X_allDifferences -/
def pd_k73 (i : Nat) : Option pd_O := cond (Nat.ble i 21) (cond (Nat.ble i 7) (cond (Nat.ble i 2) (cond (Nat.ble i 0) (cond (Nat.beq i 0) (some (.iconst 0, 1, (0, 0, 0, 0), 0, 0, [])) none) (cond (Nat.ble i 1) (cond (Nat.beq i 1) (some (.istore_n 3, 1, (3, 0, 0, 0), 0, 0, [])) none) (cond (Nat.beq i 2) (some (.iconst 0, 1, (0, 0, 0, 0), 0, 0, [])) none))) (cond (Nat.ble i 3) (cond (Nat.beq i 3) (some (.istore 4, 2, (4, 0, 0, 0), 0, 0, [])) none) (cond (Nat.ble i 5) (cond (Nat.beq i 5) (some (.iload 4, 2, (4, 0, 0, 0), 0, 0, [])) none) (cond (Nat.beq i 7) (some (.bipush 6, 2, (0, 0, 0, 0), 6, 0, [])) none)))) (cond (Nat.ble i 13) (cond (Nat.ble i 9) (cond (Nat.beq i 9) (some (.if_icmp .ge 32, 3, (41, 0, 0, 0), 0, 0, [])) none) (cond (Nat.ble i 12) (cond (Nat.beq i 12) (some (.aload_n 0, 1, (0, 0, 0, 0), 0, 0, [])) none) (cond (Nat.beq i 13) (some (.getfield 12, 3, (2, 9, 1, 5), 0, 0, [])) none))) (cond (Nat.ble i 16) (cond (Nat.beq i 16) (some (.iload 4, 2, (4, 0, 0, 0), 0, 0, [])) none) (cond (Nat.ble i 18) (cond (Nat.beq i 18) (some (.invokevirtual 105, 3, (24, 2, 2, 1281), 0, 0, [])) none) (cond (Nat.beq i 21) (some (.ifCond .ne 14, 3, (35, 0, 0, 0), 0, 0, [])) none))))) (cond (Nat.ble i 30) (cond (Nat.ble i 26) (cond (Nat.ble i 24) (cond (Nat.beq i 24) (some (.iload_n 3, 1, (3, 0, 0, 0), 0, 0, [])) none) (cond (Nat.ble i 25) (cond (Nat.beq i 25) (some (.aload_n 0, 1, (0, 0, 0, 0), 0, 0, [])) none) (cond (Nat.beq i 26) (some (.iload 4, 2, (4, 0, 0, 0), 0, 0, [])) none))) (cond (Nat.ble i 28) (cond (Nat.beq i 28) (some (.aload_n 1, 1, (1, 0, 0, 0), 0, 0, [])) none) (cond (Nat.ble i 29) (cond (Nat.beq i 29) (some (.aload_n 2, 1, (2, 0, 0, 0), 0, 0, [])) none) (cond (Nat.beq i 30) (some (.invokevirtual 157, 3, (72, 4, 6, 2305), 0, 0, [])) none)))) (cond (Nat.ble i 35) (cond (Nat.ble i 33) (cond (Nat.beq i 33) (some (.iadd, 1, (0, 0, 0, 0), 0, 0, [])) none) (cond (Nat.ble i 34) (cond (Nat.beq i 34) (some (.istore_n 3, 1, (3, 0, 0, 0), 0, 0, [])) none) (cond (Nat.beq i 35) (some (.iinc 4 1, 3, (4, 0, 0, 0), 1, 0, [])) none))) (cond (Nat.ble i 38) (cond (Nat.beq i 38) (some (.goto (-33), 3, (5, 0, 0, 0), 0, 0, [])) none) (cond (Nat.ble i 41) (cond (Nat.beq i 41) (some (.iload_n 3, 1, (3, 0, 0, 0), 0, 0, [])) none) (cond (Nat.beq i 42) (some (.ireturn, 1, (0, 0, 0, 0), 0, 0, [])) none)))))
/-- X_widens -/
def pd_k74 (i : Nat) : Option pd_O := cond (Nat.ble i 54) (cond (Nat.ble i 39) (cond (Nat.ble i 33) (cond (Nat.ble i 1) (cond (Nat.ble i 0) (cond (Nat.beq i 0) (some (.iload_n 0, 1, (0, 0, 0, 0), 0, 0, [])) none) (cond (Nat.beq i 1) (some (.tableswitch 73 0 3 #[63, 31, 47, 47], 31, (74, 0, 0, 0), 0, 0, [(0, 64), (1, 32), (2, 48), (3, 48)])) none)) (cond (Nat.ble i 32) (cond (Nat.beq i 32) (some (.iload_n 1, 1, (1, 0, 0, 0), 0, 0, [])) none) (cond (Nat.beq i 33) (some (.iconst 1, 1, (0, 0, 0, 0), 1, 0, [])) none))) (cond (Nat.ble i 37) (cond (Nat.ble i 34) (cond (Nat.beq i 34) (some (.if_icmp .eq 8, 3, (42, 0, 0, 0), 0, 0, [])) none) (cond (Nat.beq i 37) (some (.iload_n 1, 1, (1, 0, 0, 0), 0, 0, [])) none)) (cond (Nat.ble i 38) (cond (Nat.beq i 38) (some (.iconst 3, 1, (0, 0, 0, 0), 3, 0, [])) none) (cond (Nat.beq i 39) (some (.if_icmp .lt 7, 3, (46, 0, 0, 0), 0, 0, [])) none)))) (cond (Nat.ble i 47) (cond (Nat.ble i 43) (cond (Nat.ble i 42) (cond (Nat.beq i 42) (some (.iconst 1, 1, (0, 0, 0, 0), 1, 0, [])) none) (cond (Nat.beq i 43) (some (.goto 4, 3, (47, 0, 0, 0), 0, 0, [])) none)) (cond (Nat.ble i 46) (cond (Nat.beq i 46) (some (.iconst 0, 1, (0, 0, 0, 0), 0, 0, [])) none) (cond (Nat.beq i 47) (some (.ireturn, 1, (1, 0, 0, 0), 0, 0, [])) none))) (cond (Nat.ble i 49) (cond (Nat.ble i 48) (cond (Nat.beq i 48) (some (.iload_n 1, 1, (1, 0, 0, 0), 0, 0, [])) none) (cond (Nat.beq i 49) (some (.iload_n 0, 1, (0, 0, 0, 0), 0, 0, [])) none)) (cond (Nat.ble i 50) (cond (Nat.beq i 50) (some (.if_icmp .eq 8, 3, (58, 0, 0, 0), 0, 0, [])) none) (cond (Nat.ble i 53) (cond (Nat.beq i 53) (some (.iload_n 1, 1, (1, 0, 0, 0), 0, 0, [])) none) (cond (Nat.beq i 54) (some (.iconst 4, 1, (0, 0, 0, 0), 4, 0, [])) none)))))) (cond (Nat.ble i 69) (cond (Nat.ble i 62) (cond (Nat.ble i 58) (cond (Nat.ble i 55) (cond (Nat.beq i 55) (some (.if_icmp .lt 7, 3, (62, 0, 0, 0), 0, 0, [])) none) (cond (Nat.beq i 58) (some (.iconst 1, 1, (0, 0, 0, 0), 1, 0, [])) none)) (cond (Nat.ble i 59) (cond (Nat.beq i 59) (some (.goto 4, 3, (63, 0, 0, 0), 0, 0, [])) none) (cond (Nat.beq i 62) (some (.iconst 0, 1, (0, 0, 0, 0), 0, 0, [])) none))) (cond (Nat.ble i 64) (cond (Nat.ble i 63) (cond (Nat.beq i 63) (some (.ireturn, 1, (1, 0, 0, 0), 0, 0, [])) none) (cond (Nat.beq i 64) (some (.iload_n 1, 1, (1, 0, 0, 0), 0, 0, [])) none)) (cond (Nat.ble i 65) (cond (Nat.beq i 65) (some (.ifCond .ne 7, 3, (72, 0, 0, 0), 0, 0, [])) none) (cond (Nat.ble i 68) (cond (Nat.beq i 68) (some (.iconst 1, 1, (0, 0, 0, 0), 1, 0, [])) none) (cond (Nat.beq i 69) (some (.goto 4, 3, (73, 0, 0, 0), 0, 0, [])) none))))) (cond (Nat.ble i 75) (cond (Nat.ble i 73) (cond (Nat.ble i 72) (cond (Nat.beq i 72) (some (.iconst 0, 1, (0, 0, 0, 0), 0, 0, [])) none) (cond (Nat.beq i 73) (some (.ireturn, 1, (1, 0, 0, 0), 0, 0, [])) none)) (cond (Nat.ble i 74) (cond (Nat.beq i 74) (some (.iload_n 1, 1, (1, 0, 0, 0), 0, 0, [])) none) (cond (Nat.beq i 75) (some (.iload_n 0, 1, (0, 0, 0, 0), 0, 0, [])) none))) (cond (Nat.ble i 79) (cond (Nat.ble i 76) (cond (Nat.beq i 76) (some (.if_icmp .lt 7, 3, (83, 0, 0, 0), 0, 0, [])) none) (cond (Nat.beq i 79) (some (.iconst 1, 1, (0, 0, 0, 0), 1, 0, [])) none)) (cond (Nat.ble i 80) (cond (Nat.beq i 80) (some (.goto 4, 3, (84, 0, 0, 0), 0, 0, [])) none) (cond (Nat.ble i 83) (cond (Nat.beq i 83) (some (.iconst 0, 1, (0, 0, 0, 0), 0, 0, [])) none) (cond (Nat.beq i 84) (some (.ireturn, 1, (1, 0, 0, 0), 0, 0, [])) none))))))
/-- X_widened -/
def pd_k75 (i : Nat) : Option pd_O := cond (Nat.ble i 17) (cond (Nat.ble i 7) (cond (Nat.ble i 1) (cond (Nat.ble i 0) (cond (Nat.beq i 0) (some (.iload_n 3, 1, (3, 0, 0, 0), 0, 0, [])) none) (cond (Nat.beq i 1) (some (.bipush 6, 2, (0, 0, 0, 0), 6, 0, [])) none)) (cond (Nat.ble i 3) (cond (Nat.beq i 3) (some (.if_icmp .lt 9, 3, (12, 0, 0, 0), 0, 0, [])) none) (cond (Nat.ble i 6) (cond (Nat.beq i 6) (some (.iload_n 0, 1, (0, 0, 0, 0), 0, 0, [])) none) (cond (Nat.beq i 7) (some (.bipush 6, 2, (0, 0, 0, 0), 6, 0, [])) none)))) (cond (Nat.ble i 12) (cond (Nat.ble i 9) (cond (Nat.beq i 9) (some (.if_icmp .lt 5, 3, (14, 0, 0, 0), 0, 0, [])) none) (cond (Nat.beq i 12) (some (.lload_n 1, 1, (1, 0, 0, 0), 0, 0, [])) none)) (cond (Nat.ble i 13) (cond (Nat.beq i 13) (some (.lreturn, 1, (0, 0, 0, 0), 0, 0, [])) none) (cond (Nat.ble i 14) (cond (Nat.beq i 14) (some (.ldc2_w 407, 3, (0, 0, 0, 0), 0, 8, [])) none) (cond (Nat.beq i 17) (some (.iload_n 3, 1, (3, 0, 0, 0), 0, 0, [])) none))))) (cond (Nat.ble i 25) (cond (Nat.ble i 20) (cond (Nat.ble i 18) (cond (Nat.beq i 18) (some (.bipush 6, 2, (0, 0, 0, 0), 6, 0, [])) none) (cond (Nat.beq i 20) (some (.if_icmp .ne 9, 3, (29, 0, 0, 0), 0, 0, [])) none)) (cond (Nat.ble i 23) (cond (Nat.beq i 23) (some (.lload_n 1, 1, (1, 0, 0, 0), 0, 0, [])) none) (cond (Nat.ble i 24) (cond (Nat.beq i 24) (some (.l2f, 1, (0, 0, 0, 0), 0, 0, [])) none) (cond (Nat.beq i 25) (some (.f2l, 1, (0, 0, 0, 0), 0, 0, [])) none)))) (cond (Nat.ble i 30) (cond (Nat.ble i 26) (cond (Nat.beq i 26) (some (.goto 6, 3, (32, 0, 0, 0), 0, 0, [])) none) (cond (Nat.ble i 29) (cond (Nat.beq i 29) (some (.lload_n 1, 1, (1, 0, 0, 0), 0, 0, [])) none) (cond (Nat.beq i 30) (some (.l2d, 1, (0, 0, 0, 0), 0, 0, [])) none))) (cond (Nat.ble i 31) (cond (Nat.beq i 31) (some (.d2l, 1, (0, 0, 0, 0), 0, 0, [])) none) (cond (Nat.ble i 32) (cond (Nat.beq i 32) (some (.lmul, 1, (0, 0, 0, 0), 0, 0, [])) none) (cond (Nat.beq i 33) (some (.lreturn, 1, (0, 0, 0, 0), 0, 0, [])) none)))))
/-- X_numberMade -/
def pd_k76 (i : Nat) : Option pd_O := cond (Nat.ble i 81) (cond (Nat.ble i 71) (cond (Nat.ble i 66) (cond (Nat.ble i 1) (cond (Nat.ble i 0) (cond (Nat.beq i 0) (some (.iload_n 0, 1, (0, 0, 0, 0), 0, 0, [])) none) (cond (Nat.beq i 1) (some (.tableswitch 103 0 11 #[63, 68, 72, 76, 103, 80, 87, 103, 91, 103, 103, 101], 63, (104, 0, 0, 0), 0, 0, [(0, 64), (1, 69), (2, 73), (3, 77), (4, 104), (5, 81), (6, 88), (7, 104), (8, 92), (9, 104), (10, 104), (11, 102)])) none)) (cond (Nat.ble i 64) (cond (Nat.beq i 64) (some (.iload_n 1, 1, (1, 0, 0, 0), 0, 0, [])) none) (cond (Nat.ble i 65) (cond (Nat.beq i 65) (some (.iconst 1, 1, (0, 0, 0, 0), 1, 0, [])) none) (cond (Nat.beq i 66) (some (.iand, 1, (0, 0, 0, 0), 0, 0, [])) none)))) (cond (Nat.ble i 68) (cond (Nat.ble i 67) (cond (Nat.beq i 67) (some (.i2l, 1, (0, 0, 0, 0), 0, 0, [])) none) (cond (Nat.beq i 68) (some (.lreturn, 1, (0, 0, 0, 0), 0, 0, [])) none)) (cond (Nat.ble i 69) (cond (Nat.beq i 69) (some (.iload_n 1, 1, (1, 0, 0, 0), 0, 0, [])) none) (cond (Nat.ble i 70) (cond (Nat.beq i 70) (some (.i2b, 1, (0, 0, 0, 0), 0, 0, [])) none) (cond (Nat.beq i 71) (some (.i2l, 1, (0, 0, 0, 0), 0, 0, [])) none))))) (cond (Nat.ble i 76) (cond (Nat.ble i 73) (cond (Nat.ble i 72) (cond (Nat.beq i 72) (some (.lreturn, 1, (0, 0, 0, 0), 0, 0, [])) none) (cond (Nat.beq i 73) (some (.iload_n 1, 1, (1, 0, 0, 0), 0, 0, [])) none)) (cond (Nat.ble i 74) (cond (Nat.beq i 74) (some (.i2c, 1, (0, 0, 0, 0), 0, 0, [])) none) (cond (Nat.ble i 75) (cond (Nat.beq i 75) (some (.i2l, 1, (0, 0, 0, 0), 0, 0, [])) none) (cond (Nat.beq i 76) (some (.lreturn, 1, (0, 0, 0, 0), 0, 0, [])) none)))) (cond (Nat.ble i 78) (cond (Nat.ble i 77) (cond (Nat.beq i 77) (some (.iload_n 1, 1, (1, 0, 0, 0), 0, 0, [])) none) (cond (Nat.beq i 78) (some (.i2s, 1, (0, 0, 0, 0), 0, 0, [])) none)) (cond (Nat.ble i 79) (cond (Nat.beq i 79) (some (.i2l, 1, (0, 0, 0, 0), 0, 0, [])) none) (cond (Nat.ble i 80) (cond (Nat.beq i 80) (some (.lreturn, 1, (0, 0, 0, 0), 0, 0, [])) none) (cond (Nat.beq i 81) (some (.iload_n 1, 1, (1, 0, 0, 0), 0, 0, [])) none)))))) (cond (Nat.ble i 93) (cond (Nat.ble i 88) (cond (Nat.ble i 83) (cond (Nat.ble i 82) (cond (Nat.beq i 82) (some (.i2l, 1, (0, 0, 0, 0), 0, 0, [])) none) (cond (Nat.beq i 83) (some (.ldc2_w 409, 3, (0, 0, 0, 0), 0, 100000007, [])) none)) (cond (Nat.ble i 86) (cond (Nat.beq i 86) (some (.lmul, 1, (0, 0, 0, 0), 0, 0, [])) none) (cond (Nat.ble i 87) (cond (Nat.beq i 87) (some (.lreturn, 1, (0, 0, 0, 0), 0, 0, [])) none) (cond (Nat.beq i 88) (some (.iload_n 1, 1, (1, 0, 0, 0), 0, 0, [])) none)))) (cond (Nat.ble i 90) (cond (Nat.ble i 89) (cond (Nat.beq i 89) (some (.i2f, 1, (0, 0, 0, 0), 0, 0, [])) none) (cond (Nat.beq i 90) (some (.f2l, 1, (0, 0, 0, 0), 0, 0, [])) none)) (cond (Nat.ble i 91) (cond (Nat.beq i 91) (some (.lreturn, 1, (0, 0, 0, 0), 0, 0, [])) none) (cond (Nat.ble i 92) (cond (Nat.beq i 92) (some (.iload_n 1, 1, (1, 0, 0, 0), 0, 0, [])) none) (cond (Nat.beq i 93) (some (.ldc_w 411, 3, (0, 0, 0, 0), 2147483647, 0, [])) none))))) (cond (Nat.ble i 101) (cond (Nat.ble i 97) (cond (Nat.ble i 96) (cond (Nat.beq i 96) (some (.iand, 1, (0, 0, 0, 0), 0, 0, [])) none) (cond (Nat.beq i 97) (some (.bipush 78, 2, (0, 0, 0, 0), 78, 0, [])) none)) (cond (Nat.ble i 99) (cond (Nat.beq i 99) (some (.irem, 1, (0, 0, 0, 0), 0, 0, [])) none) (cond (Nat.ble i 100) (cond (Nat.beq i 100) (some (.i2l, 1, (0, 0, 0, 0), 0, 0, [])) none) (cond (Nat.beq i 101) (some (.lreturn, 1, (0, 0, 0, 0), 0, 0, [])) none)))) (cond (Nat.ble i 103) (cond (Nat.ble i 102) (cond (Nat.beq i 102) (some (.lconst 0, 1, (0, 0, 0, 0), 0, 0, [])) none) (cond (Nat.beq i 103) (some (.lreturn, 1, (0, 0, 0, 0), 0, 0, [])) none)) (cond (Nat.ble i 104) (cond (Nat.beq i 104) (some (.iload_n 1, 1, (1, 0, 0, 0), 0, 0, [])) none) (cond (Nat.ble i 105) (cond (Nat.beq i 105) (some (.i2l, 1, (0, 0, 0, 0), 0, 0, [])) none) (cond (Nat.beq i 106) (some (.lreturn, 1, (0, 0, 0, 0), 0, 0, [])) none))))))
/-- X_typeWritten -/
def pd_k77 (i : Nat) : Option pd_O := cond (Nat.ble i 11) (cond (Nat.ble i 6) (cond (Nat.ble i 1) (cond (Nat.ble i 0) (cond (Nat.beq i 0) (some (.iload_n 0, 1, (0, 0, 0, 0), 0, 0, [])) none) (cond (Nat.beq i 1) (some (.bipush 8, 2, (0, 0, 0, 0), 8, 0, [])) none)) (cond (Nat.ble i 3) (cond (Nat.beq i 3) (some (.if_icmp .ge 5, 3, (8, 0, 0, 0), 0, 0, [])) none) (cond (Nat.beq i 6) (some (.iload_n 0, 1, (0, 0, 0, 0), 0, 0, [])) none))) (cond (Nat.ble i 8) (cond (Nat.ble i 7) (cond (Nat.beq i 7) (some (.ireturn, 1, (0, 0, 0, 0), 0, 0, [])) none) (cond (Nat.beq i 8) (some (.iload_n 0, 1, (0, 0, 0, 0), 0, 0, [])) none)) (cond (Nat.ble i 9) (cond (Nat.beq i 9) (some (.bipush 20, 2, (0, 0, 0, 0), 20, 0, [])) none) (cond (Nat.beq i 11) (some (.if_icmp .ge 10, 3, (21, 0, 0, 0), 0, 0, [])) none)))) (cond (Nat.ble i 18) (cond (Nat.ble i 15) (cond (Nat.ble i 14) (cond (Nat.beq i 14) (some (.iload_n 0, 1, (0, 0, 0, 0), 0, 0, [])) none) (cond (Nat.beq i 15) (some (.bipush 8, 2, (0, 0, 0, 0), 8, 0, [])) none)) (cond (Nat.ble i 17) (cond (Nat.beq i 17) (some (.isub, 1, (0, 0, 0, 0), 0, 0, [])) none) (cond (Nat.beq i 18) (some (.goto 7, 3, (25, 0, 0, 0), 0, 0, [])) none))) (cond (Nat.ble i 22) (cond (Nat.ble i 21) (cond (Nat.beq i 21) (some (.iload_n 0, 1, (0, 0, 0, 0), 0, 0, [])) none) (cond (Nat.beq i 22) (some (.bipush 11, 2, (0, 0, 0, 0), 11, 0, [])) none)) (cond (Nat.ble i 24) (cond (Nat.beq i 24) (some (.isub, 1, (0, 0, 0, 0), 0, 0, [])) none) (cond (Nat.beq i 25) (some (.ireturn, 1, (0, 0, 0, 0), 0, 0, [])) none))))
/-- J_bitCount -/
def pd_k78 (i : Nat) : Option pd_O := cond (Nat.ble i 26) (cond (Nat.ble i 11) (cond (Nat.ble i 4) (cond (Nat.ble i 1) (cond (Nat.ble i 0) (cond (Nat.beq i 0) (some (.iload_n 0, 1, (0, 0, 0, 0), 0, 0, [])) none) (cond (Nat.beq i 1) (some (.iload_n 0, 1, (0, 0, 0, 0), 0, 0, [])) none)) (cond (Nat.ble i 2) (cond (Nat.beq i 2) (some (.iconst 1, 1, (0, 0, 0, 0), 1, 0, [])) none) (cond (Nat.ble i 3) (cond (Nat.beq i 3) (some (.iushr, 1, (0, 0, 0, 0), 0, 0, [])) none) (cond (Nat.beq i 4) (some (.ldc_w 265, 3, (0, 0, 0, 0), 1431655765, 0, [])) none)))) (cond (Nat.ble i 8) (cond (Nat.ble i 7) (cond (Nat.beq i 7) (some (.iand, 1, (0, 0, 0, 0), 0, 0, [])) none) (cond (Nat.beq i 8) (some (.isub, 1, (0, 0, 0, 0), 0, 0, [])) none)) (cond (Nat.ble i 9) (cond (Nat.beq i 9) (some (.istore_n 0, 1, (0, 0, 0, 0), 0, 0, [])) none) (cond (Nat.ble i 10) (cond (Nat.beq i 10) (some (.iload_n 0, 1, (0, 0, 0, 0), 0, 0, [])) none) (cond (Nat.beq i 11) (some (.ldc_w 266, 3, (0, 0, 0, 0), 858993459, 0, [])) none))))) (cond (Nat.ble i 18) (cond (Nat.ble i 15) (cond (Nat.ble i 14) (cond (Nat.beq i 14) (some (.iand, 1, (0, 0, 0, 0), 0, 0, [])) none) (cond (Nat.beq i 15) (some (.iload_n 0, 1, (0, 0, 0, 0), 0, 0, [])) none)) (cond (Nat.ble i 16) (cond (Nat.beq i 16) (some (.iconst 2, 1, (0, 0, 0, 0), 2, 0, [])) none) (cond (Nat.ble i 17) (cond (Nat.beq i 17) (some (.iushr, 1, (0, 0, 0, 0), 0, 0, [])) none) (cond (Nat.beq i 18) (some (.ldc_w 266, 3, (0, 0, 0, 0), 858993459, 0, [])) none)))) (cond (Nat.ble i 23) (cond (Nat.ble i 21) (cond (Nat.beq i 21) (some (.iand, 1, (0, 0, 0, 0), 0, 0, [])) none) (cond (Nat.ble i 22) (cond (Nat.beq i 22) (some (.iadd, 1, (0, 0, 0, 0), 0, 0, [])) none) (cond (Nat.beq i 23) (some (.istore_n 0, 1, (0, 0, 0, 0), 0, 0, [])) none))) (cond (Nat.ble i 24) (cond (Nat.beq i 24) (some (.iload_n 0, 1, (0, 0, 0, 0), 0, 0, [])) none) (cond (Nat.ble i 25) (cond (Nat.beq i 25) (some (.iload_n 0, 1, (0, 0, 0, 0), 0, 0, [])) none) (cond (Nat.beq i 26) (some (.iconst 4, 1, (0, 0, 0, 0), 4, 0, [])) none)))))) (cond (Nat.ble i 39) (cond (Nat.ble i 33) (cond (Nat.ble i 28) (cond (Nat.ble i 27) (cond (Nat.beq i 27) (some (.iushr, 1, (0, 0, 0, 0), 0, 0, [])) none) (cond (Nat.beq i 28) (some (.iadd, 1, (0, 0, 0, 0), 0, 0, [])) none)) (cond (Nat.ble i 29) (cond (Nat.beq i 29) (some (.ldc_w 267, 3, (0, 0, 0, 0), 252645135, 0, [])) none) (cond (Nat.ble i 32) (cond (Nat.beq i 32) (some (.iand, 1, (0, 0, 0, 0), 0, 0, [])) none) (cond (Nat.beq i 33) (some (.istore_n 0, 1, (0, 0, 0, 0), 0, 0, [])) none)))) (cond (Nat.ble i 35) (cond (Nat.ble i 34) (cond (Nat.beq i 34) (some (.iload_n 0, 1, (0, 0, 0, 0), 0, 0, [])) none) (cond (Nat.beq i 35) (some (.iload_n 0, 1, (0, 0, 0, 0), 0, 0, [])) none)) (cond (Nat.ble i 36) (cond (Nat.beq i 36) (some (.bipush 8, 2, (0, 0, 0, 0), 8, 0, [])) none) (cond (Nat.ble i 38) (cond (Nat.beq i 38) (some (.iushr, 1, (0, 0, 0, 0), 0, 0, [])) none) (cond (Nat.beq i 39) (some (.iadd, 1, (0, 0, 0, 0), 0, 0, [])) none))))) (cond (Nat.ble i 45) (cond (Nat.ble i 41) (cond (Nat.ble i 40) (cond (Nat.beq i 40) (some (.istore_n 0, 1, (0, 0, 0, 0), 0, 0, [])) none) (cond (Nat.beq i 41) (some (.iload_n 0, 1, (0, 0, 0, 0), 0, 0, [])) none)) (cond (Nat.ble i 42) (cond (Nat.beq i 42) (some (.iload_n 0, 1, (0, 0, 0, 0), 0, 0, [])) none) (cond (Nat.ble i 43) (cond (Nat.beq i 43) (some (.bipush 16, 2, (0, 0, 0, 0), 16, 0, [])) none) (cond (Nat.beq i 45) (some (.iushr, 1, (0, 0, 0, 0), 0, 0, [])) none)))) (cond (Nat.ble i 48) (cond (Nat.ble i 46) (cond (Nat.beq i 46) (some (.iadd, 1, (0, 0, 0, 0), 0, 0, [])) none) (cond (Nat.ble i 47) (cond (Nat.beq i 47) (some (.istore_n 0, 1, (0, 0, 0, 0), 0, 0, [])) none) (cond (Nat.beq i 48) (some (.iload_n 0, 1, (0, 0, 0, 0), 0, 0, [])) none))) (cond (Nat.ble i 49) (cond (Nat.beq i 49) (some (.bipush 63, 2, (0, 0, 0, 0), 63, 0, [])) none) (cond (Nat.ble i 51) (cond (Nat.beq i 51) (some (.iand, 1, (0, 0, 0, 0), 0, 0, [])) none) (cond (Nat.beq i 52) (some (.ireturn, 1, (0, 0, 0, 0), 0, 0, [])) none))))))
/-- J_min -/
def pd_k79 (i : Nat) : Option pd_O := cond (Nat.ble i 2) (cond (Nat.ble i 0) (cond (Nat.beq i 0) (some (.iload_n 0, 1, (0, 0, 0, 0), 0, 0, [])) none) (cond (Nat.ble i 1) (cond (Nat.beq i 1) (some (.iload_n 1, 1, (1, 0, 0, 0), 0, 0, [])) none) (cond (Nat.beq i 2) (some (.if_icmp .gt 7, 3, (9, 0, 0, 0), 0, 0, [])) none))) (cond (Nat.ble i 6) (cond (Nat.ble i 5) (cond (Nat.beq i 5) (some (.iload_n 0, 1, (0, 0, 0, 0), 0, 0, [])) none) (cond (Nat.beq i 6) (some (.goto 4, 3, (10, 0, 0, 0), 0, 0, [])) none)) (cond (Nat.ble i 9) (cond (Nat.beq i 9) (some (.iload_n 1, 1, (1, 0, 0, 0), 0, 0, [])) none) (cond (Nat.beq i 10) (some (.ireturn, 1, (0, 0, 0, 0), 0, 0, [])) none)))
/-- L_cell -/
def pd_k80 (i : Nat) : Option pd_O := cond (Nat.ble i 8) (cond (Nat.ble i 2) (cond (Nat.ble i 0) (cond (Nat.beq i 0) (some (.iload_n 1, 1, (1, 0, 0, 0), 0, 0, [])) none) (cond (Nat.ble i 1) (cond (Nat.beq i 1) (some (.aload_n 0, 1, (0, 0, 0, 0), 0, 0, [])) none) (cond (Nat.beq i 2) (some (.arraylength, 1, (0, 0, 0, 0), 0, 0, [])) none))) (cond (Nat.ble i 6) (cond (Nat.ble i 3) (cond (Nat.beq i 3) (some (.if_icmp .ge 9, 3, (12, 0, 0, 0), 0, 0, [])) none) (cond (Nat.beq i 6) (some (.aload_n 0, 1, (0, 0, 0, 0), 0, 0, [])) none)) (cond (Nat.ble i 7) (cond (Nat.beq i 7) (some (.iload_n 1, 1, (1, 0, 0, 0), 0, 0, [])) none) (cond (Nat.beq i 8) (some (.iaload, 1, (0, 0, 0, 0), 0, 0, [])) none)))) (cond (Nat.ble i 14) (cond (Nat.ble i 9) (cond (Nat.beq i 9) (some (.goto 9, 3, (18, 0, 0, 0), 0, 0, [])) none) (cond (Nat.ble i 12) (cond (Nat.beq i 12) (some (.ldc 7, 2, (0, 0, 0, 0), 40503, 0, [])) none) (cond (Nat.beq i 14) (some (.iload_n 1, 1, (1, 0, 0, 0), 0, 0, [])) none))) (cond (Nat.ble i 16) (cond (Nat.ble i 15) (cond (Nat.beq i 15) (some (.iconst 3, 1, (0, 0, 0, 0), 3, 0, [])) none) (cond (Nat.beq i 16) (some (.iadd, 1, (0, 0, 0, 0), 0, 0, [])) none)) (cond (Nat.ble i 17) (cond (Nat.beq i 17) (some (.imul, 1, (0, 0, 0, 0), 0, 0, [])) none) (cond (Nat.beq i 18) (some (.ireturn, 1, (0, 0, 0, 0), 0, 0, [])) none))))
/-- L_low -/
def pd_k81 (i : Nat) : Option pd_O := cond (Nat.ble i 3) (cond (Nat.ble i 0) (cond (Nat.beq i 0) (some (.iload_n 0, 1, (0, 0, 0, 0), 0, 0, [])) none) (cond (Nat.ble i 1) (cond (Nat.beq i 1) (some (.ldc 8, 2, (0, 0, 0, 0), 2147483647, 0, [])) none) (cond (Nat.beq i 3) (some (.iand, 1, (0, 0, 0, 0), 0, 0, [])) none))) (cond (Nat.ble i 4) (cond (Nat.beq i 4) (some (.iload_n 1, 1, (1, 0, 0, 0), 0, 0, [])) none) (cond (Nat.ble i 5) (cond (Nat.beq i 5) (some (.irem, 1, (0, 0, 0, 0), 0, 0, [])) none) (cond (Nat.beq i 6) (some (.ireturn, 1, (0, 0, 0, 0), 0, 0, [])) none)))
/-- L_rows -/
def pd_k82 (i : Nat) : Option pd_O := cond (Nat.ble i 46) (cond (Nat.ble i 24) (cond (Nat.ble i 9) (cond (Nat.ble i 2) (cond (Nat.ble i 0) (cond (Nat.beq i 0) (some (.iconst 1, 1, (0, 0, 0, 0), 1, 0, [])) none) (cond (Nat.ble i 1) (cond (Nat.beq i 1) (some (.istore_n 3, 1, (3, 0, 0, 0), 0, 0, [])) none) (cond (Nat.beq i 2) (some (.iconst 0, 1, (0, 0, 0, 0), 0, 0, [])) none))) (cond (Nat.ble i 5) (cond (Nat.ble i 3) (cond (Nat.beq i 3) (some (.istore 4, 2, (4, 0, 0, 0), 0, 0, [])) none) (cond (Nat.beq i 5) (some (.iload 4, 2, (4, 0, 0, 0), 0, 0, [])) none)) (cond (Nat.ble i 7) (cond (Nat.beq i 7) (some (.bipush 6, 2, (0, 0, 0, 0), 6, 0, [])) none) (cond (Nat.beq i 9) (some (.if_icmp .ge 83, 3, (92, 0, 0, 0), 0, 0, [])) none)))) (cond (Nat.ble i 16) (cond (Nat.ble i 12) (cond (Nat.beq i 12) (some (.iload_n 3, 1, (3, 0, 0, 0), 0, 0, [])) none) (cond (Nat.ble i 13) (cond (Nat.beq i 13) (some (.ifCond .eq 79, 3, (92, 0, 0, 0), 0, 0, [])) none) (cond (Nat.beq i 16) (some (.aload_n 1, 1, (1, 0, 0, 0), 0, 0, [])) none))) (cond (Nat.ble i 19) (cond (Nat.ble i 17) (cond (Nat.beq i 17) (some (.iload 4, 2, (4, 0, 0, 0), 0, 0, [])) none) (cond (Nat.beq i 19) (some (.invokestatic 9, 3, (80, 2, 2, 1), 0, 0, [])) none)) (cond (Nat.ble i 22) (cond (Nat.beq i 22) (some (.istore 5, 2, (5, 0, 0, 0), 0, 0, [])) none) (cond (Nat.beq i 24) (some (.aload_n 2, 1, (2, 0, 0, 0), 0, 0, [])) none))))) (cond (Nat.ble i 36) (cond (Nat.ble i 29) (cond (Nat.ble i 25) (cond (Nat.beq i 25) (some (.iload 4, 2, (4, 0, 0, 0), 0, 0, [])) none) (cond (Nat.ble i 27) (cond (Nat.beq i 27) (some (.iload 5, 2, (5, 0, 0, 0), 0, 0, [])) none) (cond (Nat.beq i 29) (some (.bipush 13, 2, (0, 0, 0, 0), 13, 0, [])) none))) (cond (Nat.ble i 34) (cond (Nat.ble i 31) (cond (Nat.beq i 31) (some (.invokestatic 15, 3, (81, 2, 2, 1), 0, 0, [])) none) (cond (Nat.beq i 34) (some (.iastore, 1, (0, 0, 0, 0), 0, 0, [])) none)) (cond (Nat.ble i 35) (cond (Nat.beq i 35) (some (.aload_n 2, 1, (2, 0, 0, 0), 0, 0, [])) none) (cond (Nat.beq i 36) (some (.bipush 6, 2, (0, 0, 0, 0), 6, 0, [])) none)))) (cond (Nat.ble i 41) (cond (Nat.ble i 38) (cond (Nat.beq i 38) (some (.iload 4, 2, (4, 0, 0, 0), 0, 0, [])) none) (cond (Nat.ble i 40) (cond (Nat.beq i 40) (some (.iadd, 1, (0, 0, 0, 0), 0, 0, [])) none) (cond (Nat.beq i 41) (some (.iconst 1, 1, (0, 0, 0, 0), 1, 0, [])) none))) (cond (Nat.ble i 44) (cond (Nat.ble i 42) (cond (Nat.beq i 42) (some (.iload 5, 2, (5, 0, 0, 0), 0, 0, [])) none) (cond (Nat.beq i 44) (some (.iconst 5, 1, (0, 0, 0, 0), 5, 0, [])) none)) (cond (Nat.ble i 45) (cond (Nat.beq i 45) (some (.ishr, 1, (0, 0, 0, 0), 0, 0, [])) none) (cond (Nat.beq i 46) (some (.bipush 12, 2, (0, 0, 0, 0), 12, 0, [])) none)))))) (cond (Nat.ble i 67) (cond (Nat.ble i 57) (cond (Nat.ble i 52) (cond (Nat.ble i 48) (cond (Nat.beq i 48) (some (.invokestatic 15, 3, (81, 2, 2, 1), 0, 0, [])) none) (cond (Nat.ble i 51) (cond (Nat.beq i 51) (some (.iadd, 1, (0, 0, 0, 0), 0, 0, [])) none) (cond (Nat.beq i 52) (some (.iastore, 1, (0, 0, 0, 0), 0, 0, [])) none))) (cond (Nat.ble i 54) (cond (Nat.ble i 53) (cond (Nat.beq i 53) (some (.aload_n 0, 1, (0, 0, 0, 0), 0, 0, [])) none) (cond (Nat.beq i 54) (some (.iload 4, 2, (4, 0, 0, 0), 0, 0, [])) none)) (cond (Nat.ble i 56) (cond (Nat.beq i 56) (some (.aload_n 2, 1, (2, 0, 0, 0), 0, 0, [])) none) (cond (Nat.beq i 57) (some (.iload 4, 2, (4, 0, 0, 0), 0, 0, [])) none)))) (cond (Nat.ble i 61) (cond (Nat.ble i 59) (cond (Nat.beq i 59) (some (.iaload, 1, (0, 0, 0, 0), 0, 0, [])) none) (cond (Nat.ble i 60) (cond (Nat.beq i 60) (some (.aload_n 2, 1, (2, 0, 0, 0), 0, 0, [])) none) (cond (Nat.beq i 61) (some (.bipush 6, 2, (0, 0, 0, 0), 6, 0, [])) none))) (cond (Nat.ble i 65) (cond (Nat.ble i 63) (cond (Nat.beq i 63) (some (.iload 4, 2, (4, 0, 0, 0), 0, 0, [])) none) (cond (Nat.beq i 65) (some (.iadd, 1, (0, 0, 0, 0), 0, 0, [])) none)) (cond (Nat.ble i 66) (cond (Nat.beq i 66) (some (.iaload, 1, (0, 0, 0, 0), 0, 0, [])) none) (cond (Nat.beq i 67) (some (.invokevirtual 19, 3, (36, 4, 5, 2305), 0, 0, [])) none))))) (cond (Nat.ble i 80) (cond (Nat.ble i 73) (cond (Nat.ble i 70) (cond (Nat.beq i 70) (some (.aload_n 2, 1, (2, 0, 0, 0), 0, 0, [])) none) (cond (Nat.ble i 71) (cond (Nat.beq i 71) (some (.bipush 6, 2, (0, 0, 0, 0), 6, 0, [])) none) (cond (Nat.beq i 73) (some (.iload 4, 2, (4, 0, 0, 0), 0, 0, [])) none))) (cond (Nat.ble i 76) (cond (Nat.ble i 75) (cond (Nat.beq i 75) (some (.iadd, 1, (0, 0, 0, 0), 0, 0, [])) none) (cond (Nat.beq i 76) (some (.iaload, 1, (0, 0, 0, 0), 0, 0, [])) none)) (cond (Nat.ble i 77) (cond (Nat.beq i 77) (some (.if_icmp .ne 7, 3, (84, 0, 0, 0), 0, 0, [])) none) (cond (Nat.beq i 80) (some (.iconst 1, 1, (0, 0, 0, 0), 1, 0, [])) none)))) (cond (Nat.ble i 85) (cond (Nat.ble i 81) (cond (Nat.beq i 81) (some (.goto 4, 3, (85, 0, 0, 0), 0, 0, [])) none) (cond (Nat.ble i 84) (cond (Nat.beq i 84) (some (.iconst 0, 1, (0, 0, 0, 0), 0, 0, [])) none) (cond (Nat.beq i 85) (some (.istore_n 3, 1, (3, 0, 0, 0), 0, 0, [])) none))) (cond (Nat.ble i 89) (cond (Nat.ble i 86) (cond (Nat.beq i 86) (some (.iinc 4 1, 3, (4, 0, 0, 0), 1, 0, [])) none) (cond (Nat.beq i 89) (some (.goto (-84), 3, (5, 0, 0, 0), 0, 0, [])) none)) (cond (Nat.ble i 92) (cond (Nat.beq i 92) (some (.iload_n 3, 1, (3, 0, 0, 0), 0, 0, [])) none) (cond (Nat.beq i 93) (some (.ireturn, 1, (1, 0, 0, 0), 0, 0, [])) none))))))
/-- L_way -/
def pd_k83 (i : Nat) : Option pd_O := cond (Nat.ble i 61) (cond (Nat.ble i 29) (cond (Nat.ble i 12) (cond (Nat.ble i 5) (cond (Nat.ble i 1) (cond (Nat.ble i 0) (cond (Nat.beq i 0) (some (.iload_n 1, 1, (1, 0, 0, 0), 0, 0, [])) none) (cond (Nat.beq i 1) (some (.iconst 3, 1, (0, 0, 0, 0), 3, 0, [])) none)) (cond (Nat.ble i 2) (cond (Nat.beq i 2) (some (.invokestatic 15, 3, (81, 2, 2, 1), 0, 0, [])) none) (cond (Nat.beq i 5) (some (.istore_n 2, 1, (2, 0, 0, 0), 0, 0, [])) none))) (cond (Nat.ble i 7) (cond (Nat.ble i 6) (cond (Nat.beq i 6) (some (.iload_n 0, 1, (0, 0, 0, 0), 0, 0, [])) none) (cond (Nat.beq i 7) (some (.bipush 8, 2, (0, 0, 0, 0), 8, 0, [])) none)) (cond (Nat.ble i 9) (cond (Nat.beq i 9) (some (.if_icmp .ne 17, 3, (26, 0, 0, 0), 0, 0, [])) none) (cond (Nat.beq i 12) (some (.iload_n 2, 1, (2, 0, 0, 0), 0, 0, [])) none)))) (cond (Nat.ble i 21) (cond (Nat.ble i 16) (cond (Nat.ble i 13) (cond (Nat.beq i 13) (some (.ifCond .ne 8, 3, (21, 0, 0, 0), 0, 0, [])) none) (cond (Nat.beq i 16) (some (.bipush 19, 2, (0, 0, 0, 0), 19, 0, [])) none)) (cond (Nat.ble i 18) (cond (Nat.beq i 18) (some (.goto 62, 3, (80, 0, 0, 0), 0, 0, [])) none) (cond (Nat.beq i 21) (some (.bipush 16, 2, (0, 0, 0, 0), 16, 0, [])) none))) (cond (Nat.ble i 26) (cond (Nat.ble i 23) (cond (Nat.beq i 23) (some (.goto 57, 3, (80, 0, 0, 0), 0, 0, [])) none) (cond (Nat.beq i 26) (some (.iload_n 0, 1, (0, 0, 0, 0), 0, 0, [])) none)) (cond (Nat.ble i 27) (cond (Nat.beq i 27) (some (.bipush 9, 2, (0, 0, 0, 0), 9, 0, [])) none) (cond (Nat.beq i 29) (some (.if_icmp .ne 10, 3, (39, 0, 0, 0), 0, 0, [])) none))))) (cond (Nat.ble i 45) (cond (Nat.ble i 36) (cond (Nat.ble i 34) (cond (Nat.ble i 32) (cond (Nat.beq i 32) (some (.bipush 17, 2, (0, 0, 0, 0), 17, 0, [])) none) (cond (Nat.beq i 34) (some (.iload_n 2, 1, (2, 0, 0, 0), 0, 0, [])) none)) (cond (Nat.ble i 35) (cond (Nat.beq i 35) (some (.iadd, 1, (0, 0, 0, 0), 0, 0, [])) none) (cond (Nat.beq i 36) (some (.goto 44, 3, (80, 0, 0, 0), 0, 0, [])) none))) (cond (Nat.ble i 40) (cond (Nat.ble i 39) (cond (Nat.beq i 39) (some (.iload_n 0, 1, (0, 0, 0, 0), 0, 0, [])) none) (cond (Nat.beq i 40) (some (.bipush 10, 2, (0, 0, 0, 0), 10, 0, [])) none)) (cond (Nat.ble i 42) (cond (Nat.beq i 42) (some (.if_icmp .ne 27, 3, (69, 0, 0, 0), 0, 0, [])) none) (cond (Nat.beq i 45) (some (.iload_n 2, 1, (2, 0, 0, 0), 0, 0, [])) none)))) (cond (Nat.ble i 54) (cond (Nat.ble i 49) (cond (Nat.ble i 46) (cond (Nat.beq i 46) (some (.ifCond .ne 8, 3, (54, 0, 0, 0), 0, 0, [])) none) (cond (Nat.beq i 49) (some (.bipush 19, 2, (0, 0, 0, 0), 19, 0, [])) none)) (cond (Nat.ble i 51) (cond (Nat.beq i 51) (some (.goto 29, 3, (80, 0, 0, 0), 0, 0, [])) none) (cond (Nat.beq i 54) (some (.iload_n 2, 1, (2, 0, 0, 0), 0, 0, [])) none))) (cond (Nat.ble i 56) (cond (Nat.ble i 55) (cond (Nat.beq i 55) (some (.iconst 1, 1, (0, 0, 0, 0), 1, 0, [])) none) (cond (Nat.beq i 56) (some (.if_icmp .ne 8, 3, (64, 0, 0, 0), 0, 0, [])) none)) (cond (Nat.ble i 59) (cond (Nat.beq i 59) (some (.bipush 18, 2, (0, 0, 0, 0), 18, 0, [])) none) (cond (Nat.beq i 61) (some (.goto 19, 3, (80, 0, 0, 0), 0, 0, [])) none)))))) (cond (Nat.ble i 95) (cond (Nat.ble i 80) (cond (Nat.ble i 70) (cond (Nat.ble i 66) (cond (Nat.ble i 64) (cond (Nat.beq i 64) (some (.bipush 21, 2, (0, 0, 0, 0), 21, 0, [])) none) (cond (Nat.beq i 66) (some (.goto 14, 3, (80, 0, 0, 0), 0, 0, [])) none)) (cond (Nat.ble i 69) (cond (Nat.beq i 69) (some (.iload_n 2, 1, (2, 0, 0, 0), 0, 0, [])) none) (cond (Nat.beq i 70) (some (.ifCond .ne 8, 3, (78, 0, 0, 0), 0, 0, [])) none))) (cond (Nat.ble i 75) (cond (Nat.ble i 73) (cond (Nat.beq i 73) (some (.bipush 19, 2, (0, 0, 0, 0), 19, 0, [])) none) (cond (Nat.beq i 75) (some (.goto 5, 3, (80, 0, 0, 0), 0, 0, [])) none)) (cond (Nat.ble i 78) (cond (Nat.beq i 78) (some (.bipush 12, 2, (0, 0, 0, 0), 12, 0, [])) none) (cond (Nat.beq i 80) (some (.istore_n 3, 1, (3, 0, 0, 0), 0, 0, [])) none)))) (cond (Nat.ble i 87) (cond (Nat.ble i 82) (cond (Nat.ble i 81) (cond (Nat.beq i 81) (some (.iload_n 0, 1, (0, 0, 0, 0), 0, 0, [])) none) (cond (Nat.beq i 82) (some (.bipush 8, 2, (0, 0, 0, 0), 8, 0, [])) none)) (cond (Nat.ble i 84) (cond (Nat.beq i 84) (some (.if_icmp .ge 18, 3, (102, 0, 0, 0), 0, 0, [])) none) (cond (Nat.beq i 87) (some (.iload_n 2, 1, (2, 0, 0, 0), 0, 0, [])) none))) (cond (Nat.ble i 91) (cond (Nat.ble i 88) (cond (Nat.beq i 88) (some (.ifCond .ne 7, 3, (95, 0, 0, 0), 0, 0, [])) none) (cond (Nat.beq i 91) (some (.iload_n 0, 1, (0, 0, 0, 0), 0, 0, [])) none)) (cond (Nat.ble i 92) (cond (Nat.beq i 92) (some (.goto 31, 3, (123, 0, 0, 0), 0, 0, [])) none) (cond (Nat.beq i 95) (some (.bipush 8, 2, (0, 0, 0, 0), 8, 0, [])) none))))) (cond (Nat.ble i 110) (cond (Nat.ble i 102) (cond (Nat.ble i 98) (cond (Nat.ble i 97) (cond (Nat.beq i 97) (some (.iload_n 0, 1, (0, 0, 0, 0), 0, 0, [])) none) (cond (Nat.beq i 98) (some (.iadd, 1, (0, 0, 0, 0), 0, 0, [])) none)) (cond (Nat.ble i 99) (cond (Nat.beq i 99) (some (.goto 24, 3, (123, 0, 0, 0), 0, 0, [])) none) (cond (Nat.beq i 102) (some (.iload_n 0, 1, (0, 0, 0, 0), 0, 0, [])) none))) (cond (Nat.ble i 105) (cond (Nat.ble i 103) (cond (Nat.beq i 103) (some (.bipush 12, 2, (0, 0, 0, 0), 12, 0, [])) none) (cond (Nat.beq i 105) (some (.if_icmp .ne 17, 3, (122, 0, 0, 0), 0, 0, [])) none)) (cond (Nat.ble i 108) (cond (Nat.beq i 108) (some (.bipush 8, 2, (0, 0, 0, 0), 8, 0, [])) none) (cond (Nat.beq i 110) (some (.iload_n 1, 1, (1, 0, 0, 0), 0, 0, [])) none)))) (cond (Nat.ble i 115) (cond (Nat.ble i 112) (cond (Nat.ble i 111) (cond (Nat.beq i 111) (some (.iconst 2, 1, (0, 0, 0, 0), 2, 0, [])) none) (cond (Nat.beq i 112) (some (.ishr, 1, (0, 0, 0, 0), 0, 0, [])) none)) (cond (Nat.ble i 113) (cond (Nat.beq i 113) (some (.bipush 9, 2, (0, 0, 0, 0), 9, 0, [])) none) (cond (Nat.beq i 115) (some (.invokestatic 15, 3, (81, 2, 2, 1), 0, 0, [])) none))) (cond (Nat.ble i 119) (cond (Nat.ble i 118) (cond (Nat.beq i 118) (some (.iadd, 1, (0, 0, 0, 0), 0, 0, [])) none) (cond (Nat.beq i 119) (some (.goto 4, 3, (123, 0, 0, 0), 0, 0, [])) none)) (cond (Nat.ble i 122) (cond (Nat.beq i 122) (some (.iload_n 3, 1, (3, 0, 0, 0), 0, 0, [])) none) (cond (Nat.beq i 123) (some (.ireturn, 1, (0, 0, 0, 0), 0, 0, [])) none))))))
/-- L_change -/
def pd_k84 (i : Nat) : Option pd_O := cond (Nat.ble i 71) (cond (Nat.ble i 33) (cond (Nat.ble i 14) (cond (Nat.ble i 7) (cond (Nat.ble i 1) (cond (Nat.ble i 0) (cond (Nat.beq i 0) (some (.iload_n 1, 1, (1, 0, 0, 0), 0, 0, [])) none) (cond (Nat.beq i 1) (some (.bipush 6, 2, (0, 0, 0, 0), 6, 0, [])) none)) (cond (Nat.ble i 3) (cond (Nat.beq i 3) (some (.invokestatic 15, 3, (81, 2, 2, 1), 0, 0, [])) none) (cond (Nat.ble i 6) (cond (Nat.beq i 6) (some (.istore_n 3, 1, (3, 0, 0, 0), 0, 0, [])) none) (cond (Nat.beq i 7) (some (.iload_n 1, 1, (1, 0, 0, 0), 0, 0, [])) none)))) (cond (Nat.ble i 10) (cond (Nat.ble i 8) (cond (Nat.beq i 8) (some (.iconst 3, 1, (0, 0, 0, 0), 3, 0, [])) none) (cond (Nat.ble i 9) (cond (Nat.beq i 9) (some (.ishr, 1, (0, 0, 0, 0), 0, 0, [])) none) (cond (Nat.beq i 10) (some (.aload_n 2, 1, (2, 0, 0, 0), 0, 0, [])) none))) (cond (Nat.ble i 11) (cond (Nat.beq i 11) (some (.bipush 6, 2, (0, 0, 0, 0), 6, 0, [])) none) (cond (Nat.ble i 13) (cond (Nat.beq i 13) (some (.iload_n 3, 1, (3, 0, 0, 0), 0, 0, [])) none) (cond (Nat.beq i 14) (some (.iadd, 1, (0, 0, 0, 0), 0, 0, [])) none))))) (cond (Nat.ble i 22) (cond (Nat.ble i 16) (cond (Nat.ble i 15) (cond (Nat.beq i 15) (some (.iaload, 1, (0, 0, 0, 0), 0, 0, [])) none) (cond (Nat.beq i 16) (some (.invokestatic 15, 3, (81, 2, 2, 1), 0, 0, [])) none)) (cond (Nat.ble i 19) (cond (Nat.beq i 19) (some (.istore 4, 2, (4, 0, 0, 0), 0, 0, [])) none) (cond (Nat.ble i 21) (cond (Nat.beq i 21) (some (.iload_n 1, 1, (1, 0, 0, 0), 0, 0, [])) none) (cond (Nat.beq i 22) (some (.bipush 9, 2, (0, 0, 0, 0), 9, 0, [])) none)))) (cond (Nat.ble i 26) (cond (Nat.ble i 24) (cond (Nat.beq i 24) (some (.ishr, 1, (0, 0, 0, 0), 0, 0, [])) none) (cond (Nat.ble i 25) (cond (Nat.beq i 25) (some (.iconst 2, 1, (0, 0, 0, 0), 2, 0, [])) none) (cond (Nat.beq i 26) (some (.invokestatic 15, 3, (81, 2, 2, 1), 0, 0, [])) none))) (cond (Nat.ble i 29) (cond (Nat.beq i 29) (some (.ifCond .ne 7, 3, (36, 0, 0, 0), 0, 0, [])) none) (cond (Nat.ble i 32) (cond (Nat.beq i 32) (some (.iload_n 3, 1, (3, 0, 0, 0), 0, 0, [])) none) (cond (Nat.beq i 33) (some (.goto 12, 3, (45, 0, 0, 0), 0, 0, [])) none)))))) (cond (Nat.ble i 52) (cond (Nat.ble i 42) (cond (Nat.ble i 37) (cond (Nat.ble i 36) (cond (Nat.beq i 36) (some (.iload_n 1, 1, (1, 0, 0, 0), 0, 0, [])) none) (cond (Nat.beq i 37) (some (.bipush 10, 2, (0, 0, 0, 0), 10, 0, [])) none)) (cond (Nat.ble i 39) (cond (Nat.beq i 39) (some (.ishr, 1, (0, 0, 0, 0), 0, 0, [])) none) (cond (Nat.ble i 40) (cond (Nat.beq i 40) (some (.bipush 6, 2, (0, 0, 0, 0), 6, 0, [])) none) (cond (Nat.beq i 42) (some (.invokestatic 15, 3, (81, 2, 2, 1), 0, 0, [])) none)))) (cond (Nat.ble i 48) (cond (Nat.ble i 45) (cond (Nat.beq i 45) (some (.istore 5, 2, (5, 0, 0, 0), 0, 0, [])) none) (cond (Nat.ble i 47) (cond (Nat.beq i 47) (some (.iload_n 1, 1, (1, 0, 0, 0), 0, 0, [])) none) (cond (Nat.beq i 48) (some (.bipush 12, 2, (0, 0, 0, 0), 12, 0, [])) none))) (cond (Nat.ble i 50) (cond (Nat.beq i 50) (some (.ishr, 1, (0, 0, 0, 0), 0, 0, [])) none) (cond (Nat.ble i 51) (cond (Nat.beq i 51) (some (.aload_n 2, 1, (2, 0, 0, 0), 0, 0, [])) none) (cond (Nat.beq i 52) (some (.bipush 6, 2, (0, 0, 0, 0), 6, 0, [])) none))))) (cond (Nat.ble i 61) (cond (Nat.ble i 56) (cond (Nat.ble i 54) (cond (Nat.beq i 54) (some (.iload 5, 2, (5, 0, 0, 0), 0, 0, [])) none) (cond (Nat.beq i 56) (some (.iadd, 1, (0, 0, 0, 0), 0, 0, [])) none)) (cond (Nat.ble i 57) (cond (Nat.beq i 57) (some (.iaload, 1, (0, 0, 0, 0), 0, 0, [])) none) (cond (Nat.ble i 58) (cond (Nat.beq i 58) (some (.invokestatic 15, 3, (81, 2, 2, 1), 0, 0, [])) none) (cond (Nat.beq i 61) (some (.istore 6, 2, (6, 0, 0, 0), 0, 0, [])) none)))) (cond (Nat.ble i 66) (cond (Nat.ble i 63) (cond (Nat.beq i 63) (some (.iload_n 1, 1, (1, 0, 0, 0), 0, 0, [])) none) (cond (Nat.ble i 64) (cond (Nat.beq i 64) (some (.bipush 15, 2, (0, 0, 0, 0), 15, 0, [])) none) (cond (Nat.beq i 66) (some (.ishr, 1, (0, 0, 0, 0), 0, 0, [])) none))) (cond (Nat.ble i 67) (cond (Nat.beq i 67) (some (.iconst 3, 1, (0, 0, 0, 0), 3, 0, [])) none) (cond (Nat.ble i 68) (cond (Nat.beq i 68) (some (.invokestatic 15, 3, (81, 2, 2, 1), 0, 0, [])) none) (cond (Nat.beq i 71) (some (.ifCond .ne 19, 3, (90, 0, 0, 0), 0, 0, [])) none))))))) (cond (Nat.ble i 112) (cond (Nat.ble i 92) (cond (Nat.ble i 80) (cond (Nat.ble i 75) (cond (Nat.ble i 74) (cond (Nat.beq i 74) (some (.aload_n 2, 1, (2, 0, 0, 0), 0, 0, [])) none) (cond (Nat.beq i 75) (some (.iload 5, 2, (5, 0, 0, 0), 0, 0, [])) none)) (cond (Nat.ble i 77) (cond (Nat.beq i 77) (some (.iaload, 1, (0, 0, 0, 0), 0, 0, [])) none) (cond (Nat.ble i 78) (cond (Nat.beq i 78) (some (.bipush 8, 2, (0, 0, 0, 0), 8, 0, [])) none) (cond (Nat.beq i 80) (some (.if_icmp .ge 10, 3, (90, 0, 0, 0), 0, 0, [])) none)))) (cond (Nat.ble i 86) (cond (Nat.ble i 83) (cond (Nat.beq i 83) (some (.aload_n 2, 1, (2, 0, 0, 0), 0, 0, [])) none) (cond (Nat.ble i 84) (cond (Nat.beq i 84) (some (.iload 5, 2, (5, 0, 0, 0), 0, 0, [])) none) (cond (Nat.beq i 86) (some (.iaload, 1, (0, 0, 0, 0), 0, 0, [])) none))) (cond (Nat.ble i 87) (cond (Nat.beq i 87) (some (.goto 5, 3, (92, 0, 0, 0), 0, 0, [])) none) (cond (Nat.ble i 90) (cond (Nat.beq i 90) (some (.bipush 8, 2, (0, 0, 0, 0), 8, 0, [])) none) (cond (Nat.beq i 92) (some (.istore 7, 2, (7, 0, 0, 0), 0, 0, [])) none))))) (cond (Nat.ble i 99) (cond (Nat.ble i 95) (cond (Nat.ble i 94) (cond (Nat.beq i 94) (some (.iload_n 1, 1, (1, 0, 0, 0), 0, 0, [])) none) (cond (Nat.beq i 95) (some (.bipush 7, 2, (0, 0, 0, 0), 7, 0, [])) none)) (cond (Nat.ble i 97) (cond (Nat.beq i 97) (some (.ishr, 1, (0, 0, 0, 0), 0, 0, [])) none) (cond (Nat.ble i 98) (cond (Nat.beq i 98) (some (.iconst 3, 1, (0, 0, 0, 0), 3, 0, [])) none) (cond (Nat.beq i 99) (some (.invokestatic 15, 3, (81, 2, 2, 1), 0, 0, [])) none)))) (cond (Nat.ble i 106) (cond (Nat.ble i 102) (cond (Nat.beq i 102) (some (.ifCond .ne 19, 3, (121, 0, 0, 0), 0, 0, [])) none) (cond (Nat.ble i 105) (cond (Nat.beq i 105) (some (.aload_n 0, 1, (0, 0, 0, 0), 0, 0, [])) none) (cond (Nat.beq i 106) (some (.iload 5, 2, (5, 0, 0, 0), 0, 0, [])) none))) (cond (Nat.ble i 108) (cond (Nat.beq i 108) (some (.iload 6, 2, (6, 0, 0, 0), 0, 0, [])) none) (cond (Nat.ble i 110) (cond (Nat.beq i 110) (some (.iload 7, 2, (7, 0, 0, 0), 0, 0, [])) none) (cond (Nat.beq i 112) (some (.iload_n 3, 1, (3, 0, 0, 0), 0, 0, [])) none)))))) (cond (Nat.ble i 129) (cond (Nat.ble i 122) (cond (Nat.ble i 115) (cond (Nat.ble i 113) (cond (Nat.beq i 113) (some (.iload 4, 2, (4, 0, 0, 0), 0, 0, [])) none) (cond (Nat.beq i 115) (some (.invokevirtual 25, 3, (40, 6, 6, 2305), 0, 0, [])) none)) (cond (Nat.ble i 118) (cond (Nat.beq i 118) (some (.goto 24, 3, (142, 0, 0, 0), 0, 0, [])) none) (cond (Nat.ble i 121) (cond (Nat.beq i 121) (some (.aload_n 0, 1, (0, 0, 0, 0), 0, 0, [])) none) (cond (Nat.beq i 122) (some (.iload_n 3, 1, (3, 0, 0, 0), 0, 0, [])) none)))) (cond (Nat.ble i 125) (cond (Nat.ble i 123) (cond (Nat.beq i 123) (some (.aload_n 2, 1, (2, 0, 0, 0), 0, 0, [])) none) (cond (Nat.ble i 124) (cond (Nat.beq i 124) (some (.iload_n 3, 1, (3, 0, 0, 0), 0, 0, [])) none) (cond (Nat.beq i 125) (some (.iaload, 1, (0, 0, 0, 0), 0, 0, [])) none))) (cond (Nat.ble i 126) (cond (Nat.beq i 126) (some (.iload_n 1, 1, (1, 0, 0, 0), 0, 0, [])) none) (cond (Nat.ble i 127) (cond (Nat.beq i 127) (some (.bipush 9, 2, (0, 0, 0, 0), 9, 0, [])) none) (cond (Nat.beq i 129) (some (.ishr, 1, (0, 0, 0, 0), 0, 0, [])) none))))) (cond (Nat.ble i 138) (cond (Nat.ble i 133) (cond (Nat.ble i 130) (cond (Nat.beq i 130) (some (.invokestatic 29, 3, (83, 2, 4, 1), 0, 0, [])) none) (cond (Nat.beq i 133) (some (.iload 4, 2, (4, 0, 0, 0), 0, 0, [])) none)) (cond (Nat.ble i 135) (cond (Nat.beq i 135) (some (.iload_n 1, 1, (1, 0, 0, 0), 0, 0, [])) none) (cond (Nat.ble i 136) (cond (Nat.beq i 136) (some (.bipush 11, 2, (0, 0, 0, 0), 11, 0, [])) none) (cond (Nat.beq i 138) (some (.ishr, 1, (0, 0, 0, 0), 0, 0, [])) none)))) (cond (Nat.ble i 145) (cond (Nat.ble i 139) (cond (Nat.beq i 139) (some (.invokevirtual 32, 3, (39, 5, 5, 2305), 0, 0, [])) none) (cond (Nat.ble i 142) (cond (Nat.beq i 142) (some (.ifCond .le 7, 3, (149, 0, 0, 0), 0, 0, [])) none) (cond (Nat.beq i 145) (some (.iconst 1, 1, (0, 0, 0, 0), 1, 0, [])) none))) (cond (Nat.ble i 146) (cond (Nat.beq i 146) (some (.goto 4, 3, (150, 0, 0, 0), 0, 0, [])) none) (cond (Nat.ble i 149) (cond (Nat.beq i 149) (some (.iconst 0, 1, (0, 0, 0, 0), 0, 0, [])) none) (cond (Nat.beq i 150) (some (.ireturn, 1, (1, 0, 0, 0), 0, 0, [])) none)))))))
/-- L_draft -/
def pd_k85 (i : Nat) : Option pd_O := cond (Nat.ble i 21) (cond (Nat.ble i 8) (cond (Nat.ble i 3) (cond (Nat.ble i 0) (cond (Nat.beq i 0) (some (.iconst 1, 1, (0, 0, 0, 0), 1, 0, [])) none) (cond (Nat.ble i 1) (cond (Nat.beq i 1) (some (.istore 4, 2, (4, 0, 0, 0), 0, 0, [])) none) (cond (Nat.beq i 3) (some (.iconst 0, 1, (0, 0, 0, 0), 0, 0, [])) none))) (cond (Nat.ble i 4) (cond (Nat.beq i 4) (some (.istore 5, 2, (5, 0, 0, 0), 0, 0, [])) none) (cond (Nat.ble i 6) (cond (Nat.beq i 6) (some (.iload 5, 2, (5, 0, 0, 0), 0, 0, [])) none) (cond (Nat.beq i 8) (some (.iconst 3, 1, (0, 0, 0, 0), 3, 0, [])) none)))) (cond (Nat.ble i 14) (cond (Nat.ble i 9) (cond (Nat.beq i 9) (some (.if_icmp .ge 34, 3, (43, 0, 0, 0), 0, 0, [])) none) (cond (Nat.ble i 12) (cond (Nat.beq i 12) (some (.iload 4, 2, (4, 0, 0, 0), 0, 0, [])) none) (cond (Nat.beq i 14) (some (.ifCond .eq 29, 3, (43, 0, 0, 0), 0, 0, [])) none))) (cond (Nat.ble i 18) (cond (Nat.ble i 17) (cond (Nat.beq i 17) (some (.aload_n 0, 1, (0, 0, 0, 0), 0, 0, [])) none) (cond (Nat.beq i 18) (some (.aload_n 1, 1, (1, 0, 0, 0), 0, 0, [])) none)) (cond (Nat.ble i 19) (cond (Nat.beq i 19) (some (.bipush 6, 2, (0, 0, 0, 0), 6, 0, [])) none) (cond (Nat.beq i 21) (some (.iconst 3, 1, (0, 0, 0, 0), 3, 0, [])) none))))) (cond (Nat.ble i 28) (cond (Nat.ble i 24) (cond (Nat.ble i 22) (cond (Nat.beq i 22) (some (.iload_n 2, 1, (2, 0, 0, 0), 0, 0, [])) none) (cond (Nat.ble i 23) (cond (Nat.beq i 23) (some (.imul, 1, (0, 0, 0, 0), 0, 0, [])) none) (cond (Nat.beq i 24) (some (.iadd, 1, (0, 0, 0, 0), 0, 0, [])) none))) (cond (Nat.ble i 25) (cond (Nat.beq i 25) (some (.iload 5, 2, (5, 0, 0, 0), 0, 0, [])) none) (cond (Nat.ble i 27) (cond (Nat.beq i 27) (some (.iadd, 1, (0, 0, 0, 0), 0, 0, [])) none) (cond (Nat.beq i 28) (some (.invokestatic 9, 3, (80, 2, 2, 1), 0, 0, [])) none)))) (cond (Nat.ble i 35) (cond (Nat.ble i 31) (cond (Nat.beq i 31) (some (.aload_n 3, 1, (3, 0, 0, 0), 0, 0, [])) none) (cond (Nat.ble i 32) (cond (Nat.beq i 32) (some (.invokestatic 36, 3, (84, 3, 8, 1), 0, 0, [])) none) (cond (Nat.beq i 35) (some (.istore 4, 2, (4, 0, 0, 0), 0, 0, [])) none))) (cond (Nat.ble i 40) (cond (Nat.ble i 37) (cond (Nat.beq i 37) (some (.iinc 5 1, 3, (5, 0, 0, 0), 1, 0, [])) none) (cond (Nat.beq i 40) (some (.goto (-34), 3, (6, 0, 0, 0), 0, 0, [])) none)) (cond (Nat.ble i 43) (cond (Nat.beq i 43) (some (.iload 4, 2, (4, 0, 0, 0), 0, 0, [])) none) (cond (Nat.beq i 45) (some (.ireturn, 1, (1, 0, 0, 0), 0, 0, [])) none)))))
/-- L_alike -/
def pd_k86 (i : Nat) : Option pd_O := cond (Nat.ble i 43) (cond (Nat.ble i 19) (cond (Nat.ble i 7) (cond (Nat.ble i 2) (cond (Nat.ble i 0) (cond (Nat.beq i 0) (some (.iconst 1, 1, (0, 0, 0, 0), 1, 0, [])) none) (cond (Nat.ble i 1) (cond (Nat.beq i 1) (some (.istore_n 3, 1, (3, 0, 0, 0), 0, 0, [])) none) (cond (Nat.beq i 2) (some (.iconst 0, 1, (0, 0, 0, 0), 0, 0, [])) none))) (cond (Nat.ble i 3) (cond (Nat.beq i 3) (some (.istore 4, 2, (4, 0, 0, 0), 0, 0, [])) none) (cond (Nat.ble i 5) (cond (Nat.beq i 5) (some (.iload 4, 2, (4, 0, 0, 0), 0, 0, [])) none) (cond (Nat.beq i 7) (some (.bipush 6, 2, (0, 0, 0, 0), 6, 0, [])) none)))) (cond (Nat.ble i 13) (cond (Nat.ble i 9) (cond (Nat.beq i 9) (some (.if_icmp .ge 87, 3, (96, 0, 0, 0), 0, 0, [])) none) (cond (Nat.ble i 12) (cond (Nat.beq i 12) (some (.iload_n 3, 1, (3, 0, 0, 0), 0, 0, [])) none) (cond (Nat.beq i 13) (some (.ifCond .eq 83, 3, (96, 0, 0, 0), 0, 0, [])) none))) (cond (Nat.ble i 16) (cond (Nat.beq i 16) (some (.iconst 0, 1, (0, 0, 0, 0), 0, 0, [])) none) (cond (Nat.ble i 17) (cond (Nat.beq i 17) (some (.istore 5, 2, (5, 0, 0, 0), 0, 0, [])) none) (cond (Nat.beq i 19) (some (.iload 5, 2, (5, 0, 0, 0), 0, 0, [])) none))))) (cond (Nat.ble i 28) (cond (Nat.ble i 24) (cond (Nat.ble i 21) (cond (Nat.beq i 21) (some (.aload_n 2, 1, (2, 0, 0, 0), 0, 0, [])) none) (cond (Nat.ble i 22) (cond (Nat.beq i 22) (some (.bipush 6, 2, (0, 0, 0, 0), 6, 0, [])) none) (cond (Nat.beq i 24) (some (.iload 4, 2, (4, 0, 0, 0), 0, 0, [])) none))) (cond (Nat.ble i 26) (cond (Nat.beq i 26) (some (.iadd, 1, (0, 0, 0, 0), 0, 0, [])) none) (cond (Nat.ble i 27) (cond (Nat.beq i 27) (some (.iaload, 1, (0, 0, 0, 0), 0, 0, [])) none) (cond (Nat.beq i 28) (some (.if_icmp .ge 62, 3, (90, 0, 0, 0), 0, 0, [])) none)))) (cond (Nat.ble i 35) (cond (Nat.ble i 31) (cond (Nat.beq i 31) (some (.iload_n 3, 1, (3, 0, 0, 0), 0, 0, [])) none) (cond (Nat.ble i 32) (cond (Nat.beq i 32) (some (.ifCond .eq 58, 3, (90, 0, 0, 0), 0, 0, [])) none) (cond (Nat.beq i 35) (some (.aload_n 0, 1, (0, 0, 0, 0), 0, 0, [])) none))) (cond (Nat.ble i 38) (cond (Nat.ble i 36) (cond (Nat.beq i 36) (some (.iload 4, 2, (4, 0, 0, 0), 0, 0, [])) none) (cond (Nat.beq i 38) (some (.iload 5, 2, (5, 0, 0, 0), 0, 0, [])) none)) (cond (Nat.ble i 40) (cond (Nat.beq i 40) (some (.invokevirtual 39, 3, (38, 3, 4, 2305), 0, 0, [])) none) (cond (Nat.beq i 43) (some (.aload_n 1, 1, (1, 0, 0, 0), 0, 0, [])) none)))))) (cond (Nat.ble i 69) (cond (Nat.ble i 55) (cond (Nat.ble i 48) (cond (Nat.ble i 44) (cond (Nat.beq i 44) (some (.iload 4, 2, (4, 0, 0, 0), 0, 0, [])) none) (cond (Nat.ble i 46) (cond (Nat.beq i 46) (some (.iload 5, 2, (5, 0, 0, 0), 0, 0, [])) none) (cond (Nat.beq i 48) (some (.invokevirtual 39, 3, (38, 3, 4, 2305), 0, 0, [])) none))) (cond (Nat.ble i 51) (cond (Nat.beq i 51) (some (.if_icmp .ne 31, 3, (82, 0, 0, 0), 0, 0, [])) none) (cond (Nat.ble i 54) (cond (Nat.beq i 54) (some (.aload_n 0, 1, (0, 0, 0, 0), 0, 0, [])) none) (cond (Nat.beq i 55) (some (.iload 4, 2, (4, 0, 0, 0), 0, 0, [])) none)))) (cond (Nat.ble i 61) (cond (Nat.ble i 57) (cond (Nat.beq i 57) (some (.bipush 8, 2, (0, 0, 0, 0), 8, 0, [])) none) (cond (Nat.ble i 59) (cond (Nat.beq i 59) (some (.iload 5, 2, (5, 0, 0, 0), 0, 0, [])) none) (cond (Nat.beq i 61) (some (.invokevirtual 42, 3, (37, 4, 4, 2306), 0, 0, [])) none))) (cond (Nat.ble i 65) (cond (Nat.ble i 64) (cond (Nat.beq i 64) (some (.aload_n 1, 1, (1, 0, 0, 0), 0, 0, [])) none) (cond (Nat.beq i 65) (some (.iload 4, 2, (4, 0, 0, 0), 0, 0, [])) none)) (cond (Nat.ble i 67) (cond (Nat.beq i 67) (some (.bipush 8, 2, (0, 0, 0, 0), 8, 0, [])) none) (cond (Nat.beq i 69) (some (.iload 5, 2, (5, 0, 0, 0), 0, 0, [])) none))))) (cond (Nat.ble i 82) (cond (Nat.ble i 75) (cond (Nat.ble i 71) (cond (Nat.beq i 71) (some (.invokevirtual 42, 3, (37, 4, 4, 2306), 0, 0, [])) none) (cond (Nat.ble i 74) (cond (Nat.beq i 74) (some (.lcmp, 1, (0, 0, 0, 0), 0, 0, [])) none) (cond (Nat.beq i 75) (some (.ifCond .ne 7, 3, (82, 0, 0, 0), 0, 0, [])) none))) (cond (Nat.ble i 78) (cond (Nat.beq i 78) (some (.iconst 1, 1, (0, 0, 0, 0), 1, 0, [])) none) (cond (Nat.ble i 79) (cond (Nat.beq i 79) (some (.goto 4, 3, (83, 0, 0, 0), 0, 0, [])) none) (cond (Nat.beq i 82) (some (.iconst 0, 1, (0, 0, 0, 0), 0, 0, [])) none)))) (cond (Nat.ble i 87) (cond (Nat.ble i 83) (cond (Nat.beq i 83) (some (.istore_n 3, 1, (3, 0, 0, 0), 0, 0, [])) none) (cond (Nat.ble i 84) (cond (Nat.beq i 84) (some (.iinc 5 1, 3, (5, 0, 0, 0), 1, 0, [])) none) (cond (Nat.beq i 87) (some (.goto (-68), 3, (19, 0, 0, 0), 0, 0, [])) none))) (cond (Nat.ble i 93) (cond (Nat.ble i 90) (cond (Nat.beq i 90) (some (.iinc 4 1, 3, (4, 0, 0, 0), 1, 0, [])) none) (cond (Nat.beq i 93) (some (.goto (-88), 3, (5, 0, 0, 0), 0, 0, [])) none)) (cond (Nat.ble i 96) (cond (Nat.beq i 96) (some (.iload_n 3, 1, (3, 0, 0, 0), 0, 0, [])) none) (cond (Nat.beq i 97) (some (.ireturn, 1, (1, 0, 0, 0), 0, 0, [])) none))))))
/-- L_size -/
def pd_k87 (i : Nat) : Option pd_O := cond (Nat.ble i 11) (cond (Nat.ble i 3) (cond (Nat.ble i 1) (cond (Nat.ble i 0) (cond (Nat.beq i 0) (some (.iconst 0, 1, (0, 0, 0, 0), 0, 0, [])) none) (cond (Nat.beq i 1) (some (.istore_n 1, 1, (1, 0, 0, 0), 0, 0, [])) none)) (cond (Nat.ble i 2) (cond (Nat.beq i 2) (some (.iconst 0, 1, (0, 0, 0, 0), 0, 0, [])) none) (cond (Nat.beq i 3) (some (.istore_n 2, 1, (2, 0, 0, 0), 0, 0, [])) none))) (cond (Nat.ble i 5) (cond (Nat.ble i 4) (cond (Nat.beq i 4) (some (.iload_n 2, 1, (2, 0, 0, 0), 0, 0, [])) none) (cond (Nat.beq i 5) (some (.bipush 24, 2, (0, 0, 0, 0), 24, 0, [])) none)) (cond (Nat.ble i 7) (cond (Nat.beq i 7) (some (.if_icmp .ge 17, 3, (24, 0, 0, 0), 0, 0, [])) none) (cond (Nat.ble i 10) (cond (Nat.beq i 10) (some (.iload_n 1, 1, (1, 0, 0, 0), 0, 0, [])) none) (cond (Nat.beq i 11) (some (.iload_n 0, 1, (0, 0, 0, 0), 0, 0, [])) none))))) (cond (Nat.ble i 16) (cond (Nat.ble i 13) (cond (Nat.ble i 12) (cond (Nat.beq i 12) (some (.iload_n 2, 1, (2, 0, 0, 0), 0, 0, [])) none) (cond (Nat.beq i 13) (some (.ishr, 1, (0, 0, 0, 0), 0, 0, [])) none)) (cond (Nat.ble i 14) (cond (Nat.beq i 14) (some (.iconst 1, 1, (0, 0, 0, 0), 1, 0, [])) none) (cond (Nat.ble i 15) (cond (Nat.beq i 15) (some (.iand, 1, (0, 0, 0, 0), 0, 0, [])) none) (cond (Nat.beq i 16) (some (.iadd, 1, (0, 0, 0, 0), 0, 0, [])) none)))) (cond (Nat.ble i 18) (cond (Nat.ble i 17) (cond (Nat.beq i 17) (some (.istore_n 1, 1, (1, 0, 0, 0), 0, 0, [])) none) (cond (Nat.beq i 18) (some (.iinc 2 1, 3, (2, 0, 0, 0), 1, 0, [])) none)) (cond (Nat.ble i 21) (cond (Nat.beq i 21) (some (.goto (-17), 3, (4, 0, 0, 0), 0, 0, [])) none) (cond (Nat.ble i 24) (cond (Nat.beq i 24) (some (.iload_n 1, 1, (1, 0, 0, 0), 0, 0, [])) none) (cond (Nat.beq i 25) (some (.ireturn, 1, (0, 0, 0, 0), 0, 0, [])) none)))))
/-- L_lays -/
def pd_k88 (i : Nat) : Option pd_O := cond (Nat.ble i 39) (cond (Nat.ble i 21) (cond (Nat.ble i 8) (cond (Nat.ble i 3) (cond (Nat.ble i 0) (cond (Nat.beq i 0) (some (.iconst 0, 1, (0, 0, 0, 0), 0, 0, [])) none) (cond (Nat.ble i 1) (cond (Nat.beq i 1) (some (.istore 4, 2, (4, 0, 0, 0), 0, 0, [])) none) (cond (Nat.beq i 3) (some (.iconst 0, 1, (0, 0, 0, 0), 0, 0, [])) none))) (cond (Nat.ble i 4) (cond (Nat.beq i 4) (some (.istore 5, 2, (5, 0, 0, 0), 0, 0, [])) none) (cond (Nat.ble i 6) (cond (Nat.beq i 6) (some (.iload 5, 2, (5, 0, 0, 0), 0, 0, [])) none) (cond (Nat.beq i 8) (some (.bipush 7, 2, (0, 0, 0, 0), 7, 0, [])) none)))) (cond (Nat.ble i 15) (cond (Nat.ble i 10) (cond (Nat.beq i 10) (some (.if_icmp .ge 80, 3, (90, 0, 0, 0), 0, 0, [])) none) (cond (Nat.ble i 13) (cond (Nat.beq i 13) (some (.iload 4, 2, (4, 0, 0, 0), 0, 0, [])) none) (cond (Nat.beq i 15) (some (.ifCond .ne 75, 3, (90, 0, 0, 0), 0, 0, [])) none))) (cond (Nat.ble i 18) (cond (Nat.beq i 18) (some (.aload_n 2, 1, (2, 0, 0, 0), 0, 0, [])) none) (cond (Nat.ble i 19) (cond (Nat.beq i 19) (some (.bipush 12, 2, (0, 0, 0, 0), 12, 0, [])) none) (cond (Nat.beq i 21) (some (.iload 5, 2, (5, 0, 0, 0), 0, 0, [])) none))))) (cond (Nat.ble i 30) (cond (Nat.ble i 25) (cond (Nat.ble i 23) (cond (Nat.beq i 23) (some (.iadd, 1, (0, 0, 0, 0), 0, 0, [])) none) (cond (Nat.ble i 24) (cond (Nat.beq i 24) (some (.iaload, 1, (0, 0, 0, 0), 0, 0, [])) none) (cond (Nat.beq i 25) (some (.ifCond .lt 21, 3, (46, 0, 0, 0), 0, 0, [])) none))) (cond (Nat.ble i 28) (cond (Nat.beq i 28) (some (.iload_n 3, 1, (3, 0, 0, 0), 0, 0, [])) none) (cond (Nat.ble i 29) (cond (Nat.beq i 29) (some (.aload_n 2, 1, (2, 0, 0, 0), 0, 0, [])) none) (cond (Nat.beq i 30) (some (.bipush 12, 2, (0, 0, 0, 0), 12, 0, [])) none)))) (cond (Nat.ble i 35) (cond (Nat.ble i 32) (cond (Nat.beq i 32) (some (.iload 5, 2, (5, 0, 0, 0), 0, 0, [])) none) (cond (Nat.ble i 34) (cond (Nat.beq i 34) (some (.iadd, 1, (0, 0, 0, 0), 0, 0, [])) none) (cond (Nat.beq i 35) (some (.iaload, 1, (0, 0, 0, 0), 0, 0, [])) none))) (cond (Nat.ble i 37) (cond (Nat.ble i 36) (cond (Nat.beq i 36) (some (.ishr, 1, (0, 0, 0, 0), 0, 0, [])) none) (cond (Nat.beq i 37) (some (.iconst 1, 1, (0, 0, 0, 0), 1, 0, [])) none)) (cond (Nat.ble i 38) (cond (Nat.beq i 38) (some (.iand, 1, (0, 0, 0, 0), 0, 0, [])) none) (cond (Nat.beq i 39) (some (.ifCond .ne 7, 3, (46, 0, 0, 0), 0, 0, [])) none)))))) (cond (Nat.ble i 62) (cond (Nat.ble i 51) (cond (Nat.ble i 46) (cond (Nat.ble i 42) (cond (Nat.beq i 42) (some (.iconst 1, 1, (0, 0, 0, 0), 1, 0, [])) none) (cond (Nat.ble i 43) (cond (Nat.beq i 43) (some (.goto 4, 3, (47, 0, 0, 0), 0, 0, [])) none) (cond (Nat.beq i 46) (some (.iconst 0, 1, (0, 0, 0, 0), 0, 0, [])) none))) (cond (Nat.ble i 47) (cond (Nat.beq i 47) (some (.istore 6, 2, (6, 0, 0, 0), 0, 0, [])) none) (cond (Nat.ble i 49) (cond (Nat.beq i 49) (some (.iload 6, 2, (6, 0, 0, 0), 0, 0, [])) none) (cond (Nat.beq i 51) (some (.ifCond .eq 33, 3, (84, 0, 0, 0), 0, 0, [])) none)))) (cond (Nat.ble i 56) (cond (Nat.ble i 54) (cond (Nat.beq i 54) (some (.aload_n 0, 1, (0, 0, 0, 0), 0, 0, [])) none) (cond (Nat.ble i 55) (cond (Nat.beq i 55) (some (.aload_n 1, 1, (1, 0, 0, 0), 0, 0, [])) none) (cond (Nat.beq i 56) (some (.iload 5, 2, (5, 0, 0, 0), 0, 0, [])) none))) (cond (Nat.ble i 58) (cond (Nat.beq i 58) (some (.aload_n 2, 1, (2, 0, 0, 0), 0, 0, [])) none) (cond (Nat.ble i 59) (cond (Nat.beq i 59) (some (.invokestatic 46, 3, (85, 4, 6, 1), 0, 0, [])) none) (cond (Nat.beq i 62) (some (.ifCond .eq 22, 3, (84, 0, 0, 0), 0, 0, [])) none))))) (cond (Nat.ble i 76) (cond (Nat.ble i 69) (cond (Nat.ble i 65) (cond (Nat.beq i 65) (some (.aload_n 0, 1, (0, 0, 0, 0), 0, 0, [])) none) (cond (Nat.ble i 66) (cond (Nat.beq i 66) (some (.invokevirtual 50, 3, (42, 1, 4, 2305), 0, 0, [])) none) (cond (Nat.beq i 69) (some (.istore 7, 2, (7, 0, 0, 0), 0, 0, [])) none))) (cond (Nat.ble i 71) (cond (Nat.beq i 71) (some (.iload 7, 2, (7, 0, 0, 0), 0, 0, [])) none) (cond (Nat.ble i 73) (cond (Nat.beq i 73) (some (.ifCond .ge 8, 3, (81, 0, 0, 0), 0, 0, [])) none) (cond (Nat.beq i 76) (some (.iload 7, 2, (7, 0, 0, 0), 0, 0, [])) none)))) (cond (Nat.ble i 82) (cond (Nat.ble i 78) (cond (Nat.beq i 78) (some (.goto 4, 3, (82, 0, 0, 0), 0, 0, [])) none) (cond (Nat.ble i 81) (cond (Nat.beq i 81) (some (.iconst 0, 1, (0, 0, 0, 0), 0, 0, [])) none) (cond (Nat.beq i 82) (some (.istore 4, 2, (4, 0, 0, 0), 0, 0, [])) none))) (cond (Nat.ble i 87) (cond (Nat.ble i 84) (cond (Nat.beq i 84) (some (.iinc 5 1, 3, (5, 0, 0, 0), 1, 0, [])) none) (cond (Nat.beq i 87) (some (.goto (-81), 3, (6, 0, 0, 0), 0, 0, [])) none)) (cond (Nat.ble i 90) (cond (Nat.beq i 90) (some (.iload 4, 2, (4, 0, 0, 0), 0, 0, [])) none) (cond (Nat.beq i 92) (some (.ireturn, 1, (0, 0, 0, 0), 0, 0, [])) none))))))
/-- L_law -/
def pd_k89 (i : Nat) : Option pd_O := cond (Nat.ble i 539) (cond (Nat.ble i 270) (cond (Nat.ble i 133) (cond (Nat.ble i 64) (cond (Nat.ble i 31) (cond (Nat.ble i 15) (cond (Nat.ble i 7) (cond (Nat.ble i 3) (cond (Nat.ble i 0) (cond (Nat.beq i 0) (some (.new 20, 3, (0, 0, 0, 0), 0, 0, [])) none) (cond (Nat.beq i 3) (some (.dup, 1, (0, 0, 0, 0), 0, 0, [])) none)) (cond (Nat.ble i 4) (cond (Nat.beq i 4) (some (.invokespecial 54, 3, (0, 0, 0, 0), 0, 0, [])) none) (cond (Nat.beq i 7) (some (.astore_n 1, 1, (1, 0, 0, 0), 0, 0, [])) none))) (cond (Nat.ble i 11) (cond (Nat.ble i 8) (cond (Nat.beq i 8) (some (.new 20, 3, (0, 0, 0, 0), 0, 0, [])) none) (cond (Nat.beq i 11) (some (.dup, 1, (0, 0, 0, 0), 0, 0, [])) none)) (cond (Nat.ble i 12) (cond (Nat.beq i 12) (some (.invokespecial 54, 3, (0, 0, 0, 0), 0, 0, [])) none) (cond (Nat.beq i 15) (some (.astore_n 2, 1, (2, 0, 0, 0), 0, 0, [])) none)))) (cond (Nat.ble i 23) (cond (Nat.ble i 19) (cond (Nat.ble i 16) (cond (Nat.beq i 16) (some (.new 20, 3, (0, 0, 0, 0), 0, 0, [])) none) (cond (Nat.beq i 19) (some (.dup, 1, (0, 0, 0, 0), 0, 0, [])) none)) (cond (Nat.ble i 20) (cond (Nat.beq i 20) (some (.invokespecial 54, 3, (0, 0, 0, 0), 0, 0, [])) none) (cond (Nat.beq i 23) (some (.astore_n 3, 1, (3, 0, 0, 0), 0, 0, [])) none))) (cond (Nat.ble i 27) (cond (Nat.ble i 24) (cond (Nat.beq i 24) (some (.new 20, 3, (0, 0, 0, 0), 0, 0, [])) none) (cond (Nat.beq i 27) (some (.dup, 1, (0, 0, 0, 0), 0, 0, [])) none)) (cond (Nat.ble i 28) (cond (Nat.beq i 28) (some (.invokespecial 54, 3, (0, 0, 0, 0), 0, 0, [])) none) (cond (Nat.beq i 31) (some (.astore 4, 2, (4, 0, 0, 0), 0, 0, [])) none))))) (cond (Nat.ble i 48) (cond (Nat.ble i 39) (cond (Nat.ble i 35) (cond (Nat.ble i 33) (cond (Nat.beq i 33) (some (.bipush 20, 2, (0, 0, 0, 0), 20, 0, [])) none) (cond (Nat.beq i 35) (some (.newarray .int, 2, (0, 0, 0, 0), 0, 0, [])) none)) (cond (Nat.ble i 37) (cond (Nat.beq i 37) (some (.astore 5, 2, (5, 0, 0, 0), 0, 0, [])) none) (cond (Nat.beq i 39) (some (.bipush 24, 2, (0, 0, 0, 0), 24, 0, [])) none))) (cond (Nat.ble i 43) (cond (Nat.ble i 41) (cond (Nat.beq i 41) (some (.newarray .long, 2, (0, 0, 0, 0), 0, 0, [])) none) (cond (Nat.beq i 43) (some (.astore 6, 2, (6, 0, 0, 0), 0, 0, [])) none)) (cond (Nat.ble i 45) (cond (Nat.beq i 45) (some (.ldc2_w 55, 3, (0, 0, 0, 0), 0, -9223372036854775808, [])) none) (cond (Nat.beq i 48) (some (.lstore 7, 2, (7, 0, 0, 0), 0, 0, [])) none)))) (cond (Nat.ble i 54) (cond (Nat.ble i 51) (cond (Nat.ble i 50) (cond (Nat.beq i 50) (some (.aload_n 1, 1, (1, 0, 0, 0), 0, 0, [])) none) (cond (Nat.beq i 51) (some (.aload_n 0, 1, (0, 0, 0, 0), 0, 0, [])) none)) (cond (Nat.ble i 52) (cond (Nat.beq i 52) (some (.aload 5, 2, (5, 0, 0, 0), 0, 0, [])) none) (cond (Nat.beq i 54) (some (.invokestatic 57, 3, (82, 3, 6, 1), 0, 0, [])) none))) (cond (Nat.ble i 60) (cond (Nat.ble i 57) (cond (Nat.beq i 57) (some (.ifCond .eq 38, 3, (95, 0, 0, 0), 0, 0, [])) none) (cond (Nat.beq i 60) (some (.aload_n 2, 1, (2, 0, 0, 0), 0, 0, [])) none)) (cond (Nat.ble i 61) (cond (Nat.beq i 61) (some (.aload_n 0, 1, (0, 0, 0, 0), 0, 0, [])) none) (cond (Nat.ble i 62) (cond (Nat.beq i 62) (some (.aload 5, 2, (5, 0, 0, 0), 0, 0, [])) none) (cond (Nat.beq i 64) (some (.invokestatic 57, 3, (82, 3, 6, 1), 0, 0, [])) none))))))) (cond (Nat.ble i 99) (cond (Nat.ble i 82) (cond (Nat.ble i 72) (cond (Nat.ble i 70) (cond (Nat.ble i 67) (cond (Nat.beq i 67) (some (.ifCond .eq 28, 3, (95, 0, 0, 0), 0, 0, [])) none) (cond (Nat.beq i 70) (some (.aload_n 3, 1, (3, 0, 0, 0), 0, 0, [])) none)) (cond (Nat.ble i 71) (cond (Nat.beq i 71) (some (.aload_n 0, 1, (0, 0, 0, 0), 0, 0, [])) none) (cond (Nat.beq i 72) (some (.aload 5, 2, (5, 0, 0, 0), 0, 0, [])) none))) (cond (Nat.ble i 77) (cond (Nat.ble i 74) (cond (Nat.beq i 74) (some (.invokestatic 57, 3, (82, 3, 6, 1), 0, 0, [])) none) (cond (Nat.beq i 77) (some (.ifCond .eq 18, 3, (95, 0, 0, 0), 0, 0, [])) none)) (cond (Nat.ble i 80) (cond (Nat.beq i 80) (some (.aload 4, 2, (4, 0, 0, 0), 0, 0, [])) none) (cond (Nat.beq i 82) (some (.aload_n 0, 1, (0, 0, 0, 0), 0, 0, [])) none)))) (cond (Nat.ble i 91) (cond (Nat.ble i 85) (cond (Nat.ble i 83) (cond (Nat.beq i 83) (some (.aload 5, 2, (5, 0, 0, 0), 0, 0, [])) none) (cond (Nat.beq i 85) (some (.invokestatic 57, 3, (82, 3, 6, 1), 0, 0, [])) none)) (cond (Nat.ble i 88) (cond (Nat.beq i 88) (some (.ifCond .eq 7, 3, (95, 0, 0, 0), 0, 0, [])) none) (cond (Nat.beq i 91) (some (.iconst 1, 1, (0, 0, 0, 0), 1, 0, [])) none))) (cond (Nat.ble i 95) (cond (Nat.ble i 92) (cond (Nat.beq i 92) (some (.goto 4, 3, (96, 0, 0, 0), 0, 0, [])) none) (cond (Nat.beq i 95) (some (.iconst 0, 1, (0, 0, 0, 0), 0, 0, [])) none)) (cond (Nat.ble i 96) (cond (Nat.beq i 96) (some (.istore 9, 2, (9, 0, 0, 0), 0, 0, [])) none) (cond (Nat.ble i 98) (cond (Nat.beq i 98) (some (.iconst 0, 1, (0, 0, 0, 0), 0, 0, [])) none) (cond (Nat.beq i 99) (some (.istore 10, 2, (10, 0, 0, 0), 0, 0, [])) none)))))) (cond (Nat.ble i 116) (cond (Nat.ble i 106) (cond (Nat.ble i 102) (cond (Nat.ble i 101) (cond (Nat.beq i 101) (some (.iconst 0, 1, (0, 0, 0, 0), 0, 0, [])) none) (cond (Nat.beq i 102) (some (.istore 11, 2, (11, 0, 0, 0), 0, 0, [])) none)) (cond (Nat.ble i 104) (cond (Nat.beq i 104) (some (.iload 11, 2, (11, 0, 0, 0), 0, 0, [])) none) (cond (Nat.beq i 106) (some (.bipush 7, 2, (0, 0, 0, 0), 7, 0, [])) none))) (cond (Nat.ble i 111) (cond (Nat.ble i 108) (cond (Nat.beq i 108) (some (.if_icmp .ge 152, 3, (260, 0, 0, 0), 0, 0, [])) none) (cond (Nat.beq i 111) (some (.iload 9, 2, (9, 0, 0, 0), 0, 0, [])) none)) (cond (Nat.ble i 113) (cond (Nat.beq i 113) (some (.ifCond .eq 147, 3, (260, 0, 0, 0), 0, 0, [])) none) (cond (Nat.beq i 116) (some (.aload_n 1, 1, (1, 0, 0, 0), 0, 0, [])) none)))) (cond (Nat.ble i 122) (cond (Nat.ble i 118) (cond (Nat.ble i 117) (cond (Nat.beq i 117) (some (.aload_n 0, 1, (0, 0, 0, 0), 0, 0, [])) none) (cond (Nat.beq i 118) (some (.iload 11, 2, (11, 0, 0, 0), 0, 0, [])) none)) (cond (Nat.ble i 120) (cond (Nat.beq i 120) (some (.aload 5, 2, (5, 0, 0, 0), 0, 0, [])) none) (cond (Nat.beq i 122) (some (.invokestatic 46, 3, (85, 4, 6, 1), 0, 0, [])) none))) (cond (Nat.ble i 127) (cond (Nat.ble i 125) (cond (Nat.beq i 125) (some (.istore 9, 2, (9, 0, 0, 0), 0, 0, [])) none) (cond (Nat.beq i 127) (some (.aload_n 1, 1, (1, 0, 0, 0), 0, 0, [])) none)) (cond (Nat.ble i 128) (cond (Nat.beq i 128) (some (.invokevirtual 50, 3, (42, 1, 4, 2305), 0, 0, [])) none) (cond (Nat.ble i 131) (cond (Nat.beq i 131) (some (.istore 12, 2, (12, 0, 0, 0), 0, 0, [])) none) (cond (Nat.beq i 133) (some (.aload 5, 2, (5, 0, 0, 0), 0, 0, [])) none)))))))) (cond (Nat.ble i 203) (cond (Nat.ble i 166) (cond (Nat.ble i 150) (cond (Nat.ble i 140) (cond (Nat.ble i 137) (cond (Nat.ble i 135) (cond (Nat.beq i 135) (some (.bipush 12, 2, (0, 0, 0, 0), 12, 0, [])) none) (cond (Nat.beq i 137) (some (.iload 11, 2, (11, 0, 0, 0), 0, 0, [])) none)) (cond (Nat.ble i 139) (cond (Nat.beq i 139) (some (.iadd, 1, (0, 0, 0, 0), 0, 0, [])) none) (cond (Nat.beq i 140) (some (.iload 12, 2, (12, 0, 0, 0), 0, 0, [])) none))) (cond (Nat.ble i 145) (cond (Nat.ble i 142) (cond (Nat.beq i 142) (some (.ifCond .lt 8, 3, (150, 0, 0, 0), 0, 0, [])) none) (cond (Nat.beq i 145) (some (.iload 12, 2, (12, 0, 0, 0), 0, 0, [])) none)) (cond (Nat.ble i 147) (cond (Nat.beq i 147) (some (.goto 4, 3, (151, 0, 0, 0), 0, 0, [])) none) (cond (Nat.beq i 150) (some (.iconst (-1), 1, (0, 0, 0, 0), -1, 0, [])) none)))) (cond (Nat.ble i 157) (cond (Nat.ble i 152) (cond (Nat.ble i 151) (cond (Nat.beq i 151) (some (.iastore, 1, (0, 0, 0, 0), 0, 0, [])) none) (cond (Nat.beq i 152) (some (.iload 9, 2, (9, 0, 0, 0), 0, 0, [])) none)) (cond (Nat.ble i 154) (cond (Nat.beq i 154) (some (.ifCond .eq 82, 3, (236, 0, 0, 0), 0, 0, [])) none) (cond (Nat.beq i 157) (some (.iload 12, 2, (12, 0, 0, 0), 0, 0, [])) none))) (cond (Nat.ble i 162) (cond (Nat.ble i 159) (cond (Nat.beq i 159) (some (.ifCond .lt 13, 3, (172, 0, 0, 0), 0, 0, [])) none) (cond (Nat.beq i 162) (some (.iload 12, 2, (12, 0, 0, 0), 0, 0, [])) none)) (cond (Nat.ble i 164) (cond (Nat.beq i 164) (some (.iload 10, 2, (10, 0, 0, 0), 0, 0, [])) none) (cond (Nat.beq i 166) (some (.if_icmp .ne 70, 3, (236, 0, 0, 0), 0, 0, [])) none))))) (cond (Nat.ble i 186) (cond (Nat.ble i 176) (cond (Nat.ble i 172) (cond (Nat.ble i 169) (cond (Nat.beq i 169) (some (.goto 63, 3, (232, 0, 0, 0), 0, 0, [])) none) (cond (Nat.beq i 172) (some (.iload 12, 2, (12, 0, 0, 0), 0, 0, [])) none)) (cond (Nat.ble i 174) (cond (Nat.beq i 174) (some (.bipush (-11), 2, (0, 0, 0, 0), -11, 0, [])) none) (cond (Nat.beq i 176) (some (.if_icmp .gt 60, 3, (236, 0, 0, 0), 0, 0, [])) none))) (cond (Nat.ble i 181) (cond (Nat.ble i 179) (cond (Nat.beq i 179) (some (.iload 12, 2, (12, 0, 0, 0), 0, 0, [])) none) (cond (Nat.beq i 181) (some (.bipush (-15), 2, (0, 0, 0, 0), -15, 0, [])) none)) (cond (Nat.ble i 183) (cond (Nat.beq i 183) (some (.if_icmp .lt 53, 3, (236, 0, 0, 0), 0, 0, [])) none) (cond (Nat.beq i 186) (some (.aload_n 1, 1, (1, 0, 0, 0), 0, 0, [])) none)))) (cond (Nat.ble i 193) (cond (Nat.ble i 188) (cond (Nat.ble i 187) (cond (Nat.beq i 187) (some (.iconst 0, 1, (0, 0, 0, 0), 0, 0, [])) none) (cond (Nat.beq i 188) (some (.invokevirtual 61, 3, (53, 2, 2, 2305), 0, 0, [])) none)) (cond (Nat.ble i 191) (cond (Nat.beq i 191) (some (.bipush 24, 2, (0, 0, 0, 0), 24, 0, [])) none) (cond (Nat.beq i 193) (some (.if_icmp .ne 43, 3, (236, 0, 0, 0), 0, 0, [])) none))) (cond (Nat.ble i 197) (cond (Nat.ble i 196) (cond (Nat.beq i 196) (some (.aload_n 1, 1, (1, 0, 0, 0), 0, 0, [])) none) (cond (Nat.beq i 197) (some (.iconst 2, 1, (0, 0, 0, 0), 2, 0, [])) none)) (cond (Nat.ble i 198) (cond (Nat.beq i 198) (some (.invokevirtual 61, 3, (53, 2, 2, 2305), 0, 0, [])) none) (cond (Nat.ble i 201) (cond (Nat.beq i 201) (some (.bipush (-10), 2, (0, 0, 0, 0), -10, 0, [])) none) (cond (Nat.beq i 203) (some (.iload 12, 2, (12, 0, 0, 0), 0, 0, [])) none))))))) (cond (Nat.ble i 237) (cond (Nat.ble i 218) (cond (Nat.ble i 210) (cond (Nat.ble i 206) (cond (Nat.ble i 205) (cond (Nat.beq i 205) (some (.isub, 1, (0, 0, 0, 0), 0, 0, [])) none) (cond (Nat.beq i 206) (some (.if_icmp .ne 30, 3, (236, 0, 0, 0), 0, 0, [])) none)) (cond (Nat.ble i 209) (cond (Nat.beq i 209) (some (.aload_n 1, 1, (1, 0, 0, 0), 0, 0, [])) none) (cond (Nat.beq i 210) (some (.invokevirtual 65, 3, (41, 1, 1, 2305), 0, 0, [])) none))) (cond (Nat.ble i 214) (cond (Nat.ble i 213) (cond (Nat.beq i 213) (some (.iconst 2, 1, (0, 0, 0, 0), 2, 0, [])) none) (cond (Nat.beq i 214) (some (.if_icmp .ne 22, 3, (236, 0, 0, 0), 0, 0, [])) none)) (cond (Nat.ble i 217) (cond (Nat.beq i 217) (some (.aload_n 1, 1, (1, 0, 0, 0), 0, 0, [])) none) (cond (Nat.beq i 218) (some (.invokevirtual 65, 3, (41, 1, 1, 2305), 0, 0, [])) none)))) (cond (Nat.ble i 226) (cond (Nat.ble i 222) (cond (Nat.ble i 221) (cond (Nat.beq i 221) (some (.iconst 1, 1, (0, 0, 0, 0), 1, 0, [])) none) (cond (Nat.beq i 222) (some (.if_icmp .ne 14, 3, (236, 0, 0, 0), 0, 0, [])) none)) (cond (Nat.ble i 225) (cond (Nat.beq i 225) (some (.aload_n 1, 1, (1, 0, 0, 0), 0, 0, [])) none) (cond (Nat.beq i 226) (some (.invokevirtual 65, 3, (41, 1, 1, 2305), 0, 0, [])) none))) (cond (Nat.ble i 232) (cond (Nat.ble i 229) (cond (Nat.beq i 229) (some (.ifCond .ne 7, 3, (236, 0, 0, 0), 0, 0, [])) none) (cond (Nat.beq i 232) (some (.iconst 1, 1, (0, 0, 0, 0), 1, 0, [])) none)) (cond (Nat.ble i 233) (cond (Nat.beq i 233) (some (.goto 4, 3, (237, 0, 0, 0), 0, 0, [])) none) (cond (Nat.ble i 236) (cond (Nat.beq i 236) (some (.iconst 0, 1, (0, 0, 0, 0), 0, 0, [])) none) (cond (Nat.beq i 237) (some (.istore 9, 2, (9, 0, 0, 0), 0, 0, [])) none)))))) (cond (Nat.ble i 252) (cond (Nat.ble i 246) (cond (Nat.ble i 241) (cond (Nat.ble i 239) (cond (Nat.beq i 239) (some (.iload 10, 2, (10, 0, 0, 0), 0, 0, [])) none) (cond (Nat.beq i 241) (some (.iload 12, 2, (12, 0, 0, 0), 0, 0, [])) none)) (cond (Nat.ble i 243) (cond (Nat.beq i 243) (some (.ifCond .lt 7, 3, (250, 0, 0, 0), 0, 0, [])) none) (cond (Nat.beq i 246) (some (.iconst 1, 1, (0, 0, 0, 0), 1, 0, [])) none))) (cond (Nat.ble i 250) (cond (Nat.ble i 247) (cond (Nat.beq i 247) (some (.goto 4, 3, (251, 0, 0, 0), 0, 0, [])) none) (cond (Nat.beq i 250) (some (.iconst 0, 1, (0, 0, 0, 0), 0, 0, [])) none)) (cond (Nat.ble i 251) (cond (Nat.beq i 251) (some (.iadd, 1, (0, 0, 0, 0), 0, 0, [])) none) (cond (Nat.beq i 252) (some (.istore 10, 2, (10, 0, 0, 0), 0, 0, [])) none)))) (cond (Nat.ble i 262) (cond (Nat.ble i 257) (cond (Nat.ble i 254) (cond (Nat.beq i 254) (some (.iinc 11 1, 3, (11, 0, 0, 0), 1, 0, [])) none) (cond (Nat.beq i 257) (some (.goto (-153), 3, (104, 0, 0, 0), 0, 0, [])) none)) (cond (Nat.ble i 260) (cond (Nat.beq i 260) (some (.iload 9, 2, (9, 0, 0, 0), 0, 0, [])) none) (cond (Nat.beq i 262) (some (.ifCond .eq 48, 3, (310, 0, 0, 0), 0, 0, [])) none))) (cond (Nat.ble i 266) (cond (Nat.ble i 265) (cond (Nat.beq i 265) (some (.aload_n 3, 1, (3, 0, 0, 0), 0, 0, [])) none) (cond (Nat.beq i 266) (some (.aload_n 0, 1, (0, 0, 0, 0), 0, 0, [])) none)) (cond (Nat.ble i 267) (cond (Nat.beq i 267) (some (.aload 5, 2, (5, 0, 0, 0), 0, 0, [])) none) (cond (Nat.ble i 269) (cond (Nat.beq i 269) (some (.iconst 0, 1, (0, 0, 0, 0), 0, 0, [])) none) (cond (Nat.beq i 270) (some (.invokestatic 68, 3, (88, 4, 8, 1), 0, 0, [])) none))))))))) (cond (Nat.ble i 407) (cond (Nat.ble i 339) (cond (Nat.ble i 303) (cond (Nat.ble i 287) (cond (Nat.ble i 278) (cond (Nat.ble i 276) (cond (Nat.ble i 273) (cond (Nat.beq i 273) (some (.ifCond .ne 37, 3, (310, 0, 0, 0), 0, 0, [])) none) (cond (Nat.beq i 276) (some (.aload_n 1, 1, (1, 0, 0, 0), 0, 0, [])) none)) (cond (Nat.ble i 277) (cond (Nat.beq i 277) (some (.iconst 1, 1, (0, 0, 0, 0), 1, 0, [])) none) (cond (Nat.beq i 278) (some (.invokevirtual 72, 3, (54, 2, 3, 2305), 0, 0, [])) none))) (cond (Nat.ble i 283) (cond (Nat.ble i 281) (cond (Nat.beq i 281) (some (.iload 10, 2, (10, 0, 0, 0), 0, 0, [])) none) (cond (Nat.beq i 283) (some (.if_icmp .ne 27, 3, (310, 0, 0, 0), 0, 0, [])) none)) (cond (Nat.ble i 286) (cond (Nat.beq i 286) (some (.aload_n 3, 1, (3, 0, 0, 0), 0, 0, [])) none) (cond (Nat.beq i 287) (some (.iconst 0, 1, (0, 0, 0, 0), 0, 0, [])) none)))) (cond (Nat.ble i 296) (cond (Nat.ble i 291) (cond (Nat.ble i 288) (cond (Nat.beq i 288) (some (.invokevirtual 72, 3, (54, 2, 3, 2305), 0, 0, [])) none) (cond (Nat.beq i 291) (some (.iload 10, 2, (10, 0, 0, 0), 0, 0, [])) none)) (cond (Nat.ble i 293) (cond (Nat.beq i 293) (some (.if_icmp .ne 17, 3, (310, 0, 0, 0), 0, 0, [])) none) (cond (Nat.beq i 296) (some (.aload_n 1, 1, (1, 0, 0, 0), 0, 0, [])) none))) (cond (Nat.ble i 298) (cond (Nat.ble i 297) (cond (Nat.beq i 297) (some (.aload_n 3, 1, (3, 0, 0, 0), 0, 0, [])) none) (cond (Nat.beq i 298) (some (.aload 5, 2, (5, 0, 0, 0), 0, 0, [])) none)) (cond (Nat.ble i 300) (cond (Nat.beq i 300) (some (.invokestatic 75, 3, (86, 3, 6, 1), 0, 0, [])) none) (cond (Nat.beq i 303) (some (.ifCond .eq 7, 3, (310, 0, 0, 0), 0, 0, [])) none))))) (cond (Nat.ble i 320) (cond (Nat.ble i 311) (cond (Nat.ble i 307) (cond (Nat.ble i 306) (cond (Nat.beq i 306) (some (.iconst 1, 1, (0, 0, 0, 0), 1, 0, [])) none) (cond (Nat.beq i 307) (some (.goto 4, 3, (311, 0, 0, 0), 0, 0, [])) none)) (cond (Nat.ble i 310) (cond (Nat.beq i 310) (some (.iconst 0, 1, (0, 0, 0, 0), 0, 0, [])) none) (cond (Nat.beq i 311) (some (.istore 9, 2, (9, 0, 0, 0), 0, 0, [])) none))) (cond (Nat.ble i 315) (cond (Nat.ble i 313) (cond (Nat.beq i 313) (some (.iload 10, 2, (10, 0, 0, 0), 0, 0, [])) none) (cond (Nat.beq i 315) (some (.ifCond .eq 8, 3, (323, 0, 0, 0), 0, 0, [])) none)) (cond (Nat.ble i 318) (cond (Nat.beq i 318) (some (.iload 9, 2, (9, 0, 0, 0), 0, 0, [])) none) (cond (Nat.beq i 320) (some (.ifCond .ne 41, 3, (361, 0, 0, 0), 0, 0, [])) none)))) (cond (Nat.ble i 329) (cond (Nat.ble i 325) (cond (Nat.ble i 323) (cond (Nat.beq i 323) (some (.iload 9, 2, (9, 0, 0, 0), 0, 0, [])) none) (cond (Nat.beq i 325) (some (.ifCond .eq 34, 3, (359, 0, 0, 0), 0, 0, [])) none)) (cond (Nat.ble i 328) (cond (Nat.beq i 328) (some (.aload_n 1, 1, (1, 0, 0, 0), 0, 0, [])) none) (cond (Nat.beq i 329) (some (.invokevirtual 79, 3, (43, 1, 3, 2305), 0, 0, [])) none))) (cond (Nat.ble i 334) (cond (Nat.ble i 332) (cond (Nat.beq i 332) (some (.bipush (-3), 2, (0, 0, 0, 0), -3, 0, [])) none) (cond (Nat.beq i 334) (some (.if_icmp .ne 25, 3, (359, 0, 0, 0), 0, 0, [])) none)) (cond (Nat.ble i 337) (cond (Nat.beq i 337) (some (.aload_n 1, 1, (1, 0, 0, 0), 0, 0, [])) none) (cond (Nat.ble i 338) (cond (Nat.beq i 338) (some (.iconst 5, 1, (0, 0, 0, 0), 5, 0, [])) none) (cond (Nat.beq i 339) (some (.invokevirtual 72, 3, (54, 2, 3, 2305), 0, 0, [])) none))))))) (cond (Nat.ble i 374) (cond (Nat.ble i 356) (cond (Nat.ble i 347) (cond (Nat.ble i 345) (cond (Nat.ble i 342) (cond (Nat.beq i 342) (some (.ifCond .ne 17, 3, (359, 0, 0, 0), 0, 0, [])) none) (cond (Nat.beq i 345) (some (.aload_n 1, 1, (1, 0, 0, 0), 0, 0, [])) none)) (cond (Nat.ble i 346) (cond (Nat.beq i 346) (some (.iconst 0, 1, (0, 0, 0, 0), 0, 0, [])) none) (cond (Nat.beq i 347) (some (.invokevirtual 82, 3, (44, 2, 3, 2305), 0, 0, [])) none))) (cond (Nat.ble i 352) (cond (Nat.ble i 350) (cond (Nat.beq i 350) (some (.bipush (-2), 2, (0, 0, 0, 0), -2, 0, [])) none) (cond (Nat.beq i 352) (some (.if_icmp .ne 7, 3, (359, 0, 0, 0), 0, 0, [])) none)) (cond (Nat.ble i 355) (cond (Nat.beq i 355) (some (.iconst 1, 1, (0, 0, 0, 0), 1, 0, [])) none) (cond (Nat.beq i 356) (some (.goto 4, 3, (360, 0, 0, 0), 0, 0, [])) none)))) (cond (Nat.ble i 362) (cond (Nat.ble i 360) (cond (Nat.ble i 359) (cond (Nat.beq i 359) (some (.iconst 0, 1, (0, 0, 0, 0), 0, 0, [])) none) (cond (Nat.beq i 360) (some (.ireturn, 1, (1, 0, 0, 0), 0, 0, [])) none)) (cond (Nat.ble i 361) (cond (Nat.beq i 361) (some (.aload_n 0, 1, (0, 0, 0, 0), 0, 0, [])) none) (cond (Nat.beq i 362) (some (.bipush 27, 2, (0, 0, 0, 0), 27, 0, [])) none))) (cond (Nat.ble i 367) (cond (Nat.ble i 364) (cond (Nat.beq i 364) (some (.invokestatic 9, 3, (80, 2, 2, 1), 0, 0, [])) none) (cond (Nat.beq i 367) (some (.iload 10, 2, (10, 0, 0, 0), 0, 0, [])) none)) (cond (Nat.ble i 369) (cond (Nat.beq i 369) (some (.invokestatic 15, 3, (81, 2, 2, 1), 0, 0, [])) none) (cond (Nat.ble i 372) (cond (Nat.beq i 372) (some (.istore 11, 2, (11, 0, 0, 0), 0, 0, [])) none) (cond (Nat.beq i 374) (some (.aload_n 3, 1, (3, 0, 0, 0), 0, 0, [])) none)))))) (cond (Nat.ble i 390) (cond (Nat.ble i 382) (cond (Nat.ble i 377) (cond (Nat.ble i 375) (cond (Nat.beq i 375) (some (.iload 11, 2, (11, 0, 0, 0), 0, 0, [])) none) (cond (Nat.beq i 377) (some (.invokevirtual 85, 3, (46, 2, 3, 2305), 0, 0, [])) none)) (cond (Nat.ble i 380) (cond (Nat.beq i 380) (some (.istore 12, 2, (12, 0, 0, 0), 0, 0, [])) none) (cond (Nat.beq i 382) (some (.aload_n 0, 1, (0, 0, 0, 0), 0, 0, [])) none))) (cond (Nat.ble i 385) (cond (Nat.ble i 383) (cond (Nat.beq i 383) (some (.bipush 28, 2, (0, 0, 0, 0), 28, 0, [])) none) (cond (Nat.beq i 385) (some (.invokestatic 9, 3, (80, 2, 2, 1), 0, 0, [])) none)) (cond (Nat.ble i 388) (cond (Nat.beq i 388) (some (.bipush 6, 2, (0, 0, 0, 0), 6, 0, [])) none) (cond (Nat.beq i 390) (some (.invokestatic 15, 3, (81, 2, 2, 1), 0, 0, [])) none)))) (cond (Nat.ble i 398) (cond (Nat.ble i 395) (cond (Nat.ble i 393) (cond (Nat.beq i 393) (some (.istore 13, 2, (13, 0, 0, 0), 0, 0, [])) none) (cond (Nat.beq i 395) (some (.aload_n 0, 1, (0, 0, 0, 0), 0, 0, [])) none)) (cond (Nat.ble i 396) (cond (Nat.beq i 396) (some (.bipush 28, 2, (0, 0, 0, 0), 28, 0, [])) none) (cond (Nat.beq i 398) (some (.invokestatic 9, 3, (80, 2, 2, 1), 0, 0, [])) none))) (cond (Nat.ble i 402) (cond (Nat.ble i 401) (cond (Nat.beq i 401) (some (.iconst 4, 1, (0, 0, 0, 0), 4, 0, [])) none) (cond (Nat.beq i 402) (some (.ishr, 1, (0, 0, 0, 0), 0, 0, [])) none)) (cond (Nat.ble i 403) (cond (Nat.beq i 403) (some (.aload 5, 2, (5, 0, 0, 0), 0, 0, [])) none) (cond (Nat.ble i 405) (cond (Nat.beq i 405) (some (.bipush 6, 2, (0, 0, 0, 0), 6, 0, [])) none) (cond (Nat.beq i 407) (some (.iload 13, 2, (13, 0, 0, 0), 0, 0, [])) none)))))))) (cond (Nat.ble i 470) (cond (Nat.ble i 437) (cond (Nat.ble i 421) (cond (Nat.ble i 414) (cond (Nat.ble i 410) (cond (Nat.ble i 409) (cond (Nat.beq i 409) (some (.iadd, 1, (0, 0, 0, 0), 0, 0, [])) none) (cond (Nat.beq i 410) (some (.iaload, 1, (0, 0, 0, 0), 0, 0, [])) none)) (cond (Nat.ble i 411) (cond (Nat.beq i 411) (some (.invokestatic 15, 3, (81, 2, 2, 1), 0, 0, [])) none) (cond (Nat.beq i 414) (some (.istore 14, 2, (14, 0, 0, 0), 0, 0, [])) none))) (cond (Nat.ble i 417) (cond (Nat.ble i 416) (cond (Nat.beq i 416) (some (.aload_n 3, 1, (3, 0, 0, 0), 0, 0, [])) none) (cond (Nat.beq i 417) (some (.iload 11, 2, (11, 0, 0, 0), 0, 0, [])) none)) (cond (Nat.ble i 419) (cond (Nat.beq i 419) (some (.iload 13, 2, (13, 0, 0, 0), 0, 0, [])) none) (cond (Nat.beq i 421) (some (.iload 14, 2, (14, 0, 0, 0), 0, 0, [])) none)))) (cond (Nat.ble i 429) (cond (Nat.ble i 426) (cond (Nat.ble i 423) (cond (Nat.beq i 423) (some (.invokevirtual 88, 3, (47, 4, 5, 2306), 0, 0, [])) none) (cond (Nat.beq i 426) (some (.lstore 15, 2, (15, 0, 0, 0), 0, 0, [])) none)) (cond (Nat.ble i 428) (cond (Nat.beq i 428) (some (.aload_n 1, 1, (1, 0, 0, 0), 0, 0, [])) none) (cond (Nat.beq i 429) (some (.iload 11, 2, (11, 0, 0, 0), 0, 0, [])) none))) (cond (Nat.ble i 434) (cond (Nat.ble i 431) (cond (Nat.beq i 431) (some (.invokevirtual 82, 3, (44, 2, 3, 2305), 0, 0, [])) none) (cond (Nat.beq i 434) (some (.istore 17, 2, (17, 0, 0, 0), 0, 0, [])) none)) (cond (Nat.ble i 436) (cond (Nat.beq i 436) (some (.aload_n 2, 1, (2, 0, 0, 0), 0, 0, [])) none) (cond (Nat.beq i 437) (some (.aload_n 0, 1, (0, 0, 0, 0), 0, 0, [])) none))))) (cond (Nat.ble i 450) (cond (Nat.ble i 443) (cond (Nat.ble i 440) (cond (Nat.ble i 438) (cond (Nat.beq i 438) (some (.aload 5, 2, (5, 0, 0, 0), 0, 0, [])) none) (cond (Nat.beq i 440) (some (.iconst 1, 1, (0, 0, 0, 0), 1, 0, [])) none)) (cond (Nat.ble i 441) (cond (Nat.beq i 441) (some (.iload 11, 2, (11, 0, 0, 0), 0, 0, [])) none) (cond (Nat.beq i 443) (some (.ishl, 1, (0, 0, 0, 0), 0, 0, [])) none))) (cond (Nat.ble i 447) (cond (Nat.ble i 444) (cond (Nat.beq i 444) (some (.invokestatic 68, 3, (88, 4, 8, 1), 0, 0, [])) none) (cond (Nat.beq i 447) (some (.istore 18, 2, (18, 0, 0, 0), 0, 0, [])) none)) (cond (Nat.ble i 449) (cond (Nat.beq i 449) (some (.aload_n 1, 1, (1, 0, 0, 0), 0, 0, [])) none) (cond (Nat.beq i 450) (some (.iload 17, 2, (17, 0, 0, 0), 0, 0, [])) none)))) (cond (Nat.ble i 459) (cond (Nat.ble i 455) (cond (Nat.ble i 452) (cond (Nat.beq i 452) (some (.ifCond .ge 7, 3, (459, 0, 0, 0), 0, 0, [])) none) (cond (Nat.beq i 455) (some (.aload_n 3, 1, (3, 0, 0, 0), 0, 0, [])) none)) (cond (Nat.ble i 456) (cond (Nat.beq i 456) (some (.goto 4, 3, (460, 0, 0, 0), 0, 0, [])) none) (cond (Nat.beq i 459) (some (.aload_n 2, 1, (2, 0, 0, 0), 0, 0, [])) none))) (cond (Nat.ble i 462) (cond (Nat.ble i 460) (cond (Nat.beq i 460) (some (.aload 5, 2, (5, 0, 0, 0), 0, 0, [])) none) (cond (Nat.beq i 462) (some (.invokestatic 75, 3, (86, 3, 6, 1), 0, 0, [])) none)) (cond (Nat.ble i 465) (cond (Nat.beq i 465) (some (.ifCond .eq 102, 3, (567, 0, 0, 0), 0, 0, [])) none) (cond (Nat.ble i 468) (cond (Nat.beq i 468) (some (.iload 17, 2, (17, 0, 0, 0), 0, 0, [])) none) (cond (Nat.beq i 470) (some (.ifCond .ge 36, 3, (506, 0, 0, 0), 0, 0, [])) none))))))) (cond (Nat.ble i 506) (cond (Nat.ble i 487) (cond (Nat.ble i 480) (cond (Nat.ble i 475) (cond (Nat.ble i 473) (cond (Nat.beq i 473) (some (.iload 17, 2, (17, 0, 0, 0), 0, 0, [])) none) (cond (Nat.beq i 475) (some (.iload 18, 2, (18, 0, 0, 0), 0, 0, [])) none)) (cond (Nat.ble i 477) (cond (Nat.beq i 477) (some (.if_icmp .ne 90, 3, (567, 0, 0, 0), 0, 0, [])) none) (cond (Nat.beq i 480) (some (.aload_n 1, 1, (1, 0, 0, 0), 0, 0, [])) none))) (cond (Nat.ble i 482) (cond (Nat.ble i 481) (cond (Nat.beq i 481) (some (.iconst 2, 1, (0, 0, 0, 0), 2, 0, [])) none) (cond (Nat.beq i 482) (some (.invokevirtual 61, 3, (53, 2, 2, 2305), 0, 0, [])) none)) (cond (Nat.ble i 485) (cond (Nat.beq i 485) (some (.bipush (-10), 2, (0, 0, 0, 0), -10, 0, [])) none) (cond (Nat.beq i 487) (some (.iload 17, 2, (17, 0, 0, 0), 0, 0, [])) none)))) (cond (Nat.ble i 494) (cond (Nat.ble i 490) (cond (Nat.ble i 489) (cond (Nat.beq i 489) (some (.isub, 1, (0, 0, 0, 0), 0, 0, [])) none) (cond (Nat.beq i 490) (some (.if_icmp .ne 77, 3, (567, 0, 0, 0), 0, 0, [])) none)) (cond (Nat.ble i 493) (cond (Nat.beq i 493) (some (.aload_n 1, 1, (1, 0, 0, 0), 0, 0, [])) none) (cond (Nat.beq i 494) (some (.iconst 1, 1, (0, 0, 0, 0), 1, 0, [])) none))) (cond (Nat.ble i 498) (cond (Nat.ble i 495) (cond (Nat.beq i 495) (some (.invokevirtual 72, 3, (54, 2, 3, 2305), 0, 0, [])) none) (cond (Nat.beq i 498) (some (.iload 10, 2, (10, 0, 0, 0), 0, 0, [])) none)) (cond (Nat.ble i 500) (cond (Nat.beq i 500) (some (.if_icmp .ne 67, 3, (567, 0, 0, 0), 0, 0, [])) none) (cond (Nat.ble i 503) (cond (Nat.beq i 503) (some (.goto 20, 3, (523, 0, 0, 0), 0, 0, [])) none) (cond (Nat.beq i 506) (some (.iload 18, 2, (18, 0, 0, 0), 0, 0, [])) none)))))) (cond (Nat.ble i 520) (cond (Nat.ble i 513) (cond (Nat.ble i 511) (cond (Nat.ble i 508) (cond (Nat.beq i 508) (some (.ifCond .ne 59, 3, (567, 0, 0, 0), 0, 0, [])) none) (cond (Nat.beq i 511) (some (.aload_n 1, 1, (1, 0, 0, 0), 0, 0, [])) none)) (cond (Nat.ble i 512) (cond (Nat.beq i 512) (some (.iconst 1, 1, (0, 0, 0, 0), 1, 0, [])) none) (cond (Nat.beq i 513) (some (.invokevirtual 72, 3, (54, 2, 3, 2305), 0, 0, [])) none))) (cond (Nat.ble i 518) (cond (Nat.ble i 516) (cond (Nat.beq i 516) (some (.iload 10, 2, (10, 0, 0, 0), 0, 0, [])) none) (cond (Nat.beq i 518) (some (.iconst 1, 1, (0, 0, 0, 0), 1, 0, [])) none)) (cond (Nat.ble i 519) (cond (Nat.beq i 519) (some (.isub, 1, (0, 0, 0, 0), 0, 0, [])) none) (cond (Nat.beq i 520) (some (.if_icmp .ne 47, 3, (567, 0, 0, 0), 0, 0, [])) none)))) (cond (Nat.ble i 530) (cond (Nat.ble i 525) (cond (Nat.ble i 523) (cond (Nat.beq i 523) (some (.lload 15, 2, (15, 0, 0, 0), 0, 0, [])) none) (cond (Nat.beq i 525) (some (.iload 17, 2, (17, 0, 0, 0), 0, 0, [])) none)) (cond (Nat.ble i 527) (cond (Nat.beq i 527) (some (.ifCond .ge 12, 3, (539, 0, 0, 0), 0, 0, [])) none) (cond (Nat.beq i 530) (some (.lload 7, 2, (7, 0, 0, 0), 0, 0, [])) none))) (cond (Nat.ble i 534) (cond (Nat.ble i 532) (cond (Nat.beq i 532) (some (.iload 17, 2, (17, 0, 0, 0), 0, 0, [])) none) (cond (Nat.beq i 534) (some (.i2l, 1, (0, 0, 0, 0), 0, 0, [])) none)) (cond (Nat.ble i 535) (cond (Nat.beq i 535) (some (.lsub, 1, (0, 0, 0, 0), 0, 0, [])) none) (cond (Nat.ble i 536) (cond (Nat.beq i 536) (some (.goto 13, 3, (549, 0, 0, 0), 0, 0, [])) none) (cond (Nat.beq i 539) (some (.aload_n 1, 1, (1, 0, 0, 0), 0, 0, [])) none)))))))))) (cond (Nat.ble i 803) (cond (Nat.ble i 677) (cond (Nat.ble i 606) (cond (Nat.ble i 571) (cond (Nat.ble i 555) (cond (Nat.ble i 546) (cond (Nat.ble i 542) (cond (Nat.ble i 540) (cond (Nat.beq i 540) (some (.iload 13, 2, (13, 0, 0, 0), 0, 0, [])) none) (cond (Nat.beq i 542) (some (.bipush 8, 2, (0, 0, 0, 0), 8, 0, [])) none)) (cond (Nat.ble i 544) (cond (Nat.beq i 544) (some (.iload 14, 2, (14, 0, 0, 0), 0, 0, [])) none) (cond (Nat.beq i 546) (some (.invokevirtual 42, 3, (37, 4, 4, 2306), 0, 0, [])) none))) (cond (Nat.ble i 550) (cond (Nat.ble i 549) (cond (Nat.beq i 549) (some (.lcmp, 1, (0, 0, 0, 0), 0, 0, [])) none) (cond (Nat.beq i 550) (some (.ifCond .ne 17, 3, (567, 0, 0, 0), 0, 0, [])) none)) (cond (Nat.ble i 553) (cond (Nat.beq i 553) (some (.iload 12, 2, (12, 0, 0, 0), 0, 0, [])) none) (cond (Nat.beq i 555) (some (.ifCond .ne 8, 3, (563, 0, 0, 0), 0, 0, [])) none)))) (cond (Nat.ble i 564) (cond (Nat.ble i 560) (cond (Nat.ble i 558) (cond (Nat.beq i 558) (some (.iload 17, 2, (17, 0, 0, 0), 0, 0, [])) none) (cond (Nat.beq i 560) (some (.ifCond .ne 7, 3, (567, 0, 0, 0), 0, 0, [])) none)) (cond (Nat.ble i 563) (cond (Nat.beq i 563) (some (.iconst 1, 1, (0, 0, 0, 0), 1, 0, [])) none) (cond (Nat.beq i 564) (some (.goto 4, 3, (568, 0, 0, 0), 0, 0, [])) none))) (cond (Nat.ble i 568) (cond (Nat.ble i 567) (cond (Nat.beq i 567) (some (.iconst 0, 1, (0, 0, 0, 0), 0, 0, [])) none) (cond (Nat.beq i 568) (some (.istore 9, 2, (9, 0, 0, 0), 0, 0, [])) none)) (cond (Nat.ble i 570) (cond (Nat.beq i 570) (some (.iconst 0, 1, (0, 0, 0, 0), 0, 0, [])) none) (cond (Nat.beq i 571) (some (.istore 19, 2, (19, 0, 0, 0), 0, 0, [])) none))))) (cond (Nat.ble i 590) (cond (Nat.ble i 580) (cond (Nat.ble i 575) (cond (Nat.ble i 573) (cond (Nat.beq i 573) (some (.iload 19, 2, (19, 0, 0, 0), 0, 0, [])) none) (cond (Nat.beq i 575) (some (.bipush 6, 2, (0, 0, 0, 0), 6, 0, [])) none)) (cond (Nat.ble i 577) (cond (Nat.beq i 577) (some (.if_icmp .ge 109, 3, (686, 0, 0, 0), 0, 0, [])) none) (cond (Nat.beq i 580) (some (.iload 9, 2, (9, 0, 0, 0), 0, 0, [])) none))) (cond (Nat.ble i 585) (cond (Nat.ble i 582) (cond (Nat.beq i 582) (some (.ifCond .eq 104, 3, (686, 0, 0, 0), 0, 0, [])) none) (cond (Nat.beq i 585) (some (.iload 17, 2, (17, 0, 0, 0), 0, 0, [])) none)) (cond (Nat.ble i 587) (cond (Nat.beq i 587) (some (.ifCond .lt 99, 3, (686, 0, 0, 0), 0, 0, [])) none) (cond (Nat.beq i 590) (some (.iconst 0, 1, (0, 0, 0, 0), 0, 0, [])) none)))) (cond (Nat.ble i 597) (cond (Nat.ble i 593) (cond (Nat.ble i 591) (cond (Nat.beq i 591) (some (.istore 20, 2, (20, 0, 0, 0), 0, 0, [])) none) (cond (Nat.beq i 593) (some (.iload 20, 2, (20, 0, 0, 0), 0, 0, [])) none)) (cond (Nat.ble i 595) (cond (Nat.beq i 595) (some (.aload 5, 2, (5, 0, 0, 0), 0, 0, [])) none) (cond (Nat.beq i 597) (some (.bipush 6, 2, (0, 0, 0, 0), 6, 0, [])) none))) (cond (Nat.ble i 601) (cond (Nat.ble i 599) (cond (Nat.beq i 599) (some (.iload 19, 2, (19, 0, 0, 0), 0, 0, [])) none) (cond (Nat.beq i 601) (some (.iadd, 1, (0, 0, 0, 0), 0, 0, [])) none)) (cond (Nat.ble i 602) (cond (Nat.beq i 602) (some (.iaload, 1, (0, 0, 0, 0), 0, 0, [])) none) (cond (Nat.ble i 603) (cond (Nat.beq i 603) (some (.if_icmp .ge 77, 3, (680, 0, 0, 0), 0, 0, [])) none) (cond (Nat.beq i 606) (some (.iload 9, 2, (9, 0, 0, 0), 0, 0, [])) none))))))) (cond (Nat.ble i 640) (cond (Nat.ble i 622) (cond (Nat.ble i 614) (cond (Nat.ble i 611) (cond (Nat.ble i 608) (cond (Nat.beq i 608) (some (.ifCond .eq 72, 3, (680, 0, 0, 0), 0, 0, [])) none) (cond (Nat.beq i 611) (some (.aload_n 2, 1, (2, 0, 0, 0), 0, 0, [])) none)) (cond (Nat.ble i 612) (cond (Nat.beq i 612) (some (.iload 19, 2, (19, 0, 0, 0), 0, 0, [])) none) (cond (Nat.beq i 614) (some (.iload 20, 2, (20, 0, 0, 0), 0, 0, [])) none))) (cond (Nat.ble i 619) (cond (Nat.ble i 616) (cond (Nat.beq i 616) (some (.invokevirtual 91, 3, (50, 3, 4, 2305), 0, 0, [])) none) (cond (Nat.beq i 619) (some (.istore 21, 2, (21, 0, 0, 0), 0, 0, [])) none)) (cond (Nat.ble i 621) (cond (Nat.beq i 621) (some (.aload_n 1, 1, (1, 0, 0, 0), 0, 0, [])) none) (cond (Nat.beq i 622) (some (.iload 19, 2, (19, 0, 0, 0), 0, 0, [])) none)))) (cond (Nat.ble i 631) (cond (Nat.ble i 626) (cond (Nat.ble i 624) (cond (Nat.beq i 624) (some (.iload 20, 2, (20, 0, 0, 0), 0, 0, [])) none) (cond (Nat.beq i 626) (some (.invokevirtual 91, 3, (50, 3, 4, 2305), 0, 0, [])) none)) (cond (Nat.ble i 629) (cond (Nat.beq i 629) (some (.iload 21, 2, (21, 0, 0, 0), 0, 0, [])) none) (cond (Nat.beq i 631) (some (.iload 11, 2, (11, 0, 0, 0), 0, 0, [])) none))) (cond (Nat.ble i 636) (cond (Nat.ble i 633) (cond (Nat.beq i 633) (some (.if_icmp .lt 10, 3, (643, 0, 0, 0), 0, 0, [])) none) (cond (Nat.beq i 636) (some (.iload 21, 2, (21, 0, 0, 0), 0, 0, [])) none)) (cond (Nat.ble i 638) (cond (Nat.beq i 638) (some (.iconst 1, 1, (0, 0, 0, 0), 1, 0, [])) none) (cond (Nat.ble i 639) (cond (Nat.beq i 639) (some (.iadd, 1, (0, 0, 0, 0), 0, 0, [])) none) (cond (Nat.beq i 640) (some (.goto 5, 3, (645, 0, 0, 0), 0, 0, [])) none)))))) (cond (Nat.ble i 657) (cond (Nat.ble i 649) (cond (Nat.ble i 645) (cond (Nat.ble i 643) (cond (Nat.beq i 643) (some (.iload 21, 2, (21, 0, 0, 0), 0, 0, [])) none) (cond (Nat.beq i 645) (some (.if_icmp .ne 26, 3, (671, 0, 0, 0), 0, 0, [])) none)) (cond (Nat.ble i 648) (cond (Nat.beq i 648) (some (.aload_n 1, 1, (1, 0, 0, 0), 0, 0, [])) none) (cond (Nat.beq i 649) (some (.iload 19, 2, (19, 0, 0, 0), 0, 0, [])) none))) (cond (Nat.ble i 653) (cond (Nat.ble i 651) (cond (Nat.beq i 651) (some (.iload 20, 2, (20, 0, 0, 0), 0, 0, [])) none) (cond (Nat.beq i 653) (some (.invokevirtual 94, 3, (51, 3, 4, 2305), 0, 0, [])) none)) (cond (Nat.ble i 656) (cond (Nat.beq i 656) (some (.aload_n 2, 1, (2, 0, 0, 0), 0, 0, [])) none) (cond (Nat.beq i 657) (some (.iload 19, 2, (19, 0, 0, 0), 0, 0, [])) none)))) (cond (Nat.ble i 667) (cond (Nat.ble i 661) (cond (Nat.ble i 659) (cond (Nat.beq i 659) (some (.iload 20, 2, (20, 0, 0, 0), 0, 0, [])) none) (cond (Nat.beq i 661) (some (.invokevirtual 94, 3, (51, 3, 4, 2305), 0, 0, [])) none)) (cond (Nat.ble i 664) (cond (Nat.beq i 664) (some (.if_icmp .ne 7, 3, (671, 0, 0, 0), 0, 0, [])) none) (cond (Nat.beq i 667) (some (.iconst 1, 1, (0, 0, 0, 0), 1, 0, [])) none))) (cond (Nat.ble i 671) (cond (Nat.ble i 668) (cond (Nat.beq i 668) (some (.goto 4, 3, (672, 0, 0, 0), 0, 0, [])) none) (cond (Nat.beq i 671) (some (.iconst 0, 1, (0, 0, 0, 0), 0, 0, [])) none)) (cond (Nat.ble i 672) (cond (Nat.beq i 672) (some (.istore 9, 2, (9, 0, 0, 0), 0, 0, [])) none) (cond (Nat.ble i 674) (cond (Nat.beq i 674) (some (.iinc 20 1, 3, (20, 0, 0, 0), 1, 0, [])) none) (cond (Nat.beq i 677) (some (.goto (-84), 3, (593, 0, 0, 0), 0, 0, [])) none)))))))) (cond (Nat.ble i 738) (cond (Nat.ble i 707) (cond (Nat.ble i 693) (cond (Nat.ble i 688) (cond (Nat.ble i 683) (cond (Nat.ble i 680) (cond (Nat.beq i 680) (some (.iinc 19 1, 3, (19, 0, 0, 0), 1, 0, [])) none) (cond (Nat.beq i 683) (some (.goto (-110), 3, (573, 0, 0, 0), 0, 0, [])) none)) (cond (Nat.ble i 686) (cond (Nat.beq i 686) (some (.iload 12, 2, (12, 0, 0, 0), 0, 0, [])) none) (cond (Nat.beq i 688) (some (.iconst 1, 1, (0, 0, 0, 0), 1, 0, [])) none))) (cond (Nat.ble i 691) (cond (Nat.ble i 689) (cond (Nat.beq i 689) (some (.iload 11, 2, (11, 0, 0, 0), 0, 0, [])) none) (cond (Nat.beq i 691) (some (.ishl, 1, (0, 0, 0, 0), 0, 0, [])) none)) (cond (Nat.ble i 692) (cond (Nat.beq i 692) (some (.ior, 1, (0, 0, 0, 0), 0, 0, [])) none) (cond (Nat.beq i 693) (some (.istore 19, 2, (19, 0, 0, 0), 0, 0, [])) none)))) (cond (Nat.ble i 700) (cond (Nat.ble i 696) (cond (Nat.ble i 695) (cond (Nat.beq i 695) (some (.iconst 0, 1, (0, 0, 0, 0), 0, 0, [])) none) (cond (Nat.beq i 696) (some (.istore 20, 2, (20, 0, 0, 0), 0, 0, [])) none)) (cond (Nat.ble i 698) (cond (Nat.beq i 698) (some (.iload 20, 2, (20, 0, 0, 0), 0, 0, [])) none) (cond (Nat.beq i 700) (some (.iconst 3, 1, (0, 0, 0, 0), 3, 0, [])) none))) (cond (Nat.ble i 703) (cond (Nat.ble i 701) (cond (Nat.beq i 701) (some (.iload 10, 2, (10, 0, 0, 0), 0, 0, [])) none) (cond (Nat.beq i 703) (some (.imul, 1, (0, 0, 0, 0), 0, 0, [])) none)) (cond (Nat.ble i 704) (cond (Nat.beq i 704) (some (.if_icmp .ge 27, 3, (731, 0, 0, 0), 0, 0, [])) none) (cond (Nat.beq i 707) (some (.aload 6, 2, (6, 0, 0, 0), 0, 0, [])) none))))) (cond (Nat.ble i 719) (cond (Nat.ble i 714) (cond (Nat.ble i 711) (cond (Nat.ble i 709) (cond (Nat.beq i 709) (some (.iload 20, 2, (20, 0, 0, 0), 0, 0, [])) none) (cond (Nat.beq i 711) (some (.aload_n 3, 1, (3, 0, 0, 0), 0, 0, [])) none)) (cond (Nat.ble i 712) (cond (Nat.beq i 712) (some (.iload 20, 2, (20, 0, 0, 0), 0, 0, [])) none) (cond (Nat.beq i 714) (some (.iconst 3, 1, (0, 0, 0, 0), 3, 0, [])) none))) (cond (Nat.ble i 716) (cond (Nat.ble i 715) (cond (Nat.beq i 715) (some (.idiv, 1, (0, 0, 0, 0), 0, 0, [])) none) (cond (Nat.beq i 716) (some (.iload 20, 2, (20, 0, 0, 0), 0, 0, [])) none)) (cond (Nat.ble i 718) (cond (Nat.beq i 718) (some (.iconst 3, 1, (0, 0, 0, 0), 3, 0, [])) none) (cond (Nat.beq i 719) (some (.irem, 1, (0, 0, 0, 0), 0, 0, [])) none)))) (cond (Nat.ble i 725) (cond (Nat.ble i 721) (cond (Nat.ble i 720) (cond (Nat.beq i 720) (some (.iconst 0, 1, (0, 0, 0, 0), 0, 0, [])) none) (cond (Nat.beq i 721) (some (.invokevirtual 97, 3, (48, 4, 4, 2306), 0, 0, [])) none)) (cond (Nat.ble i 724) (cond (Nat.beq i 724) (some (.lastore, 1, (0, 0, 0, 0), 0, 0, [])) none) (cond (Nat.beq i 725) (some (.iinc 20 1, 3, (20, 0, 0, 0), 1, 0, [])) none))) (cond (Nat.ble i 731) (cond (Nat.ble i 728) (cond (Nat.beq i 728) (some (.goto (-30), 3, (698, 0, 0, 0), 0, 0, [])) none) (cond (Nat.beq i 731) (some (.iload 9, 2, (9, 0, 0, 0), 0, 0, [])) none)) (cond (Nat.ble i 733) (cond (Nat.beq i 733) (some (.ifCond .eq 58, 3, (791, 0, 0, 0), 0, 0, [])) none) (cond (Nat.ble i 736) (cond (Nat.beq i 736) (some (.iload 12, 2, (12, 0, 0, 0), 0, 0, [])) none) (cond (Nat.beq i 738) (some (.iload 11, 2, (11, 0, 0, 0), 0, 0, [])) none))))))) (cond (Nat.ble i 772) (cond (Nat.ble i 752) (cond (Nat.ble i 743) (cond (Nat.ble i 741) (cond (Nat.ble i 740) (cond (Nat.beq i 740) (some (.ishr, 1, (0, 0, 0, 0), 0, 0, [])) none) (cond (Nat.beq i 741) (some (.iconst 1, 1, (0, 0, 0, 0), 1, 0, [])) none)) (cond (Nat.ble i 742) (cond (Nat.beq i 742) (some (.iand, 1, (0, 0, 0, 0), 0, 0, [])) none) (cond (Nat.beq i 743) (some (.ifCond .ne 48, 3, (791, 0, 0, 0), 0, 0, [])) none))) (cond (Nat.ble i 747) (cond (Nat.ble i 746) (cond (Nat.beq i 746) (some (.aload_n 3, 1, (3, 0, 0, 0), 0, 0, [])) none) (cond (Nat.beq i 747) (some (.iload 11, 2, (11, 0, 0, 0), 0, 0, [])) none)) (cond (Nat.ble i 749) (cond (Nat.beq i 749) (some (.invokevirtual 100, 3, (45, 2, 7, 2305), 0, 0, [])) none) (cond (Nat.beq i 752) (some (.iload 19, 2, (19, 0, 0, 0), 0, 0, [])) none)))) (cond (Nat.ble i 761) (cond (Nat.ble i 757) (cond (Nat.ble i 754) (cond (Nat.beq i 754) (some (.invokestatic 103, 3, (87, 1, 3, 1), 0, 0, [])) none) (cond (Nat.beq i 757) (some (.if_icmp .ne 34, 3, (791, 0, 0, 0), 0, 0, [])) none)) (cond (Nat.ble i 760) (cond (Nat.beq i 760) (some (.aload_n 3, 1, (3, 0, 0, 0), 0, 0, [])) none) (cond (Nat.beq i 761) (some (.iconst 1, 1, (0, 0, 0, 0), 1, 0, [])) none))) (cond (Nat.ble i 765) (cond (Nat.ble i 762) (cond (Nat.beq i 762) (some (.invokevirtual 72, 3, (54, 2, 3, 2305), 0, 0, [])) none) (cond (Nat.beq i 765) (some (.iload 10, 2, (10, 0, 0, 0), 0, 0, [])) none)) (cond (Nat.ble i 767) (cond (Nat.beq i 767) (some (.iload 19, 2, (19, 0, 0, 0), 0, 0, [])) none) (cond (Nat.ble i 769) (cond (Nat.beq i 769) (some (.invokestatic 103, 3, (87, 1, 3, 1), 0, 0, [])) none) (cond (Nat.beq i 772) (some (.isub, 1, (0, 0, 0, 0), 0, 0, [])) none)))))) (cond (Nat.ble i 788) (cond (Nat.ble i 779) (cond (Nat.ble i 776) (cond (Nat.ble i 773) (cond (Nat.beq i 773) (some (.if_icmp .ne 18, 3, (791, 0, 0, 0), 0, 0, [])) none) (cond (Nat.beq i 776) (some (.aload_n 3, 1, (3, 0, 0, 0), 0, 0, [])) none)) (cond (Nat.ble i 777) (cond (Nat.beq i 777) (some (.iload 11, 2, (11, 0, 0, 0), 0, 0, [])) none) (cond (Nat.beq i 779) (some (.invokevirtual 85, 3, (46, 2, 3, 2305), 0, 0, [])) none))) (cond (Nat.ble i 784) (cond (Nat.ble i 782) (cond (Nat.beq i 782) (some (.bipush (-3), 2, (0, 0, 0, 0), -3, 0, [])) none) (cond (Nat.beq i 784) (some (.if_icmp .ne 7, 3, (791, 0, 0, 0), 0, 0, [])) none)) (cond (Nat.ble i 787) (cond (Nat.beq i 787) (some (.iconst 1, 1, (0, 0, 0, 0), 1, 0, [])) none) (cond (Nat.beq i 788) (some (.goto 4, 3, (792, 0, 0, 0), 0, 0, [])) none)))) (cond (Nat.ble i 795) (cond (Nat.ble i 792) (cond (Nat.ble i 791) (cond (Nat.beq i 791) (some (.iconst 0, 1, (0, 0, 0, 0), 0, 0, [])) none) (cond (Nat.beq i 792) (some (.istore 9, 2, (9, 0, 0, 0), 0, 0, [])) none)) (cond (Nat.ble i 794) (cond (Nat.beq i 794) (some (.iconst 0, 1, (0, 0, 0, 0), 0, 0, [])) none) (cond (Nat.beq i 795) (some (.istore 20, 2, (20, 0, 0, 0), 0, 0, [])) none))) (cond (Nat.ble i 799) (cond (Nat.ble i 797) (cond (Nat.beq i 797) (some (.iload 20, 2, (20, 0, 0, 0), 0, 0, [])) none) (cond (Nat.beq i 799) (some (.iconst 3, 1, (0, 0, 0, 0), 3, 0, [])) none)) (cond (Nat.ble i 800) (cond (Nat.beq i 800) (some (.iload 10, 2, (10, 0, 0, 0), 0, 0, [])) none) (cond (Nat.ble i 802) (cond (Nat.beq i 802) (some (.imul, 1, (0, 0, 0, 0), 0, 0, [])) none) (cond (Nat.beq i 803) (some (.if_icmp .ge 65, 3, (868, 0, 0, 0), 0, 0, [])) none))))))))) (cond (Nat.ble i 934) (cond (Nat.ble i 860) (cond (Nat.ble i 830) (cond (Nat.ble i 818) (cond (Nat.ble i 812) (cond (Nat.ble i 808) (cond (Nat.ble i 806) (cond (Nat.beq i 806) (some (.iload 9, 2, (9, 0, 0, 0), 0, 0, [])) none) (cond (Nat.beq i 808) (some (.ifCond .eq 60, 3, (868, 0, 0, 0), 0, 0, [])) none)) (cond (Nat.ble i 811) (cond (Nat.beq i 811) (some (.aload_n 3, 1, (3, 0, 0, 0), 0, 0, [])) none) (cond (Nat.beq i 812) (some (.iload 20, 2, (20, 0, 0, 0), 0, 0, [])) none))) (cond (Nat.ble i 815) (cond (Nat.ble i 814) (cond (Nat.beq i 814) (some (.iconst 3, 1, (0, 0, 0, 0), 3, 0, [])) none) (cond (Nat.beq i 815) (some (.idiv, 1, (0, 0, 0, 0), 0, 0, [])) none)) (cond (Nat.ble i 816) (cond (Nat.beq i 816) (some (.iload 20, 2, (20, 0, 0, 0), 0, 0, [])) none) (cond (Nat.beq i 818) (some (.iconst 3, 1, (0, 0, 0, 0), 3, 0, [])) none)))) (cond (Nat.ble i 824) (cond (Nat.ble i 820) (cond (Nat.ble i 819) (cond (Nat.beq i 819) (some (.irem, 1, (0, 0, 0, 0), 0, 0, [])) none) (cond (Nat.beq i 820) (some (.iconst 0, 1, (0, 0, 0, 0), 0, 0, [])) none)) (cond (Nat.ble i 821) (cond (Nat.beq i 821) (some (.invokevirtual 97, 3, (48, 4, 4, 2306), 0, 0, [])) none) (cond (Nat.beq i 824) (some (.iload 19, 2, (19, 0, 0, 0), 0, 0, [])) none))) (cond (Nat.ble i 828) (cond (Nat.ble i 826) (cond (Nat.beq i 826) (some (.iload 20, 2, (20, 0, 0, 0), 0, 0, [])) none) (cond (Nat.beq i 828) (some (.iconst 3, 1, (0, 0, 0, 0), 3, 0, [])) none)) (cond (Nat.ble i 829) (cond (Nat.beq i 829) (some (.idiv, 1, (0, 0, 0, 0), 0, 0, [])) none) (cond (Nat.beq i 830) (some (.ishr, 1, (0, 0, 0, 0), 0, 0, [])) none))))) (cond (Nat.ble i 843) (cond (Nat.ble i 834) (cond (Nat.ble i 832) (cond (Nat.ble i 831) (cond (Nat.beq i 831) (some (.iconst 1, 1, (0, 0, 0, 0), 1, 0, [])) none) (cond (Nat.beq i 832) (some (.iand, 1, (0, 0, 0, 0), 0, 0, [])) none)) (cond (Nat.ble i 833) (cond (Nat.beq i 833) (some (.iconst 1, 1, (0, 0, 0, 0), 1, 0, [])) none) (cond (Nat.beq i 834) (some (.if_icmp .ne 12, 3, (846, 0, 0, 0), 0, 0, [])) none))) (cond (Nat.ble i 839) (cond (Nat.ble i 837) (cond (Nat.beq i 837) (some (.lload 7, 2, (7, 0, 0, 0), 0, 0, [])) none) (cond (Nat.beq i 839) (some (.ldc2_w 106, 3, (0, 0, 0, 0), 0, 3, [])) none)) (cond (Nat.ble i 842) (cond (Nat.beq i 842) (some (.ladd, 1, (0, 0, 0, 0), 0, 0, [])) none) (cond (Nat.beq i 843) (some (.goto 8, 3, (851, 0, 0, 0), 0, 0, [])) none)))) (cond (Nat.ble i 851) (cond (Nat.ble i 848) (cond (Nat.ble i 846) (cond (Nat.beq i 846) (some (.aload 6, 2, (6, 0, 0, 0), 0, 0, [])) none) (cond (Nat.beq i 848) (some (.iload 20, 2, (20, 0, 0, 0), 0, 0, [])) none)) (cond (Nat.ble i 850) (cond (Nat.beq i 850) (some (.laload, 1, (0, 0, 0, 0), 0, 0, [])) none) (cond (Nat.beq i 851) (some (.lcmp, 1, (0, 0, 0, 0), 0, 0, [])) none))) (cond (Nat.ble i 855) (cond (Nat.ble i 852) (cond (Nat.beq i 852) (some (.ifCond .ne 7, 3, (859, 0, 0, 0), 0, 0, [])) none) (cond (Nat.beq i 855) (some (.iconst 1, 1, (0, 0, 0, 0), 1, 0, [])) none)) (cond (Nat.ble i 856) (cond (Nat.beq i 856) (some (.goto 4, 3, (860, 0, 0, 0), 0, 0, [])) none) (cond (Nat.ble i 859) (cond (Nat.beq i 859) (some (.iconst 0, 1, (0, 0, 0, 0), 0, 0, [])) none) (cond (Nat.beq i 860) (some (.istore 9, 2, (9, 0, 0, 0), 0, 0, [])) none))))))) (cond (Nat.ble i 898) (cond (Nat.ble i 878) (cond (Nat.ble i 870) (cond (Nat.ble i 865) (cond (Nat.ble i 862) (cond (Nat.beq i 862) (some (.iinc 20 1, 3, (20, 0, 0, 0), 1, 0, [])) none) (cond (Nat.beq i 865) (some (.goto (-68), 3, (797, 0, 0, 0), 0, 0, [])) none)) (cond (Nat.ble i 868) (cond (Nat.beq i 868) (some (.iload 9, 2, (9, 0, 0, 0), 0, 0, [])) none) (cond (Nat.beq i 870) (some (.ifCond .eq 31, 3, (901, 0, 0, 0), 0, 0, [])) none))) (cond (Nat.ble i 875) (cond (Nat.ble i 873) (cond (Nat.beq i 873) (some (.aload 4, 2, (4, 0, 0, 0), 0, 0, [])) none) (cond (Nat.beq i 875) (some (.aload_n 0, 1, (0, 0, 0, 0), 0, 0, [])) none)) (cond (Nat.ble i 876) (cond (Nat.beq i 876) (some (.aload 5, 2, (5, 0, 0, 0), 0, 0, [])) none) (cond (Nat.beq i 878) (some (.iload 19, 2, (19, 0, 0, 0), 0, 0, [])) none)))) (cond (Nat.ble i 887) (cond (Nat.ble i 883) (cond (Nat.ble i 880) (cond (Nat.beq i 880) (some (.invokestatic 68, 3, (88, 4, 8, 1), 0, 0, [])) none) (cond (Nat.beq i 883) (some (.ifCond .ne 18, 3, (901, 0, 0, 0), 0, 0, [])) none)) (cond (Nat.ble i 886) (cond (Nat.beq i 886) (some (.aload_n 3, 1, (3, 0, 0, 0), 0, 0, [])) none) (cond (Nat.beq i 887) (some (.aload 4, 2, (4, 0, 0, 0), 0, 0, [])) none))) (cond (Nat.ble i 891) (cond (Nat.ble i 889) (cond (Nat.beq i 889) (some (.aload 5, 2, (5, 0, 0, 0), 0, 0, [])) none) (cond (Nat.beq i 891) (some (.invokestatic 75, 3, (86, 3, 6, 1), 0, 0, [])) none)) (cond (Nat.ble i 894) (cond (Nat.beq i 894) (some (.ifCond .eq 7, 3, (901, 0, 0, 0), 0, 0, [])) none) (cond (Nat.ble i 897) (cond (Nat.beq i 897) (some (.iconst 1, 1, (0, 0, 0, 0), 1, 0, [])) none) (cond (Nat.beq i 898) (some (.goto 4, 3, (902, 0, 0, 0), 0, 0, [])) none)))))) (cond (Nat.ble i 913) (cond (Nat.ble i 905) (cond (Nat.ble i 902) (cond (Nat.ble i 901) (cond (Nat.beq i 901) (some (.iconst 0, 1, (0, 0, 0, 0), 0, 0, [])) none) (cond (Nat.beq i 902) (some (.istore 9, 2, (9, 0, 0, 0), 0, 0, [])) none)) (cond (Nat.ble i 904) (cond (Nat.beq i 904) (some (.aload_n 3, 1, (3, 0, 0, 0), 0, 0, [])) none) (cond (Nat.beq i 905) (some (.bipush 7, 2, (0, 0, 0, 0), 7, 0, [])) none))) (cond (Nat.ble i 910) (cond (Nat.ble i 907) (cond (Nat.beq i 907) (some (.invokevirtual 72, 3, (54, 2, 3, 2305), 0, 0, [])) none) (cond (Nat.beq i 910) (some (.istore 20, 2, (20, 0, 0, 0), 0, 0, [])) none)) (cond (Nat.ble i 912) (cond (Nat.beq i 912) (some (.aload_n 3, 1, (3, 0, 0, 0), 0, 0, [])) none) (cond (Nat.beq i 913) (some (.bipush 6, 2, (0, 0, 0, 0), 6, 0, [])) none)))) (cond (Nat.ble i 922) (cond (Nat.ble i 918) (cond (Nat.ble i 915) (cond (Nat.beq i 915) (some (.invokevirtual 72, 3, (54, 2, 3, 2305), 0, 0, [])) none) (cond (Nat.beq i 918) (some (.istore 21, 2, (21, 0, 0, 0), 0, 0, [])) none)) (cond (Nat.ble i 920) (cond (Nat.beq i 920) (some (.iload 9, 2, (9, 0, 0, 0), 0, 0, [])) none) (cond (Nat.beq i 922) (some (.ifCond .eq 57, 3, (979, 0, 0, 0), 0, 0, [])) none))) (cond (Nat.ble i 926) (cond (Nat.ble i 925) (cond (Nat.beq i 925) (some (.aload_n 3, 1, (3, 0, 0, 0), 0, 0, [])) none) (cond (Nat.beq i 926) (some (.invokevirtual 108, 3, (49, 1, 4, 2305), 0, 0, [])) none)) (cond (Nat.ble i 929) (cond (Nat.beq i 929) (some (.iload 20, 2, (20, 0, 0, 0), 0, 0, [])) none) (cond (Nat.ble i 931) (cond (Nat.beq i 931) (some (.if_icmp .ne 48, 3, (979, 0, 0, 0), 0, 0, [])) none) (cond (Nat.beq i 934) (some (.aload_n 3, 1, (3, 0, 0, 0), 0, 0, [])) none)))))))) (cond (Nat.ble i 1004) (cond (Nat.ble i 969) (cond (Nat.ble i 949) (cond (Nat.ble i 942) (cond (Nat.ble i 937) (cond (Nat.ble i 935) (cond (Nat.beq i 935) (some (.bipush 6, 2, (0, 0, 0, 0), 6, 0, [])) none) (cond (Nat.beq i 937) (some (.invokevirtual 72, 3, (54, 2, 3, 2305), 0, 0, [])) none)) (cond (Nat.ble i 940) (cond (Nat.beq i 940) (some (.iload 21, 2, (21, 0, 0, 0), 0, 0, [])) none) (cond (Nat.beq i 942) (some (.iload 20, 2, (20, 0, 0, 0), 0, 0, [])) none))) (cond (Nat.ble i 945) (cond (Nat.ble i 944) (cond (Nat.beq i 944) (some (.isub, 1, (0, 0, 0, 0), 0, 0, [])) none) (cond (Nat.beq i 945) (some (.if_icmp .ne 34, 3, (979, 0, 0, 0), 0, 0, [])) none)) (cond (Nat.ble i 948) (cond (Nat.beq i 948) (some (.aload_n 3, 1, (3, 0, 0, 0), 0, 0, [])) none) (cond (Nat.beq i 949) (some (.bipush 7, 2, (0, 0, 0, 0), 7, 0, [])) none)))) (cond (Nat.ble i 958) (cond (Nat.ble i 954) (cond (Nat.ble i 951) (cond (Nat.beq i 951) (some (.invokevirtual 72, 3, (54, 2, 3, 2305), 0, 0, [])) none) (cond (Nat.beq i 954) (some (.ifCond .ne 25, 3, (979, 0, 0, 0), 0, 0, [])) none)) (cond (Nat.ble i 957) (cond (Nat.beq i 957) (some (.aload_n 3, 1, (3, 0, 0, 0), 0, 0, [])) none) (cond (Nat.beq i 958) (some (.aload 4, 2, (4, 0, 0, 0), 0, 0, [])) none))) (cond (Nat.ble i 962) (cond (Nat.ble i 960) (cond (Nat.beq i 960) (some (.aload 5, 2, (5, 0, 0, 0), 0, 0, [])) none) (cond (Nat.beq i 962) (some (.invokestatic 75, 3, (86, 3, 6, 1), 0, 0, [])) none)) (cond (Nat.ble i 965) (cond (Nat.beq i 965) (some (.ifCond .eq 14, 3, (979, 0, 0, 0), 0, 0, [])) none) (cond (Nat.ble i 968) (cond (Nat.beq i 968) (some (.aload_n 3, 1, (3, 0, 0, 0), 0, 0, [])) none) (cond (Nat.beq i 969) (some (.invokevirtual 108, 3, (49, 1, 4, 2305), 0, 0, [])) none)))))) (cond (Nat.ble i 984) (cond (Nat.ble i 979) (cond (Nat.ble i 975) (cond (Nat.ble i 972) (cond (Nat.beq i 972) (some (.ifCond .ne 7, 3, (979, 0, 0, 0), 0, 0, [])) none) (cond (Nat.beq i 975) (some (.iconst 1, 1, (0, 0, 0, 0), 1, 0, [])) none)) (cond (Nat.ble i 976) (cond (Nat.beq i 976) (some (.goto 4, 3, (980, 0, 0, 0), 0, 0, [])) none) (cond (Nat.beq i 979) (some (.iconst 0, 1, (0, 0, 0, 0), 0, 0, [])) none))) (cond (Nat.ble i 982) (cond (Nat.ble i 980) (cond (Nat.beq i 980) (some (.istore 9, 2, (9, 0, 0, 0), 0, 0, [])) none) (cond (Nat.beq i 982) (some (.aload_n 3, 1, (3, 0, 0, 0), 0, 0, [])) none)) (cond (Nat.ble i 983) (cond (Nat.beq i 983) (some (.iconst 1, 1, (0, 0, 0, 0), 1, 0, [])) none) (cond (Nat.beq i 984) (some (.invokevirtual 72, 3, (54, 2, 3, 2305), 0, 0, [])) none)))) (cond (Nat.ble i 992) (cond (Nat.ble i 989) (cond (Nat.ble i 987) (cond (Nat.beq i 987) (some (.istore 22, 2, (22, 0, 0, 0), 0, 0, [])) none) (cond (Nat.beq i 989) (some (.iconst 0, 1, (0, 0, 0, 0), 0, 0, [])) none)) (cond (Nat.ble i 990) (cond (Nat.beq i 990) (some (.istore 23, 2, (23, 0, 0, 0), 0, 0, [])) none) (cond (Nat.beq i 992) (some (.iload 23, 2, (23, 0, 0, 0), 0, 0, [])) none))) (cond (Nat.ble i 996) (cond (Nat.ble i 994) (cond (Nat.beq i 994) (some (.iload 22, 2, (22, 0, 0, 0), 0, 0, [])) none) (cond (Nat.beq i 996) (some (.if_icmp .ge 28, 3, (1024, 0, 0, 0), 0, 0, [])) none)) (cond (Nat.ble i 999) (cond (Nat.beq i 999) (some (.iload 9, 2, (9, 0, 0, 0), 0, 0, [])) none) (cond (Nat.ble i 1001) (cond (Nat.beq i 1001) (some (.ifCond .eq 23, 3, (1024, 0, 0, 0), 0, 0, [])) none) (cond (Nat.beq i 1004) (some (.aload_n 3, 1, (3, 0, 0, 0), 0, 0, [])) none))))))) (cond (Nat.ble i 1040) (cond (Nat.ble i 1021) (cond (Nat.ble i 1012) (cond (Nat.ble i 1008) (cond (Nat.ble i 1005) (cond (Nat.beq i 1005) (some (.invokevirtual 79, 3, (43, 1, 3, 2305), 0, 0, [])) none) (cond (Nat.beq i 1008) (some (.ifCond .lt 7, 3, (1015, 0, 0, 0), 0, 0, [])) none)) (cond (Nat.ble i 1011) (cond (Nat.beq i 1011) (some (.iconst 1, 1, (0, 0, 0, 0), 1, 0, [])) none) (cond (Nat.beq i 1012) (some (.goto 4, 3, (1016, 0, 0, 0), 0, 0, [])) none))) (cond (Nat.ble i 1016) (cond (Nat.ble i 1015) (cond (Nat.beq i 1015) (some (.iconst 0, 1, (0, 0, 0, 0), 0, 0, [])) none) (cond (Nat.beq i 1016) (some (.istore 9, 2, (9, 0, 0, 0), 0, 0, [])) none)) (cond (Nat.ble i 1018) (cond (Nat.beq i 1018) (some (.iinc 23 1, 3, (23, 0, 0, 0), 1, 0, [])) none) (cond (Nat.beq i 1021) (some (.goto (-29), 3, (992, 0, 0, 0), 0, 0, [])) none)))) (cond (Nat.ble i 1030) (cond (Nat.ble i 1026) (cond (Nat.ble i 1024) (cond (Nat.beq i 1024) (some (.iload 9, 2, (9, 0, 0, 0), 0, 0, [])) none) (cond (Nat.beq i 1026) (some (.ifCond .eq 49, 3, (1075, 0, 0, 0), 0, 0, [])) none)) (cond (Nat.ble i 1029) (cond (Nat.beq i 1029) (some (.aload_n 3, 1, (3, 0, 0, 0), 0, 0, [])) none) (cond (Nat.beq i 1030) (some (.invokevirtual 79, 3, (43, 1, 3, 2305), 0, 0, [])) none))) (cond (Nat.ble i 1035) (cond (Nat.ble i 1033) (cond (Nat.beq i 1033) (some (.bipush (-3), 2, (0, 0, 0, 0), -3, 0, [])) none) (cond (Nat.beq i 1035) (some (.if_icmp .ne 40, 3, (1075, 0, 0, 0), 0, 0, [])) none)) (cond (Nat.ble i 1038) (cond (Nat.beq i 1038) (some (.aload_n 3, 1, (3, 0, 0, 0), 0, 0, [])) none) (cond (Nat.ble i 1039) (cond (Nat.beq i 1039) (some (.iconst 5, 1, (0, 0, 0, 0), 5, 0, [])) none) (cond (Nat.beq i 1040) (some (.invokevirtual 72, 3, (54, 2, 3, 2305), 0, 0, [])) none)))))) (cond (Nat.ble i 1057) (cond (Nat.ble i 1048) (cond (Nat.ble i 1046) (cond (Nat.ble i 1043) (cond (Nat.beq i 1043) (some (.ifCond .ne 32, 3, (1075, 0, 0, 0), 0, 0, [])) none) (cond (Nat.beq i 1046) (some (.aload_n 3, 1, (3, 0, 0, 0), 0, 0, [])) none)) (cond (Nat.ble i 1047) (cond (Nat.beq i 1047) (some (.iconst 3, 1, (0, 0, 0, 0), 3, 0, [])) none) (cond (Nat.beq i 1048) (some (.invokevirtual 72, 3, (54, 2, 3, 2305), 0, 0, [])) none))) (cond (Nat.ble i 1053) (cond (Nat.ble i 1051) (cond (Nat.beq i 1051) (some (.iload 22, 2, (22, 0, 0, 0), 0, 0, [])) none) (cond (Nat.beq i 1053) (some (.if_icmp .ne 22, 3, (1075, 0, 0, 0), 0, 0, [])) none)) (cond (Nat.ble i 1056) (cond (Nat.beq i 1056) (some (.aload_n 3, 1, (3, 0, 0, 0), 0, 0, [])) none) (cond (Nat.beq i 1057) (some (.invokevirtual 111, 3, (52, 1, 2, 2305), 0, 0, [])) none)))) (cond (Nat.ble i 1065) (cond (Nat.ble i 1063) (cond (Nat.ble i 1060) (cond (Nat.beq i 1060) (some (.ifCond .ne 15, 3, (1075, 0, 0, 0), 0, 0, [])) none) (cond (Nat.beq i 1063) (some (.aload_n 3, 1, (3, 0, 0, 0), 0, 0, [])) none)) (cond (Nat.ble i 1064) (cond (Nat.beq i 1064) (some (.iconst 0, 1, (0, 0, 0, 0), 0, 0, [])) none) (cond (Nat.beq i 1065) (some (.invokevirtual 72, 3, (54, 2, 3, 2305), 0, 0, [])) none))) (cond (Nat.ble i 1071) (cond (Nat.ble i 1068) (cond (Nat.beq i 1068) (some (.ifCond .ne 7, 3, (1075, 0, 0, 0), 0, 0, [])) none) (cond (Nat.beq i 1071) (some (.iconst 1, 1, (0, 0, 0, 0), 1, 0, [])) none)) (cond (Nat.ble i 1072) (cond (Nat.beq i 1072) (some (.goto 4, 3, (1076, 0, 0, 0), 0, 0, [])) none) (cond (Nat.ble i 1075) (cond (Nat.beq i 1075) (some (.iconst 0, 1, (0, 0, 0, 0), 0, 0, [])) none) (cond (Nat.beq i 1076) (some (.ireturn, 1, (1, 0, 0, 0), 0, 0, [])) none))))))))))
def pd_mx (m : Nat) : Nat := cond (Nat.ble m 44) (cond (Nat.ble m 21) (cond (Nat.ble m 10) (cond (Nat.ble m 4) (cond (Nat.ble m 1) (cond (Nat.ble m 0) (17) (80)) (cond (Nat.ble m 2) (74) (cond (Nat.ble m 3) (51) (33)))) (cond (Nat.ble m 7) (cond (Nat.ble m 5) (28) (cond (Nat.ble m 6) (13) (11))) (cond (Nat.ble m 8) (122) (cond (Nat.ble m 9) (160) (152))))) (cond (Nat.ble m 15) (cond (Nat.ble m 12) (cond (Nat.ble m 11) (127) (112)) (cond (Nat.ble m 13) (55) (cond (Nat.ble m 14) (63) (51)))) (cond (Nat.ble m 18) (cond (Nat.ble m 16) (106) (cond (Nat.ble m 17) (133) (61))) (cond (Nat.ble m 19) (29) (cond (Nat.ble m 20) (29) (48)))))) (cond (Nat.ble m 32) (cond (Nat.ble m 26) (cond (Nat.ble m 23) (cond (Nat.ble m 22) (36) (59)) (cond (Nat.ble m 24) (28) (cond (Nat.ble m 25) (20) (19)))) (cond (Nat.ble m 29) (cond (Nat.ble m 27) (55) (cond (Nat.ble m 28) (58) (126))) (cond (Nat.ble m 30) (15) (cond (Nat.ble m 31) (66) (14))))) (cond (Nat.ble m 38) (cond (Nat.ble m 35) (cond (Nat.ble m 33) (26) (cond (Nat.ble m 34) (17) (44))) (cond (Nat.ble m 36) (109) (cond (Nat.ble m 37) (48) (31)))) (cond (Nat.ble m 41) (cond (Nat.ble m 39) (79) (cond (Nat.ble m 40) (88) (40))) (cond (Nat.ble m 42) (127) (cond (Nat.ble m 43) (62) (48))))))) (cond (Nat.ble m 66) (cond (Nat.ble m 55) (cond (Nat.ble m 49) (cond (Nat.ble m 46) (cond (Nat.ble m 45) (125) (22)) (cond (Nat.ble m 47) (128) (cond (Nat.ble m 48) (83) (65)))) (cond (Nat.ble m 52) (cond (Nat.ble m 50) (28) (cond (Nat.ble m 51) (27) (68))) (cond (Nat.ble m 53) (45) (cond (Nat.ble m 54) (152) (4))))) (cond (Nat.ble m 60) (cond (Nat.ble m 57) (cond (Nat.ble m 56) (6) (32)) (cond (Nat.ble m 58) (25) (cond (Nat.ble m 59) (19) (15)))) (cond (Nat.ble m 63) (cond (Nat.ble m 61) (20) (cond (Nat.ble m 62) (20) (48))) (cond (Nat.ble m 64) (48) (cond (Nat.ble m 65) (51) (62)))))) (cond (Nat.ble m 77) (cond (Nat.ble m 71) (cond (Nat.ble m 68) (cond (Nat.ble m 67) (25) (6)) (cond (Nat.ble m 69) (6) (cond (Nat.ble m 70) (82) (28)))) (cond (Nat.ble m 74) (cond (Nat.ble m 72) (45) (cond (Nat.ble m 73) (42) (84))) (cond (Nat.ble m 75) (33) (cond (Nat.ble m 76) (106) (25))))) (cond (Nat.ble m 83) (cond (Nat.ble m 80) (cond (Nat.ble m 78) (52) (cond (Nat.ble m 79) (10) (18))) (cond (Nat.ble m 81) (6) (cond (Nat.ble m 82) (93) (123)))) (cond (Nat.ble m 86) (cond (Nat.ble m 84) (150) (cond (Nat.ble m 85) (45) (97))) (cond (Nat.ble m 87) (25) (cond (Nat.ble m 88) (92) (1076)))))))
def pd_cd (m i : Nat) : Option pd_O := cond (Nat.ble i (pd_mx m)) (cond (Nat.ble m 44) (cond (Nat.ble m 21) (cond (Nat.ble m 10) (cond (Nat.ble m 4) (cond (Nat.ble m 1) (cond (Nat.ble m 0) (cond (Nat.beq m 0) (pd_k0 i) none) (cond (Nat.beq m 1) (pd_k1 i) none)) (cond (Nat.ble m 2) (cond (Nat.beq m 2) (pd_k2 i) none) (cond (Nat.ble m 3) (cond (Nat.beq m 3) (pd_k3 i) none) (cond (Nat.beq m 4) (pd_k4 i) none)))) (cond (Nat.ble m 7) (cond (Nat.ble m 5) (cond (Nat.beq m 5) (pd_k5 i) none) (cond (Nat.ble m 6) (cond (Nat.beq m 6) (pd_k6 i) none) (cond (Nat.beq m 7) (pd_k7 i) none))) (cond (Nat.ble m 8) (cond (Nat.beq m 8) (pd_k8 i) none) (cond (Nat.ble m 9) (cond (Nat.beq m 9) (pd_k9 i) none) (cond (Nat.beq m 10) (pd_k10 i) none))))) (cond (Nat.ble m 15) (cond (Nat.ble m 12) (cond (Nat.ble m 11) (cond (Nat.beq m 11) (pd_k11 i) none) (cond (Nat.beq m 12) (pd_k12 i) none)) (cond (Nat.ble m 13) (cond (Nat.beq m 13) (pd_k13 i) none) (cond (Nat.ble m 14) (cond (Nat.beq m 14) (pd_k14 i) none) (cond (Nat.beq m 15) (pd_k15 i) none)))) (cond (Nat.ble m 18) (cond (Nat.ble m 16) (cond (Nat.beq m 16) (pd_k16 i) none) (cond (Nat.ble m 17) (cond (Nat.beq m 17) (pd_k17 i) none) (cond (Nat.beq m 18) (pd_k18 i) none))) (cond (Nat.ble m 19) (cond (Nat.beq m 19) (pd_k19 i) none) (cond (Nat.ble m 20) (cond (Nat.beq m 20) (pd_k20 i) none) (cond (Nat.beq m 21) (pd_k21 i) none)))))) (cond (Nat.ble m 32) (cond (Nat.ble m 26) (cond (Nat.ble m 23) (cond (Nat.ble m 22) (cond (Nat.beq m 22) (pd_k22 i) none) (cond (Nat.beq m 23) (pd_k23 i) none)) (cond (Nat.ble m 24) (cond (Nat.beq m 24) (pd_k24 i) none) (cond (Nat.ble m 25) (cond (Nat.beq m 25) (pd_k25 i) none) (cond (Nat.beq m 26) (pd_k26 i) none)))) (cond (Nat.ble m 29) (cond (Nat.ble m 27) (cond (Nat.beq m 27) (pd_k27 i) none) (cond (Nat.ble m 28) (cond (Nat.beq m 28) (pd_k28 i) none) (cond (Nat.beq m 29) (pd_k29 i) none))) (cond (Nat.ble m 30) (cond (Nat.beq m 30) (pd_k30 i) none) (cond (Nat.ble m 31) (cond (Nat.beq m 31) (pd_k31 i) none) (cond (Nat.beq m 32) (pd_k32 i) none))))) (cond (Nat.ble m 38) (cond (Nat.ble m 35) (cond (Nat.ble m 33) (cond (Nat.beq m 33) (pd_k33 i) none) (cond (Nat.ble m 34) (cond (Nat.beq m 34) (pd_k34 i) none) (cond (Nat.beq m 35) (pd_k35 i) none))) (cond (Nat.ble m 36) (cond (Nat.beq m 36) (pd_k36 i) none) (cond (Nat.ble m 37) (cond (Nat.beq m 37) (pd_k37 i) none) (cond (Nat.beq m 38) (pd_k38 i) none)))) (cond (Nat.ble m 41) (cond (Nat.ble m 39) (cond (Nat.beq m 39) (pd_k39 i) none) (cond (Nat.ble m 40) (cond (Nat.beq m 40) (pd_k40 i) none) (cond (Nat.beq m 41) (pd_k41 i) none))) (cond (Nat.ble m 42) (cond (Nat.beq m 42) (pd_k42 i) none) (cond (Nat.ble m 43) (cond (Nat.beq m 43) (pd_k43 i) none) (cond (Nat.beq m 44) (pd_k44 i) none))))))) (cond (Nat.ble m 66) (cond (Nat.ble m 55) (cond (Nat.ble m 49) (cond (Nat.ble m 46) (cond (Nat.ble m 45) (cond (Nat.beq m 45) (pd_k45 i) none) (cond (Nat.beq m 46) (pd_k46 i) none)) (cond (Nat.ble m 47) (cond (Nat.beq m 47) (pd_k47 i) none) (cond (Nat.ble m 48) (cond (Nat.beq m 48) (pd_k48 i) none) (cond (Nat.beq m 49) (pd_k49 i) none)))) (cond (Nat.ble m 52) (cond (Nat.ble m 50) (cond (Nat.beq m 50) (pd_k50 i) none) (cond (Nat.ble m 51) (cond (Nat.beq m 51) (pd_k51 i) none) (cond (Nat.beq m 52) (pd_k52 i) none))) (cond (Nat.ble m 53) (cond (Nat.beq m 53) (pd_k53 i) none) (cond (Nat.ble m 54) (cond (Nat.beq m 54) (pd_k54 i) none) (cond (Nat.beq m 55) (pd_k55 i) none))))) (cond (Nat.ble m 60) (cond (Nat.ble m 57) (cond (Nat.ble m 56) (cond (Nat.beq m 56) (pd_k56 i) none) (cond (Nat.beq m 57) (pd_k57 i) none)) (cond (Nat.ble m 58) (cond (Nat.beq m 58) (pd_k58 i) none) (cond (Nat.ble m 59) (cond (Nat.beq m 59) (pd_k59 i) none) (cond (Nat.beq m 60) (pd_k60 i) none)))) (cond (Nat.ble m 63) (cond (Nat.ble m 61) (cond (Nat.beq m 61) (pd_k61 i) none) (cond (Nat.ble m 62) (cond (Nat.beq m 62) (pd_k62 i) none) (cond (Nat.beq m 63) (pd_k63 i) none))) (cond (Nat.ble m 64) (cond (Nat.beq m 64) (pd_k64 i) none) (cond (Nat.ble m 65) (cond (Nat.beq m 65) (pd_k65 i) none) (cond (Nat.beq m 66) (pd_k66 i) none)))))) (cond (Nat.ble m 77) (cond (Nat.ble m 71) (cond (Nat.ble m 68) (cond (Nat.ble m 67) (cond (Nat.beq m 67) (pd_k67 i) none) (cond (Nat.beq m 68) (pd_k68 i) none)) (cond (Nat.ble m 69) (cond (Nat.beq m 69) (pd_k69 i) none) (cond (Nat.ble m 70) (cond (Nat.beq m 70) (pd_k70 i) none) (cond (Nat.beq m 71) (pd_k71 i) none)))) (cond (Nat.ble m 74) (cond (Nat.ble m 72) (cond (Nat.beq m 72) (pd_k72 i) none) (cond (Nat.ble m 73) (cond (Nat.beq m 73) (pd_k73 i) none) (cond (Nat.beq m 74) (pd_k74 i) none))) (cond (Nat.ble m 75) (cond (Nat.beq m 75) (pd_k75 i) none) (cond (Nat.ble m 76) (cond (Nat.beq m 76) (pd_k76 i) none) (cond (Nat.beq m 77) (pd_k77 i) none))))) (cond (Nat.ble m 83) (cond (Nat.ble m 80) (cond (Nat.ble m 78) (cond (Nat.beq m 78) (pd_k78 i) none) (cond (Nat.ble m 79) (cond (Nat.beq m 79) (pd_k79 i) none) (cond (Nat.beq m 80) (pd_k80 i) none))) (cond (Nat.ble m 81) (cond (Nat.beq m 81) (pd_k81 i) none) (cond (Nat.ble m 82) (cond (Nat.beq m 82) (pd_k82 i) none) (cond (Nat.beq m 83) (pd_k83 i) none)))) (cond (Nat.ble m 86) (cond (Nat.ble m 84) (cond (Nat.beq m 84) (pd_k84 i) none) (cond (Nat.ble m 85) (cond (Nat.beq m 85) (pd_k85 i) none) (cond (Nat.beq m 86) (pd_k86 i) none))) (cond (Nat.ble m 87) (cond (Nat.beq m 87) (pd_k87 i) none) (cond (Nat.ble m 88) (cond (Nat.beq m 88) (pd_k88 i) none) (cond (Nat.beq m 89) (pd_k89 i) none)))))))) none
noncomputable def pd_u (c : pd_C) : Option pd_R := pd_run pd_cd c
noncomputable def p4_u (c : pd_C) : Option pd_R := p4_run pd_cd c
/-! Each method by its name; the law's own, and what it calls, over all four. -/
noncomputable def Book_nextOfDraft  (σ : pd_H) : Option pd_R := pd_u (0, 0, [some (pd_r 0 7)], [], σ)
noncomputable def Book_makePatchOfDraft  (σ : pd_H) : Option pd_R := pd_u (1, 0, [some (pd_r 0 7), none, none], [], σ)
noncomputable def Book_removeChanges (a : Int32) (b : Int32) (σ : pd_H) : Option pd_R := pd_u (2, 0, [some (pd_r 0 7), some (pd_i a), some (pd_i b), none, none, none], [], σ)
noncomputable def Book_touches (a : Int32) (b : Int32) (σ : pd_H) : Option pd_R := pd_u (3, 0, [some (pd_r 0 7), some (pd_i a), some (pd_i b), none, none], [], σ)
noncomputable def Change_become (o : Nat) (a : Int32) (b : Int32) (c : Int32) (d : Int32) (e : Int32) (f : Int32) (σ : pd_H) : Option pd_R := pd_u (4, 0, [some (pd_r 1 o), some (pd_i a), some (pd_i b), some (pd_i c), some (pd_i d), some (pd_i e), some (pd_i f)], [], σ)
noncomputable def Change_becomeLike (o : Nat) (a : Nat) (σ : pd_H) : Option pd_R := pd_u (5, 0, [some (pd_r 1 o), some (pd_r 1 a)], [], σ)
noncomputable def Change_isCopy (o : Nat) (σ : pd_H) : Option pd_R := pd_u (6, 0, [some (pd_r 1 o)], [], σ)
noncomputable def Run_standLike (o : Nat) (a : Nat) (σ : pd_H) : Option pd_R := pd_u (7, 0, [some (pd_r 2 o), some (pd_r 2 a)], [], σ)
noncomputable def Run_play (o : Nat) (σ : pd_H) : Option pd_R := pd_u (8, 0, [some (pd_r 2 o), none, none, none], [], σ)
noncomputable def Run_step (o : Nat) (a : Int32) (b : Int32) (σ : pd_H) : Option pd_R := pd_u (9, 0, [some (pd_r 2 o), some (pd_i a), some (pd_i b), none, none], [], σ)
noncomputable def Run_pickUp (o : Nat) (a : Nat) (b : Int32) (σ : pd_H) : Option pd_R := pd_u (10, 0, [some (pd_r 2 o), some (pd_r 1 a), some (pd_i b), none, none], [], σ)
noncomputable def Run_putDown (o : Nat) (a : Nat) (b : Int32) (σ : pd_H) : Option pd_R := pd_u (11, 0, [some (pd_r 2 o), some (pd_r 1 a), some (pd_i b), none, none], [], σ)
noncomputable def Run_markDead (o : Nat) (σ : pd_H) : Option pd_R := pd_u (12, 0, [some (pd_r 2 o), none, none, none], [], σ)
noncomputable def Run_isNeeded (o : Nat) (a : Nat) (σ : pd_H) : Option pd_R := pd_u (13, 0, [some (pd_r 2 o), some (pd_r 1 a), none, none], [], σ)
noncomputable def Run_dependents (o : Nat) (a : Int32) (σ : pd_H) : Option pd_R := pd_u (14, 0, [some (pd_r 2 o), some (pd_i a), none, none, none], [], σ)
noncomputable def Run_readsFrom (o : Nat) (a : Int32) (b : Int32) (σ : pd_H) : Option pd_R := pd_u (15, 0, [some (pd_r 2 o), some (pd_i a), some (pd_i b), none, none], [], σ)
noncomputable def Run_movedFrom (o : Nat) (a : Nat) (σ : pd_H) : Option pd_R := pd_u (16, 0, [some (pd_r 2 o), some (pd_r 2 a), none, none, none, none, none], [], σ)
noncomputable def Run_unchangedAfter (o : Nat) (a : Int32) (σ : pd_H) : Option pd_R := pd_u (17, 0, [some (pd_r 2 o), some (pd_i a), none, none, none, none, none, none], [], σ)
noncomputable def Run_lastChangeOf (o : Nat) (a : Int32) (b : Int32) (σ : pd_H) : Option pd_R := pd_u (18, 0, [some (pd_r 2 o), some (pd_i a), some (pd_i b), none, none], [], σ)
noncomputable def Seq_append (o : Nat) (a : Int32) (σ : pd_H) : Option pd_R := pd_u (19, 0, [some (pd_r 4 o), some (pd_i a)], [], σ)
noncomputable def Seq_indexOf (o : Nat) (a : Int32) (σ : pd_H) : Option pd_R := pd_u (20, 0, [some (pd_r 4 o), some (pd_i a), none], [], σ)
noncomputable def Seq_remove (o : Nat) (a : Int32) (σ : pd_H) : Option pd_R := pd_u (21, 0, [some (pd_r 4 o), some (pd_i a), none, none], [], σ)
noncomputable def Seq_becomeLike (o : Nat) (a : Nat) (σ : pd_H) : Option pd_R := pd_u (22, 0, [some (pd_r 4 o), some (pd_r 4 a), none], [], σ)
noncomputable def Shelf_place (a : Int32) (b : Int32) (c : Int32) (σ : pd_H) : Option pd_R := pd_u (23, 0, [some (pd_r 5 1), some (pd_i a), some (pd_i b), some (pd_i c), none, none], [], σ)
noncomputable def Shelf_arrayFinding (a : Int32) (σ : pd_H) : Option pd_R := pd_u (24, 0, [some (pd_r 5 1), some (pd_i a)], [], σ)
noncomputable def Shelf_elementFinding (a : Int32) (b : Int32) (σ : pd_H) : Option pd_R := pd_u (25, 0, [some (pd_r 5 1), some (pd_i a), some (pd_i b), none], [], σ)
noncomputable def Shelf_indexFinding (a : Int32) (b : Int32) (σ : pd_H) : Option pd_R := pd_u (26, 0, [some (pd_r 5 1), some (pd_i a), some (pd_i b)], [], σ)
noncomputable def Shelf_readingFinding (a : Int32) (b : Int32) (c : Int32) (σ : pd_H) : Option pd_R := pd_u (27, 0, [some (pd_r 5 1), some (pd_i a), some (pd_i b), some (pd_i c), none], [], σ)
noncomputable def Shelf_writingFinding (a : Int32) (b : Int32) (c : Int32) (σ : pd_H) : Option pd_R := pd_u (28, 0, [some (pd_r 5 1), some (pd_i a), some (pd_i b), some (pd_i c), none], [], σ)
noncomputable def Shelf_takes (a : Int32) (b : Int32) (σ : pd_H) : Option pd_R := pd_u (29, 0, [some (pd_i a), some (pd_i b)], [], σ)
noncomputable def Tally_add (a : Int32) (b : Int32) (σ : pd_H) : Option pd_R := pd_u (30, 0, [some (pd_r 6 15), some (pd_i a), some (pd_i b)], [], σ)
noncomputable def Tally_addStep (a : Nat) (σ : pd_H) : Option pd_R := pd_u (31, 0, [some (pd_r 6 15), some (pd_r 2 a)], [], σ)
noncomputable def Values_put (o : Nat) (a : Int32) (b : Int32) (c : Int64) (σ : pd_H) : Option pd_R := pd_u (32, 0, [some (pd_r 8 o), some (pd_i a), some (pd_i b), some (pd_j c), none], [], σ)
noncomputable def Values_isAt (o : Nat) (a : Int32) (b : Int32) (c : Int64) (σ : pd_H) : Option pd_R := pd_u (33, 0, [some (pd_r 8 o), some (pd_i a), some (pd_i b), some (pd_j c), none], [], σ)
noncomputable def Values_equalAt (o : Nat) (a : Int32) (b : Nat) (σ : pd_H) : Option pd_R := pd_u (34, 0, [some (pd_r 8 o), some (pd_i a), some (pd_r 8 b)], [], σ)
noncomputable def Values_becomeLike (o : Nat) (a : Nat) (σ : pd_H) : Option pd_R := pd_u (35, 0, [some (pd_r 8 o), some (pd_r 8 a), none, none], [], σ)
noncomputable def X_row (a : Int32) (b : Int32) (c : Int32) (σ : pd_H) : Option pd_R := pd_u (36, 0, [some (pd_r 9 0), some (pd_i a), some (pd_i b), some (pd_i c), none], [], σ)
noncomputable def Y_row (o : Nat) (a : Int32) (b : Int32) (c : Int32) (σ : pd_H) : Option pd_R := p4_u (36, 0, [some (pd_r 9 o), some (pd_i a), some (pd_i b), some (pd_i c), none], [], σ)
noncomputable def X_get (a : Int32) (b : Int32) (c : Int32) (σ : pd_H) : Option pd_R := pd_u (37, 0, [some (pd_r 9 0), some (pd_i a), some (pd_i b), some (pd_i c)], [], σ)
noncomputable def Y_get (o : Nat) (a : Int32) (b : Int32) (c : Int32) (σ : pd_H) : Option pd_R := p4_u (37, 0, [some (pd_r 9 o), some (pd_i a), some (pd_i b), some (pd_i c)], [], σ)
noncomputable def X_what (a : Int32) (b : Int32) (σ : pd_H) : Option pd_R := pd_u (38, 0, [some (pd_r 9 0), some (pd_i a), some (pd_i b), none], [], σ)
noncomputable def Y_what (o : Nat) (a : Int32) (b : Int32) (σ : pd_H) : Option pd_R := p4_u (38, 0, [some (pd_r 9 o), some (pd_i a), some (pd_i b), none], [], σ)
noncomputable def X_change (a : Int32) (b : Int32) (c : Int32) (d : Int32) (σ : pd_H) : Option pd_R := pd_u (39, 0, [some (pd_r 9 0), some (pd_i a), some (pd_i b), some (pd_i c), some (pd_i d)], [], σ)
noncomputable def Y_change (o : Nat) (a : Int32) (b : Int32) (c : Int32) (d : Int32) (σ : pd_H) : Option pd_R := p4_u (39, 0, [some (pd_r 9 o), some (pd_i a), some (pd_i b), some (pd_i c), some (pd_i d)], [], σ)
noncomputable def X_move (a : Int32) (b : Int32) (c : Int32) (d : Int32) (e : Int32) (σ : pd_H) : Option pd_R := pd_u (40, 0, [some (pd_r 9 0), some (pd_i a), some (pd_i b), some (pd_i c), some (pd_i d), some (pd_i e)], [], σ)
noncomputable def Y_move (o : Nat) (a : Int32) (b : Int32) (c : Int32) (d : Int32) (e : Int32) (σ : pd_H) : Option pd_R := p4_u (40, 0, [some (pd_r 9 o), some (pd_i a), some (pd_i b), some (pd_i c), some (pd_i d), some (pd_i e)], [], σ)
noncomputable def X_drop  (σ : pd_H) : Option pd_R := pd_u (41, 0, [some (pd_r 9 0)], [], σ)
noncomputable def Y_drop (o : Nat) (σ : pd_H) : Option pd_R := p4_u (41, 0, [some (pd_r 9 o)], [], σ)
noncomputable def X_lay  (σ : pd_H) : Option pd_R := pd_u (42, 0, [some (pd_r 9 0), none, none, none], [], σ)
noncomputable def Y_lay (o : Nat) (σ : pd_H) : Option pd_R := p4_u (42, 0, [some (pd_r 9 o), none, none, none], [], σ)
noncomputable def X_undo  (σ : pd_H) : Option pd_R := pd_u (43, 0, [some (pd_r 9 0), none, none], [], σ)
noncomputable def Y_undo (o : Nat) (σ : pd_H) : Option pd_R := p4_u (43, 0, [some (pd_r 9 o), none, none], [], σ)
noncomputable def X_out (a : Int32) (σ : pd_H) : Option pd_R := pd_u (44, 0, [some (pd_r 9 0), some (pd_i a), none], [], σ)
noncomputable def Y_out (o : Nat) (a : Int32) (σ : pd_H) : Option pd_R := p4_u (44, 0, [some (pd_r 9 o), some (pd_i a), none], [], σ)
noncomputable def X_with (a : Int32) (σ : pd_H) : Option pd_R := pd_u (45, 0, [some (pd_r 9 0), some (pd_i a), none, none, none, none, none], [], σ)
noncomputable def Y_with (o : Nat) (a : Int32) (σ : pd_H) : Option pd_R := p4_u (45, 0, [some (pd_r 9 o), some (pd_i a), none, none, none, none, none], [], σ)
noncomputable def X_hangs (a : Int32) (σ : pd_H) : Option pd_R := pd_u (46, 0, [some (pd_r 9 0), some (pd_i a), none], [], σ)
noncomputable def Y_hangs (o : Nat) (a : Int32) (σ : pd_H) : Option pd_R := p4_u (46, 0, [some (pd_r 9 o), some (pd_i a), none], [], σ)
noncomputable def X_without (a : Int32) (b : Int32) (c : Int32) (σ : pd_H) : Option pd_R := pd_u (47, 0, [some (pd_r 9 0), some (pd_i a), some (pd_i b), some (pd_i c), none], [], σ)
noncomputable def Y_without (o : Nat) (a : Int32) (b : Int32) (c : Int32) (σ : pd_H) : Option pd_R := p4_u (47, 0, [some (pd_r 9 o), some (pd_i a), some (pd_i b), some (pd_i c), none], [], σ)
noncomputable def X_trace (a : Int32) (b : Int32) (c : Int32) (σ : pd_H) : Option pd_R := pd_u (48, 0, [some (pd_r 9 0), some (pd_i a), some (pd_i b), some (pd_i c)], [], σ)
noncomputable def Y_trace (o : Nat) (a : Int32) (b : Int32) (c : Int32) (σ : pd_H) : Option pd_R := p4_u (48, 0, [some (pd_r 9 o), some (pd_i a), some (pd_i b), some (pd_i c)], [], σ)
noncomputable def X_prune  (σ : pd_H) : Option pd_R := pd_u (49, 0, [some (pd_r 9 0), none, none, none], [], σ)
noncomputable def Y_prune (o : Nat) (σ : pd_H) : Option pd_R := p4_u (49, 0, [some (pd_r 9 o), none, none, none], [], σ)
noncomputable def X_blame (a : Int32) (b : Int32) (σ : pd_H) : Option pd_R := pd_u (50, 0, [some (pd_r 9 0), some (pd_i a), some (pd_i b), none], [], σ)
noncomputable def Y_blame (o : Nat) (a : Int32) (b : Int32) (σ : pd_H) : Option pd_R := p4_u (50, 0, [some (pd_r 9 o), some (pd_i a), some (pd_i b), none], [], σ)
noncomputable def X_since (a : Int32) (b : Int32) (σ : pd_H) : Option pd_R := pd_u (51, 0, [some (pd_r 9 0), some (pd_i a), some (pd_i b), none], [], σ)
noncomputable def Y_since (o : Nat) (a : Int32) (b : Int32) (σ : pd_H) : Option pd_R := p4_u (51, 0, [some (pd_r 9 o), some (pd_i a), some (pd_i b), none], [], σ)
noncomputable def X_settle  (σ : pd_H) : Option pd_R := pd_u (52, 0, [some (pd_r 9 0), none], [], σ)
noncomputable def Y_settle (o : Nat) (σ : pd_H) : Option pd_R := p4_u (52, 0, [some (pd_r 9 o), none], [], σ)
noncomputable def X_fault (a : Int32) (σ : pd_H) : Option pd_R := pd_u (53, 0, [some (pd_r 9 0), some (pd_i a)], [], σ)
noncomputable def Y_fault (o : Nat) (a : Int32) (σ : pd_H) : Option pd_R := p4_u (53, 0, [some (pd_r 9 o), some (pd_i a)], [], σ)
noncomputable def X_count (a : Int32) (σ : pd_H) : Option pd_R := pd_u (54, 0, [some (pd_r 9 0), some (pd_i a), none], [], σ)
noncomputable def Y_count (o : Nat) (a : Int32) (σ : pd_H) : Option pd_R := p4_u (54, 0, [some (pd_r 9 o), some (pd_i a), none], [], σ)
noncomputable def X_findingCode (a : Int32) (σ : pd_H) : Option pd_R := pd_u (55, 0, [some (pd_i a)], [], σ)
noncomputable def X_longError (a : Int32) (σ : pd_H) : Option pd_R := pd_u (56, 0, [some (pd_i a)], [], σ)
noncomputable def X_elementError (a : Int32) (b : Int32) (σ : pd_H) : Option pd_R := pd_u (57, 0, [some (pd_r 9 0), some (pd_i a), some (pd_i b), none], [], σ)
noncomputable def X_appliedError (a : Int32) (σ : pd_H) : Option pd_R := pd_u (58, 0, [some (pd_r 9 0), some (pd_i a)], [], σ)
noncomputable def X_refuse (a : Int32) (b : Int32) (c : Int32) (σ : pd_H) : Option pd_R := pd_u (59, 0, [some (pd_r 9 0), some (pd_i a), some (pd_i b), some (pd_i c)], [], σ)
noncomputable def X_isSlot (a : Int32) (σ : pd_H) : Option pd_R := pd_u (60, 0, [some (pd_i a)], [], σ)
noncomputable def X_isPatch (a : Int32) (σ : pd_H) : Option pd_R := pd_u (61, 0, [some (pd_r 9 0), some (pd_i a)], [], σ)
noncomputable def X_isApplied (a : Int32) (σ : pd_H) : Option pd_R := pd_u (62, 0, [some (pd_r 9 0), some (pd_i a)], [], σ)
noncomputable def X_isInUse (a : Int32) (σ : pd_H) : Option pd_R := pd_u (63, 0, [some (pd_r 9 0), some (pd_i a), none], [], σ)
noncomputable def X_appliedChanges  (σ : pd_H) : Option pd_R := pd_u (64, 0, [some (pd_r 9 0), none, none], [], σ)
noncomputable def X_deadChanges  (σ : pd_H) : Option pd_R := pd_u (65, 0, [some (pd_r 9 0), none, none], [], σ)
noncomputable def X_carryOut  (σ : pd_H) : Option pd_R := pd_u (66, 0, [some (pd_r 9 0), none], [], σ)
noncomputable def X_rearranged (a : Int32) (σ : pd_H) : Option pd_R := pd_u (67, 0, [some (pd_r 9 0), some (pd_i a)], [], σ)
noncomputable def X_cellOf (a : Int32) (b : Int32) (σ : pd_H) : Option pd_R := pd_u (68, 0, [some (pd_i a), some (pd_i b)], [], σ)
noncomputable def X_stepOf (a : Int32) (b : Int32) (σ : pd_H) : Option pd_R := pd_u (69, 0, [some (pd_i a), some (pd_i b)], [], σ)
noncomputable def X_numberRead (a : Int32) (b : Int32) (c : Int32) (σ : pd_H) : Option pd_R := pd_u (70, 0, [some (pd_r 9 0), some (pd_i a), some (pd_i b), some (pd_i c), none, none], [], σ)
noncomputable def X_numberAt (a : Nat) (b : Int32) (σ : pd_H) : Option pd_R := pd_u (71, 0, [some (pd_r 8 a), some (pd_i b)], [], σ)
noncomputable def X_differences (a : Int32) (b : Nat) (c : Nat) (σ : pd_H) : Option pd_R := pd_u (72, 0, [some (pd_r 9 0), some (pd_i a), some (pd_r 8 b), some (pd_r 8 c), none, none], [], σ)
noncomputable def X_allDifferences (a : Nat) (b : Nat) (σ : pd_H) : Option pd_R := pd_u (73, 0, [some (pd_r 9 0), some (pd_r 8 a), some (pd_r 8 b), none, none], [], σ)
noncomputable def X_widens (a : Int32) (b : Int32) (σ : pd_H) : Option pd_R := pd_u (74, 0, [some (pd_i a), some (pd_i b)], [], σ)
noncomputable def X_widened (a : Int32) (b : Int64) (c : Int32) (σ : pd_H) : Option pd_R := pd_u (75, 0, [some (pd_i a), some (pd_j b), none, some (pd_i c)], [], σ)
noncomputable def X_numberMade (a : Int32) (b : Int32) (σ : pd_H) : Option pd_R := pd_u (76, 0, [some (pd_i a), some (pd_i b)], [], σ)
noncomputable def X_typeWritten (a : Int32) (σ : pd_H) : Option pd_R := pd_u (77, 0, [some (pd_i a)], [], σ)
noncomputable def J_bitCount (a : Int32) (σ : pd_H) : Option pd_R := pd_u (78, 0, [some (pd_i a)], [], σ)
noncomputable def J_min (a : Int32) (b : Int32) (σ : pd_H) : Option pd_R := pd_u (79, 0, [some (pd_i a), some (pd_i b)], [], σ)
noncomputable def L_cell (b : Int32) (σ : pd_H) : Option pd_R := p4_u (80, 0, [some (pd_r 30 922), some (pd_i b)], [], σ)
noncomputable def L_low (a : Int32) (b : Int32) (σ : pd_H) : Option pd_R := p4_u (81, 0, [some (pd_i a), some (pd_i b)], [], σ)
noncomputable def L_rows (a : Nat) (σ : pd_H) : Option pd_R := p4_u (82, 0, [some (pd_r 9 a), some (pd_r 30 922), some (pd_r 20 920), none, none, none], [], σ)
noncomputable def L_way (a : Int32) (b : Int32) (σ : pd_H) : Option pd_R := p4_u (83, 0, [some (pd_i a), some (pd_i b), none, none], [], σ)
noncomputable def L_change (a : Nat) (b : Int32) (σ : pd_H) : Option pd_R := p4_u (84, 0, [some (pd_r 9 a), some (pd_i b), some (pd_r 20 920), none, none, none, none, none], [], σ)
noncomputable def L_draft (a : Nat) (c : Int32) (σ : pd_H) : Option pd_R := p4_u (85, 0, [some (pd_r 9 a), some (pd_r 30 922), some (pd_i c), some (pd_r 20 920), none, none], [], σ)
noncomputable def L_alike (a : Nat) (b : Nat) (σ : pd_H) : Option pd_R := p4_u (86, 0, [some (pd_r 9 a), some (pd_r 9 b), some (pd_r 20 920), none, none, none], [], σ)
noncomputable def L_size (a : Int32) (σ : pd_H) : Option pd_R := p4_u (87, 0, [some (pd_i a), none, none], [], σ)
noncomputable def L_lays (a : Nat) (d : Int32) (σ : pd_H) : Option pd_R := p4_u (88, 0, [some (pd_r 9 a), some (pd_r 30 922), some (pd_r 20 920), some (pd_i d), none, none, none, none], [], σ)
noncomputable def L_law  (σ : pd_H) : Option pd_R := p4_u (89, 0, [some (pd_r 30 922), none, none, none, none, none, none, none, none, none, none, none, none, none, none, none, none, none, none, none, none, none, none, none], [], σ)
end
section
/-! What the tables' words say of the code: where each stands. -/
def pd_cn (k : Nat) : String := [RX0, RX1, RX2, RX3, RX4, RX5, RX6, RX7, RX8, RX9, RX10, RJ6, RJ9, RL].getD k RL
def pd_y (m : Nat) : MethodName := cond (Nat.ble m 44) (cond (Nat.ble m 21) (cond (Nat.ble m 10) (cond (Nat.ble m 4) (cond (Nat.ble m 1) (cond (Nat.ble m 0) (yX0_nextOfDraft) (yX0_makePatchOfDraft)) (cond (Nat.ble m 2) (yX0_removeChanges) (cond (Nat.ble m 3) (yX0_touches) (yX1_become)))) (cond (Nat.ble m 7) (cond (Nat.ble m 5) (yX1_becomeLike) (cond (Nat.ble m 6) (yX1_isCopy) (yX2_standLike))) (cond (Nat.ble m 8) (yX2_play) (cond (Nat.ble m 9) (yX2_step) (yX2_pickUp))))) (cond (Nat.ble m 15) (cond (Nat.ble m 12) (cond (Nat.ble m 11) (yX2_putDown) (yX2_markDead)) (cond (Nat.ble m 13) (yX2_isNeeded) (cond (Nat.ble m 14) (yX2_dependents) (yX2_readsFrom)))) (cond (Nat.ble m 18) (cond (Nat.ble m 16) (yX2_movedFrom) (cond (Nat.ble m 17) (yX2_unchangedAfter) (yX2_lastChangeOf))) (cond (Nat.ble m 19) (yX4_append) (cond (Nat.ble m 20) (yX4_indexOf) (yX4_remove)))))) (cond (Nat.ble m 32) (cond (Nat.ble m 26) (cond (Nat.ble m 23) (cond (Nat.ble m 22) (yX4_becomeLike) (yX5_place)) (cond (Nat.ble m 24) (yX5_arrayFinding) (cond (Nat.ble m 25) (yX5_elementFinding) (yX5_indexFinding)))) (cond (Nat.ble m 29) (cond (Nat.ble m 27) (yX5_readingFinding) (cond (Nat.ble m 28) (yX5_writingFinding) (yX5_takes))) (cond (Nat.ble m 30) (yX6_add) (cond (Nat.ble m 31) (yX6_addStep) (yX8_put))))) (cond (Nat.ble m 38) (cond (Nat.ble m 35) (cond (Nat.ble m 33) (yX8_isAt) (cond (Nat.ble m 34) (yX8_equalAt) (yX8_becomeLike))) (cond (Nat.ble m 36) (yX9_row) (cond (Nat.ble m 37) (yX9_get) (yX9_what)))) (cond (Nat.ble m 41) (cond (Nat.ble m 39) (yX9_change) (cond (Nat.ble m 40) (yX9_move) (yX9_drop))) (cond (Nat.ble m 42) (yX9_lay) (cond (Nat.ble m 43) (yX9_undo) (yX9_out))))))) (cond (Nat.ble m 66) (cond (Nat.ble m 55) (cond (Nat.ble m 49) (cond (Nat.ble m 46) (cond (Nat.ble m 45) (yX9_with) (yX9_hangs)) (cond (Nat.ble m 47) (yX9_without) (cond (Nat.ble m 48) (yX9_trace) (yX9_prune)))) (cond (Nat.ble m 52) (cond (Nat.ble m 50) (yX9_blame) (cond (Nat.ble m 51) (yX9_since) (yX9_settle))) (cond (Nat.ble m 53) (yX9_fault) (cond (Nat.ble m 54) (yX9_count) (yX9_findingCode))))) (cond (Nat.ble m 60) (cond (Nat.ble m 57) (cond (Nat.ble m 56) (yX9_longError) (yX9_elementError)) (cond (Nat.ble m 58) (yX9_appliedError) (cond (Nat.ble m 59) (yX9_refuse) (yX9_isSlot)))) (cond (Nat.ble m 63) (cond (Nat.ble m 61) (yX9_isPatch) (cond (Nat.ble m 62) (yX9_isApplied) (yX9_isInUse))) (cond (Nat.ble m 64) (yX9_appliedChanges) (cond (Nat.ble m 65) (yX9_deadChanges) (yX9_carryOut)))))) (cond (Nat.ble m 77) (cond (Nat.ble m 71) (cond (Nat.ble m 68) (cond (Nat.ble m 67) (yX9_rearranged) (yX9_cellOf)) (cond (Nat.ble m 69) (yX9_stepOf) (cond (Nat.ble m 70) (yX9_numberRead) (yX9_numberAt)))) (cond (Nat.ble m 74) (cond (Nat.ble m 72) (yX9_differences) (cond (Nat.ble m 73) (yX9_allDifferences) (yX9_widens))) (cond (Nat.ble m 75) (yX9_widened) (cond (Nat.ble m 76) (yX9_numberMade) (yX9_typeWritten))))) (cond (Nat.ble m 83) (cond (Nat.ble m 80) (cond (Nat.ble m 78) (yJ6_bitCount_0f7a4) (cond (Nat.ble m 79) (yJ9_min_7cf53) (yL_cell))) (cond (Nat.ble m 81) (yL_low) (cond (Nat.ble m 82) (yL_rows) (yL_way)))) (cond (Nat.ble m 86) (cond (Nat.ble m 84) (yL_change) (cond (Nat.ble m 85) (yL_draft) (yL_alike))) (cond (Nat.ble m 87) (yL_size) (cond (Nat.ble m 88) (yL_lays) (yL_law)))))))
def pd_b (m : Nat) : ByteArray := cond (Nat.ble m 44) (cond (Nat.ble m 21) (cond (Nat.ble m 10) (cond (Nat.ble m 4) (cond (Nat.ble m 1) (cond (Nat.ble m 0) (cX0_nextOfDraft) (cX0_makePatchOfDraft)) (cond (Nat.ble m 2) (cX0_removeChanges) (cond (Nat.ble m 3) (cX0_touches) (cX1_become)))) (cond (Nat.ble m 7) (cond (Nat.ble m 5) (cX1_becomeLike) (cond (Nat.ble m 6) (cX1_isCopy) (cX2_standLike))) (cond (Nat.ble m 8) (cX2_play) (cond (Nat.ble m 9) (cX2_step) (cX2_pickUp))))) (cond (Nat.ble m 15) (cond (Nat.ble m 12) (cond (Nat.ble m 11) (cX2_putDown) (cX2_markDead)) (cond (Nat.ble m 13) (cX2_isNeeded) (cond (Nat.ble m 14) (cX2_dependents) (cX2_readsFrom)))) (cond (Nat.ble m 18) (cond (Nat.ble m 16) (cX2_movedFrom) (cond (Nat.ble m 17) (cX2_unchangedAfter) (cX2_lastChangeOf))) (cond (Nat.ble m 19) (cX4_append) (cond (Nat.ble m 20) (cX4_indexOf) (cX4_remove)))))) (cond (Nat.ble m 32) (cond (Nat.ble m 26) (cond (Nat.ble m 23) (cond (Nat.ble m 22) (cX4_becomeLike) (cX5_place)) (cond (Nat.ble m 24) (cX5_arrayFinding) (cond (Nat.ble m 25) (cX5_elementFinding) (cX5_indexFinding)))) (cond (Nat.ble m 29) (cond (Nat.ble m 27) (cX5_readingFinding) (cond (Nat.ble m 28) (cX5_writingFinding) (cX5_takes))) (cond (Nat.ble m 30) (cX6_add) (cond (Nat.ble m 31) (cX6_addStep) (cX8_put))))) (cond (Nat.ble m 38) (cond (Nat.ble m 35) (cond (Nat.ble m 33) (cX8_isAt) (cond (Nat.ble m 34) (cX8_equalAt) (cX8_becomeLike))) (cond (Nat.ble m 36) (cX9_row) (cond (Nat.ble m 37) (cX9_get) (cX9_what)))) (cond (Nat.ble m 41) (cond (Nat.ble m 39) (cX9_change) (cond (Nat.ble m 40) (cX9_move) (cX9_drop))) (cond (Nat.ble m 42) (cX9_lay) (cond (Nat.ble m 43) (cX9_undo) (cX9_out))))))) (cond (Nat.ble m 66) (cond (Nat.ble m 55) (cond (Nat.ble m 49) (cond (Nat.ble m 46) (cond (Nat.ble m 45) (cX9_with) (cX9_hangs)) (cond (Nat.ble m 47) (cX9_without) (cond (Nat.ble m 48) (cX9_trace) (cX9_prune)))) (cond (Nat.ble m 52) (cond (Nat.ble m 50) (cX9_blame) (cond (Nat.ble m 51) (cX9_since) (cX9_settle))) (cond (Nat.ble m 53) (cX9_fault) (cond (Nat.ble m 54) (cX9_count) (cX9_findingCode))))) (cond (Nat.ble m 60) (cond (Nat.ble m 57) (cond (Nat.ble m 56) (cX9_longError) (cX9_elementError)) (cond (Nat.ble m 58) (cX9_appliedError) (cond (Nat.ble m 59) (cX9_refuse) (cX9_isSlot)))) (cond (Nat.ble m 63) (cond (Nat.ble m 61) (cX9_isPatch) (cond (Nat.ble m 62) (cX9_isApplied) (cX9_isInUse))) (cond (Nat.ble m 64) (cX9_appliedChanges) (cond (Nat.ble m 65) (cX9_deadChanges) (cX9_carryOut)))))) (cond (Nat.ble m 77) (cond (Nat.ble m 71) (cond (Nat.ble m 68) (cond (Nat.ble m 67) (cX9_rearranged) (cX9_cellOf)) (cond (Nat.ble m 69) (cX9_stepOf) (cond (Nat.ble m 70) (cX9_numberRead) (cX9_numberAt)))) (cond (Nat.ble m 74) (cond (Nat.ble m 72) (cX9_differences) (cond (Nat.ble m 73) (cX9_allDifferences) (cX9_widens))) (cond (Nat.ble m 75) (cX9_widened) (cond (Nat.ble m 76) (cX9_numberMade) (cX9_typeWritten))))) (cond (Nat.ble m 83) (cond (Nat.ble m 80) (cond (Nat.ble m 78) (cJ6_bitCount_0f7a4) (cond (Nat.ble m 79) (cJ9_min_7cf53) (cL_cell))) (cond (Nat.ble m 81) (cL_low) (cond (Nat.ble m 82) (cL_rows) (cL_way)))) (cond (Nat.ble m 86) (cond (Nat.ble m 84) (cL_change) (cond (Nat.ble m 85) (cL_draft) (cL_alike))) (cond (Nat.ble m 87) (cL_size) (cond (Nat.ble m 88) (cL_lays) (cL_law)))))))
def pd_ml (m : Nat) : Nat := cond (Nat.ble m 44) (cond (Nat.ble m 21) (cond (Nat.ble m 10) (cond (Nat.ble m 4) (cond (Nat.ble m 1) (cond (Nat.ble m 0) (1) (3)) (cond (Nat.ble m 2) (6) (cond (Nat.ble m 3) (5) (7)))) (cond (Nat.ble m 7) (cond (Nat.ble m 5) (2) (cond (Nat.ble m 6) (1) (2))) (cond (Nat.ble m 8) (4) (cond (Nat.ble m 9) (5) (5))))) (cond (Nat.ble m 15) (cond (Nat.ble m 12) (cond (Nat.ble m 11) (5) (4)) (cond (Nat.ble m 13) (4) (cond (Nat.ble m 14) (5) (5)))) (cond (Nat.ble m 18) (cond (Nat.ble m 16) (7) (cond (Nat.ble m 17) (8) (5))) (cond (Nat.ble m 19) (2) (cond (Nat.ble m 20) (3) (4)))))) (cond (Nat.ble m 32) (cond (Nat.ble m 26) (cond (Nat.ble m 23) (cond (Nat.ble m 22) (3) (6)) (cond (Nat.ble m 24) (2) (cond (Nat.ble m 25) (4) (3)))) (cond (Nat.ble m 29) (cond (Nat.ble m 27) (5) (cond (Nat.ble m 28) (5) (2))) (cond (Nat.ble m 30) (3) (cond (Nat.ble m 31) (2) (5))))) (cond (Nat.ble m 38) (cond (Nat.ble m 35) (cond (Nat.ble m 33) (5) (cond (Nat.ble m 34) (3) (4))) (cond (Nat.ble m 36) (5) (cond (Nat.ble m 37) (4) (4)))) (cond (Nat.ble m 41) (cond (Nat.ble m 39) (5) (cond (Nat.ble m 40) (6) (1))) (cond (Nat.ble m 42) (4) (cond (Nat.ble m 43) (3) (3))))))) (cond (Nat.ble m 66) (cond (Nat.ble m 55) (cond (Nat.ble m 49) (cond (Nat.ble m 46) (cond (Nat.ble m 45) (7) (3)) (cond (Nat.ble m 47) (5) (cond (Nat.ble m 48) (4) (4)))) (cond (Nat.ble m 52) (cond (Nat.ble m 50) (4) (cond (Nat.ble m 51) (4) (2))) (cond (Nat.ble m 53) (2) (cond (Nat.ble m 54) (3) (1))))) (cond (Nat.ble m 60) (cond (Nat.ble m 57) (cond (Nat.ble m 56) (1) (4)) (cond (Nat.ble m 58) (2) (cond (Nat.ble m 59) (4) (1)))) (cond (Nat.ble m 63) (cond (Nat.ble m 61) (2) (cond (Nat.ble m 62) (2) (3))) (cond (Nat.ble m 64) (3) (cond (Nat.ble m 65) (3) (2)))))) (cond (Nat.ble m 77) (cond (Nat.ble m 71) (cond (Nat.ble m 68) (cond (Nat.ble m 67) (2) (2)) (cond (Nat.ble m 69) (2) (cond (Nat.ble m 70) (6) (2)))) (cond (Nat.ble m 74) (cond (Nat.ble m 72) (6) (cond (Nat.ble m 73) (5) (2))) (cond (Nat.ble m 75) (4) (cond (Nat.ble m 76) (2) (1))))) (cond (Nat.ble m 83) (cond (Nat.ble m 80) (cond (Nat.ble m 78) (1) (cond (Nat.ble m 79) (2) (2))) (cond (Nat.ble m 81) (2) (cond (Nat.ble m 82) (6) (4)))) (cond (Nat.ble m 86) (cond (Nat.ble m 84) (8) (cond (Nat.ble m 85) (6) (6))) (cond (Nat.ble m 87) (3) (cond (Nat.ble m 88) (8) (24)))))))
def pd_oc (m : Nat) : Nat := cond (Nat.ble m 44) (cond (Nat.ble m 21) (cond (Nat.ble m 10) (cond (Nat.ble m 4) (cond (Nat.ble m 1) (cond (Nat.ble m 0) (0) (0)) (cond (Nat.ble m 2) (0) (cond (Nat.ble m 3) (0) (1)))) (cond (Nat.ble m 7) (cond (Nat.ble m 5) (1) (cond (Nat.ble m 6) (1) (2))) (cond (Nat.ble m 8) (2) (cond (Nat.ble m 9) (2) (2))))) (cond (Nat.ble m 15) (cond (Nat.ble m 12) (cond (Nat.ble m 11) (2) (2)) (cond (Nat.ble m 13) (2) (cond (Nat.ble m 14) (2) (2)))) (cond (Nat.ble m 18) (cond (Nat.ble m 16) (2) (cond (Nat.ble m 17) (2) (2))) (cond (Nat.ble m 19) (4) (cond (Nat.ble m 20) (4) (4)))))) (cond (Nat.ble m 32) (cond (Nat.ble m 26) (cond (Nat.ble m 23) (cond (Nat.ble m 22) (4) (5)) (cond (Nat.ble m 24) (5) (cond (Nat.ble m 25) (5) (5)))) (cond (Nat.ble m 29) (cond (Nat.ble m 27) (5) (cond (Nat.ble m 28) (5) (5))) (cond (Nat.ble m 30) (6) (cond (Nat.ble m 31) (6) (8))))) (cond (Nat.ble m 38) (cond (Nat.ble m 35) (cond (Nat.ble m 33) (8) (cond (Nat.ble m 34) (8) (8))) (cond (Nat.ble m 36) (9) (cond (Nat.ble m 37) (9) (9)))) (cond (Nat.ble m 41) (cond (Nat.ble m 39) (9) (cond (Nat.ble m 40) (9) (9))) (cond (Nat.ble m 42) (9) (cond (Nat.ble m 43) (9) (9))))))) (cond (Nat.ble m 66) (cond (Nat.ble m 55) (cond (Nat.ble m 49) (cond (Nat.ble m 46) (cond (Nat.ble m 45) (9) (9)) (cond (Nat.ble m 47) (9) (cond (Nat.ble m 48) (9) (9)))) (cond (Nat.ble m 52) (cond (Nat.ble m 50) (9) (cond (Nat.ble m 51) (9) (9))) (cond (Nat.ble m 53) (9) (cond (Nat.ble m 54) (9) (9))))) (cond (Nat.ble m 60) (cond (Nat.ble m 57) (cond (Nat.ble m 56) (9) (9)) (cond (Nat.ble m 58) (9) (cond (Nat.ble m 59) (9) (9)))) (cond (Nat.ble m 63) (cond (Nat.ble m 61) (9) (cond (Nat.ble m 62) (9) (9))) (cond (Nat.ble m 64) (9) (cond (Nat.ble m 65) (9) (9)))))) (cond (Nat.ble m 77) (cond (Nat.ble m 71) (cond (Nat.ble m 68) (cond (Nat.ble m 67) (9) (9)) (cond (Nat.ble m 69) (9) (cond (Nat.ble m 70) (9) (9)))) (cond (Nat.ble m 74) (cond (Nat.ble m 72) (9) (cond (Nat.ble m 73) (9) (9))) (cond (Nat.ble m 75) (9) (cond (Nat.ble m 76) (9) (9))))) (cond (Nat.ble m 83) (cond (Nat.ble m 80) (cond (Nat.ble m 78) (11) (cond (Nat.ble m 79) (12) (13))) (cond (Nat.ble m 81) (13) (cond (Nat.ble m 82) (13) (13)))) (cond (Nat.ble m 86) (cond (Nat.ble m 84) (13) (cond (Nat.ble m 85) (13) (13))) (cond (Nat.ble m 87) (13) (cond (Nat.ble m 88) (13) (13)))))))
def pd_rt (m : Nat) : Option FieldType := cond (Nat.ble m 44) (cond (Nat.ble m 21) (cond (Nat.ble m 10) (cond (Nat.ble m 4) (cond (Nat.ble m 1) (cond (Nat.ble m 0) (some (.object "PatchDesk$Change")) (some .int)) (cond (Nat.ble m 2) (some .int) (cond (Nat.ble m 3) (some .boolean) (none)))) (cond (Nat.ble m 7) (cond (Nat.ble m 5) (none) (cond (Nat.ble m 6) (some .boolean) (none))) (cond (Nat.ble m 8) (none) (cond (Nat.ble m 9) (some .int) (none))))) (cond (Nat.ble m 15) (cond (Nat.ble m 12) (cond (Nat.ble m 11) (none) (none)) (cond (Nat.ble m 13) (some .boolean) (cond (Nat.ble m 14) (some .int) (some .boolean)))) (cond (Nat.ble m 18) (cond (Nat.ble m 16) (some .int) (cond (Nat.ble m 17) (some .int) (some .int))) (cond (Nat.ble m 19) (none) (cond (Nat.ble m 20) (some .int) (none)))))) (cond (Nat.ble m 32) (cond (Nat.ble m 26) (cond (Nat.ble m 23) (cond (Nat.ble m 22) (none) (none)) (cond (Nat.ble m 24) (some .int) (cond (Nat.ble m 25) (some .int) (some .int)))) (cond (Nat.ble m 29) (cond (Nat.ble m 27) (some .int) (cond (Nat.ble m 28) (some .int) (some .boolean))) (cond (Nat.ble m 30) (none) (cond (Nat.ble m 31) (none) (none))))) (cond (Nat.ble m 38) (cond (Nat.ble m 35) (cond (Nat.ble m 33) (some .boolean) (cond (Nat.ble m 34) (some .boolean) (none))) (cond (Nat.ble m 36) (some .int) (cond (Nat.ble m 37) (some .long) (some .int)))) (cond (Nat.ble m 41) (cond (Nat.ble m 39) (some .int) (cond (Nat.ble m 40) (some .int) (some .int))) (cond (Nat.ble m 42) (some .int) (cond (Nat.ble m 43) (some .int) (some .int))))))) (cond (Nat.ble m 66) (cond (Nat.ble m 55) (cond (Nat.ble m 49) (cond (Nat.ble m 46) (cond (Nat.ble m 45) (some .int) (some .int)) (cond (Nat.ble m 47) (some .long) (cond (Nat.ble m 48) (some .long) (some .int)))) (cond (Nat.ble m 52) (cond (Nat.ble m 50) (some .int) (cond (Nat.ble m 51) (some .int) (some .int))) (cond (Nat.ble m 53) (some .int) (cond (Nat.ble m 54) (some .int) (some .int))))) (cond (Nat.ble m 60) (cond (Nat.ble m 57) (cond (Nat.ble m 56) (some .long) (some .int)) (cond (Nat.ble m 58) (some .int) (cond (Nat.ble m 59) (some .int) (some .boolean)))) (cond (Nat.ble m 63) (cond (Nat.ble m 61) (some .boolean) (cond (Nat.ble m 62) (some .boolean) (some .boolean))) (cond (Nat.ble m 64) (some .int) (cond (Nat.ble m 65) (some .int) (some .int)))))) (cond (Nat.ble m 77) (cond (Nat.ble m 71) (cond (Nat.ble m 68) (cond (Nat.ble m 67) (some .int) (some .int)) (cond (Nat.ble m 69) (some .int) (cond (Nat.ble m 70) (some .long) (some .long)))) (cond (Nat.ble m 74) (cond (Nat.ble m 72) (some .int) (cond (Nat.ble m 73) (some .int) (some .boolean))) (cond (Nat.ble m 75) (some .long) (cond (Nat.ble m 76) (some .long) (some .int))))) (cond (Nat.ble m 83) (cond (Nat.ble m 80) (cond (Nat.ble m 78) (some .int) (cond (Nat.ble m 79) (some .int) (some .int))) (cond (Nat.ble m 81) (some .int) (cond (Nat.ble m 82) (some .boolean) (some .int)))) (cond (Nat.ble m 86) (cond (Nat.ble m 84) (some .boolean) (cond (Nat.ble m 85) (some .boolean) (some .boolean))) (cond (Nat.ble m 87) (some .int) (cond (Nat.ble m 88) (some .int) (some .boolean)))))))
def pd_fr (m : Nat) : Nat := cond (Nat.ble m 44) (cond (Nat.ble m 21) (cond (Nat.ble m 10) (cond (Nat.ble m 4) (cond (Nat.ble m 1) (cond (Nat.ble m 0) (1) (2)) (cond (Nat.ble m 2) (2) (cond (Nat.ble m 3) (1) (0)))) (cond (Nat.ble m 7) (cond (Nat.ble m 5) (1) (cond (Nat.ble m 6) (0) (2))) (cond (Nat.ble m 8) (4) (cond (Nat.ble m 9) (3) (2))))) (cond (Nat.ble m 15) (cond (Nat.ble m 12) (cond (Nat.ble m 11) (1) (2)) (cond (Nat.ble m 13) (1) (cond (Nat.ble m 14) (2) (1)))) (cond (Nat.ble m 18) (cond (Nat.ble m 16) (2) (cond (Nat.ble m 17) (2) (1))) (cond (Nat.ble m 19) (0) (cond (Nat.ble m 20) (0) (0)))))) (cond (Nat.ble m 32) (cond (Nat.ble m 26) (cond (Nat.ble m 23) (cond (Nat.ble m 22) (0) (1)) (cond (Nat.ble m 24) (0) (cond (Nat.ble m 25) (1) (0)))) (cond (Nat.ble m 29) (cond (Nat.ble m 27) (1) (cond (Nat.ble m 28) (2) (1))) (cond (Nat.ble m 30) (0) (cond (Nat.ble m 31) (1) (0))))) (cond (Nat.ble m 38) (cond (Nat.ble m 35) (cond (Nat.ble m 33) (0) (cond (Nat.ble m 34) (1) (1))) (cond (Nat.ble m 36) (5) (cond (Nat.ble m 37) (3) (3)))) (cond (Nat.ble m 41) (cond (Nat.ble m 39) (2) (cond (Nat.ble m 40) (2) (0))) (cond (Nat.ble m 42) (5) (cond (Nat.ble m 43) (5) (6))))))) (cond (Nat.ble m 66) (cond (Nat.ble m 55) (cond (Nat.ble m 49) (cond (Nat.ble m 46) (cond (Nat.ble m 45) (6) (3)) (cond (Nat.ble m 47) (5) (cond (Nat.ble m 48) (2) (5)))) (cond (Nat.ble m 52) (cond (Nat.ble m 50) (3) (cond (Nat.ble m 51) (3) (5))) (cond (Nat.ble m 53) (0) (cond (Nat.ble m 54) (4) (0))))) (cond (Nat.ble m 60) (cond (Nat.ble m 57) (cond (Nat.ble m 56) (0) (2)) (cond (Nat.ble m 58) (2) (cond (Nat.ble m 59) (1) (0)))) (cond (Nat.ble m 63) (cond (Nat.ble m 61) (0) (cond (Nat.ble m 62) (1) (2))) (cond (Nat.ble m 64) (0) (cond (Nat.ble m 65) (1) (5)))))) (cond (Nat.ble m 77) (cond (Nat.ble m 71) (cond (Nat.ble m 68) (cond (Nat.ble m 67) (3) (0)) (cond (Nat.ble m 69) (0) (cond (Nat.ble m 70) (2) (1)))) (cond (Nat.ble m 74) (cond (Nat.ble m 72) (2) (cond (Nat.ble m 73) (3) (0))) (cond (Nat.ble m 75) (0) (cond (Nat.ble m 76) (0) (0))))) (cond (Nat.ble m 83) (cond (Nat.ble m 80) (cond (Nat.ble m 78) (0) (cond (Nat.ble m 79) (0) (0))) (cond (Nat.ble m 81) (0) (cond (Nat.ble m 82) (6) (1)))) (cond (Nat.ble m 86) (cond (Nat.ble m 84) (3) (cond (Nat.ble m 85) (4) (4))) (cond (Nat.ble m 87) (0) (cond (Nat.ble m 88) (6) (9)))))))
def pd_lo (m : Nat) : Nat := cond (Nat.ble m 44) (cond (Nat.ble m 21) (cond (Nat.ble m 10) (cond (Nat.ble m 4) (cond (Nat.ble m 1) (cond (Nat.ble m 0) (21) (47)) (cond (Nat.ble m 2) (47) (cond (Nat.ble m 3) (21) (0)))) (cond (Nat.ble m 7) (cond (Nat.ble m 5) (26) (cond (Nat.ble m 6) (0) (47))) (cond (Nat.ble m 8) (94) (cond (Nat.ble m 9) (70) (46))))) (cond (Nat.ble m 15) (cond (Nat.ble m 12) (cond (Nat.ble m 11) (24) (44)) (cond (Nat.ble m 13) (21) (cond (Nat.ble m 14) (45) (21)))) (cond (Nat.ble m 18) (cond (Nat.ble m 16) (46) (cond (Nat.ble m 17) (45) (21))) (cond (Nat.ble m 19) (0) (cond (Nat.ble m 20) (0) (0)))))) (cond (Nat.ble m 32) (cond (Nat.ble m 26) (cond (Nat.ble m 23) (cond (Nat.ble m 22) (0) (24)) (cond (Nat.ble m 24) (0) (cond (Nat.ble m 25) (22) (0)))) (cond (Nat.ble m 29) (cond (Nat.ble m 27) (22) (cond (Nat.ble m 28) (42) (21))) (cond (Nat.ble m 30) (0) (cond (Nat.ble m 31) (22) (0))))) (cond (Nat.ble m 38) (cond (Nat.ble m 35) (cond (Nat.ble m 33) (0) (cond (Nat.ble m 34) (24) (24))) (cond (Nat.ble m 36) (117) (cond (Nat.ble m 37) (71) (68)))) (cond (Nat.ble m 41) (cond (Nat.ble m 39) (41) (cond (Nat.ble m 40) (41) (0))) (cond (Nat.ble m 42) (117) (cond (Nat.ble m 43) (117) (138))))))) (cond (Nat.ble m 66) (cond (Nat.ble m 55) (cond (Nat.ble m 49) (cond (Nat.ble m 46) (cond (Nat.ble m 45) (138) (69)) (cond (Nat.ble m 47) (117) (cond (Nat.ble m 48) (43) (117)))) (cond (Nat.ble m 52) (cond (Nat.ble m 50) (68) (cond (Nat.ble m 51) (72) (117))) (cond (Nat.ble m 53) (0) (cond (Nat.ble m 54) (95) (0))))) (cond (Nat.ble m 60) (cond (Nat.ble m 57) (cond (Nat.ble m 56) (0) (45)) (cond (Nat.ble m 58) (43) (cond (Nat.ble m 59) (20) (0)))) (cond (Nat.ble m 63) (cond (Nat.ble m 61) (0) (cond (Nat.ble m 62) (22) (45))) (cond (Nat.ble m 64) (0) (cond (Nat.ble m 65) (20) (117)))))) (cond (Nat.ble m 77) (cond (Nat.ble m 71) (cond (Nat.ble m 68) (cond (Nat.ble m 67) (72) (0)) (cond (Nat.ble m 69) (0) (cond (Nat.ble m 70) (46) (20)))) (cond (Nat.ble m 74) (cond (Nat.ble m 72) (46) (cond (Nat.ble m 73) (71) (0))) (cond (Nat.ble m 75) (0) (cond (Nat.ble m 76) (0) (0))))) (cond (Nat.ble m 83) (cond (Nat.ble m 80) (cond (Nat.ble m 78) (0) (cond (Nat.ble m 79) (0) (0))) (cond (Nat.ble m 81) (0) (cond (Nat.ble m 82) (141) (21)))) (cond (Nat.ble m 86) (cond (Nat.ble m 84) (66) (cond (Nat.ble m 85) (93) (94))) (cond (Nat.ble m 87) (0) (cond (Nat.ble m 88) (140) (334)))))))
def pd_pn (m : Nat) : Nat := cond (Nat.ble m 44) (cond (Nat.ble m 21) (cond (Nat.ble m 10) (cond (Nat.ble m 4) (cond (Nat.ble m 1) (cond (Nat.ble m 0) (0) (0)) (cond (Nat.ble m 2) (2) (cond (Nat.ble m 3) (2) (6)))) (cond (Nat.ble m 7) (cond (Nat.ble m 5) (1) (cond (Nat.ble m 6) (0) (1))) (cond (Nat.ble m 8) (0) (cond (Nat.ble m 9) (2) (2))))) (cond (Nat.ble m 15) (cond (Nat.ble m 12) (cond (Nat.ble m 11) (2) (0)) (cond (Nat.ble m 13) (1) (cond (Nat.ble m 14) (1) (2)))) (cond (Nat.ble m 18) (cond (Nat.ble m 16) (1) (cond (Nat.ble m 17) (1) (2))) (cond (Nat.ble m 19) (1) (cond (Nat.ble m 20) (1) (1)))))) (cond (Nat.ble m 32) (cond (Nat.ble m 26) (cond (Nat.ble m 23) (cond (Nat.ble m 22) (1) (3)) (cond (Nat.ble m 24) (1) (cond (Nat.ble m 25) (2) (2)))) (cond (Nat.ble m 29) (cond (Nat.ble m 27) (3) (cond (Nat.ble m 28) (3) (2))) (cond (Nat.ble m 30) (2) (cond (Nat.ble m 31) (1) (3))))) (cond (Nat.ble m 38) (cond (Nat.ble m 35) (cond (Nat.ble m 33) (3) (cond (Nat.ble m 34) (2) (1))) (cond (Nat.ble m 36) (3) (cond (Nat.ble m 37) (3) (2)))) (cond (Nat.ble m 41) (cond (Nat.ble m 39) (4) (cond (Nat.ble m 40) (5) (0))) (cond (Nat.ble m 42) (0) (cond (Nat.ble m 43) (0) (1))))))) (cond (Nat.ble m 66) (cond (Nat.ble m 55) (cond (Nat.ble m 49) (cond (Nat.ble m 46) (cond (Nat.ble m 45) (1) (1)) (cond (Nat.ble m 47) (3) (cond (Nat.ble m 48) (3) (0)))) (cond (Nat.ble m 52) (cond (Nat.ble m 50) (2) (cond (Nat.ble m 51) (2) (0))) (cond (Nat.ble m 53) (1) (cond (Nat.ble m 54) (1) (1))))) (cond (Nat.ble m 60) (cond (Nat.ble m 57) (cond (Nat.ble m 56) (1) (2)) (cond (Nat.ble m 58) (1) (cond (Nat.ble m 59) (3) (1)))) (cond (Nat.ble m 63) (cond (Nat.ble m 61) (1) (cond (Nat.ble m 62) (1) (1))) (cond (Nat.ble m 64) (0) (cond (Nat.ble m 65) (0) (0)))))) (cond (Nat.ble m 77) (cond (Nat.ble m 71) (cond (Nat.ble m 68) (cond (Nat.ble m 67) (1) (2)) (cond (Nat.ble m 69) (2) (cond (Nat.ble m 70) (3) (2)))) (cond (Nat.ble m 74) (cond (Nat.ble m 72) (3) (cond (Nat.ble m 73) (2) (2))) (cond (Nat.ble m 75) (3) (cond (Nat.ble m 76) (2) (1))))) (cond (Nat.ble m 83) (cond (Nat.ble m 80) (cond (Nat.ble m 78) (1) (cond (Nat.ble m 79) (2) (2))) (cond (Nat.ble m 81) (2) (cond (Nat.ble m 82) (3) (2)))) (cond (Nat.ble m 86) (cond (Nat.ble m 84) (3) (cond (Nat.ble m 85) (4) (3))) (cond (Nat.ble m 87) (1) (cond (Nat.ble m 88) (4) (1)))))))
/-- class, entry, the field's class, its slot, the word's place -/
def pd_FL : List (Nat × Nat × Nat × Nat × Nat) := [(8, 7, 8, 0, 33), (2, 167, 8, 0, 34), (9, 135, 8, 0, 35), (8, 13, 8, 1, 36), (2, 170, 8, 1, 37), (9, 143, 8, 1, 38), (5, 9, 5, 0, 46), (2, 182, 5, 0, 47), (5, 15, 5, 1, 48), (9, 108, 5, 1, 49), (5, 23, 5, 2, 50), (2, 88, 5, 2, 51), (9, 154, 5, 2, 52), (1, 9, 1, 0, 73), (2, 158, 1, 0, 74), (0, 37, 1, 0, 75), (1, 15, 1, 1, 76), (2, 161, 1, 1, 77), (1, 18, 1, 2, 78), (2, 128, 1, 2, 79), (1, 21, 1, 3, 80), (2, 142, 1, 3, 81), (0, 34, 1, 3, 82), (1, 24, 1, 4, 83), (2, 145, 1, 4, 84), (1, 27, 1, 5, 85), (2, 135, 1, 5, 86), (0, 11, 0, 0, 100), (2, 114, 0, 0, 101), (0, 17, 0, 1, 102), (2, 99, 0, 1, 103), (9, 161, 0, 1, 104), (0, 21, 0, 2, 105), (9, 222, 0, 2, 106), (7, 9, 7, 0, 122), (7, 18, 7, 1, 123), (7, 22, 7, 2, 124), (7, 26, 7, 3, 125), (7, 29, 7, 4, 126), (7, 32, 7, 5, 127), (7, 35, 7, 6, 128), (3, 9, 3, 0, 150), (3, 15, 3, 1, 151), (6, 9, 6, 0, 163), (4, 9, 4, 0, 173), (2, 96, 4, 0, 174), (9, 242, 4, 0, 175), (4, 15, 4, 1, 176), (2, 93, 4, 1, 177), (9, 241, 4, 1, 178), (2, 76, 2, 0, 195), (2, 80, 2, 1, 196), (2, 12, 2, 2, 197), (9, 234, 2, 2, 198), (2, 23, 2, 3, 199), (9, 131, 2, 3, 200), (2, 27, 2, 4, 201), (9, 291, 2, 4, 202), (2, 31, 2, 5, 203), (2, 35, 2, 6, 204), (9, 279, 2, 6, 205), (2, 38, 2, 7, 206), (9, 276, 2, 7, 207), (2, 41, 2, 8, 208), (2, 44, 2, 9, 209), (9, 285, 2, 9, 210), (2, 47, 2, 10, 211), (9, 269, 2, 10, 212), (2, 51, 2, 11, 213), (9, 389, 2, 11, 214), (2, 54, 2, 12, 215), (9, 392, 2, 12, 216), (2, 57, 2, 13, 217), (6, 15, 2, 13, 218), (2, 60, 2, 14, 219), (6, 21, 2, 14, 220), (2, 63, 2, 15, 221), (6, 28, 2, 15, 222), (2, 66, 2, 16, 223), (6, 31, 2, 16, 224), (2, 69, 2, 17, 225), (2, 72, 2, 18, 226), (9, 12, 9, 0, 267), (9, 19, 9, 1, 268), (9, 26, 9, 2, 269), (9, 33, 9, 3, 270), (9, 40, 9, 4, 271), (9, 47, 9, 5, 272), (9, 51, 9, 6, 273), (9, 55, 9, 7, 274), (9, 64, 9, 8, 275), (9, 68, 9, 9, 276), (9, 71, 9, 10, 277), (9, 74, 9, 11, 278), (9, 77, 9, 12, 279), (9, 80, 9, 13, 280)]
def pd_CI : List (Nat × Nat × Int32 × Nat) := [(9, 411, 2147483647, 405), (11, 265, 1431655765, 603), (11, 266, 858993459, 604), (11, 267, 252645135, 605), (13, 7, 40503, 609), (13, 8, 2147483647, 613)]
def pd_CJ : List (Nat × Nat × Int64 × Nat) := [(9, 373, -9223372036854775808, 320), (9, 407, 8, 356), (9, 409, 100000007, 404), (13, 55, -9223372036854775808, 670), (13, 106, 3, 671)]
/-- class, entry, the method, 1 a nest mate's, the word's place -/
def pd_CL : List (Nat × Nat × Nat × Nat × Nat) := [(13, 42, 37, 0, 310), (9, 83, 60, 0, 314), (9, 111, 56, 0, 317), (9, 115, 27, 0, 321), (5, 35, 24, 0, 325), (5, 39, 26, 0, 332), (9, 119, 30, 0, 336), (9, 123, 70, 0, 340), (9, 90, 55, 0, 344), (9, 140, 68, 0, 347), (9, 272, 71, 0, 350), (9, 399, 75, 0, 353), (13, 65, 41, 0, 357), (13, 50, 42, 0, 361), (9, 174, 7, 0, 365), (2, 84, 35, 0, 369), (8, 21, 79, 0, 373), (8, 27, 32, 0, 376), (9, 178, 9, 0, 380), (2, 118, 6, 0, 387), (2, 124, 10, 0, 391), (2, 164, 27, 0, 395), (2, 148, 28, 0, 406), (5, 49, 29, 0, 411), (2, 152, 11, 0, 414), (2, 178, 32, 0, 418), (9, 225, 31, 0, 419), (6, 24, 30, 0, 423), (9, 228, 59, 0, 424), (9, 231, 1, 0, 428), (0, 30, 5, 0, 433), (1, 30, 4, 0, 437), (9, 237, 19, 0, 441), (9, 98, 8, 0, 445), (2, 104, 9, 0, 449), (2, 108, 12, 0, 450), (2, 185, 13, 0, 454), (13, 79, 43, 0, 458), (13, 82, 44, 0, 462), (9, 254, 58, 0, 466), (9, 213, 61, 0, 470), (9, 251, 62, 0, 474), (9, 378, 20, 0, 478), (9, 257, 22, 0, 482), (9, 260, 21, 0, 486), (9, 248, 66, 0, 490), (9, 263, 67, 0, 494), (9, 395, 16, 0, 498), (2, 189, 20, 0, 502), (2, 196, 34, 0, 503), (8, 17, 33, 0, 507), (13, 100, 45, 0, 511), (9, 266, 14, 0, 515), (2, 192, 15, 0, 519), (13, 85, 46, 0, 523), (13, 88, 47, 0, 527), (9, 127, 57, 0, 531), (9, 375, 25, 0, 535), (13, 97, 48, 0, 539), (9, 282, 69, 0, 543), (13, 108, 49, 0, 544), (9, 288, 2, 0, 548), (13, 91, 50, 0, 552), (13, 94, 51, 0, 556), (9, 294, 17, 0, 560), (2, 200, 33, 0, 564), (2, 204, 18, 0, 565), (13, 111, 52, 0, 569), (9, 297, 35, 0, 573), (13, 61, 53, 0, 574), (13, 72, 54, 0, 578), (9, 303, 73, 0, 582), (9, 105, 24, 0, 586), (9, 157, 72, 0, 587), (9, 403, 34, 0, 591), (9, 310, 64, 0, 592), (9, 313, 65, 0, 596), (9, 384, 78, 0, 600), (13, 9, 80, 0, 606), (13, 15, 81, 0, 610), (13, 57, 82, 0, 614), (13, 19, 36, 0, 617), (9, 87, 63, 0, 621), (9, 381, 3, 0, 625), (9, 94, 23, 0, 629), (5, 31, 32, 0, 634), (13, 46, 85, 0, 635), (13, 36, 84, 0, 638), (13, 25, 40, 0, 641), (9, 164, 0, 0, 645), (9, 168, 4, 0, 649), (13, 29, 83, 0, 650), (13, 32, 39, 0, 653), (13, 75, 86, 0, 657), (13, 39, 38, 0, 660), (13, 103, 87, 0, 664), (13, 68, 88, 0, 667), (5, 42, 74, 1, 329), (2, 111, 69, 1, 384), (2, 155, 68, 1, 396), (2, 174, 75, 1, 397), (2, 131, 77, 1, 398), (2, 138, 76, 1, 401), (5, 46, 77, 1, 410), (0, 26, 69, 1, 432), (5, 27, 68, 1, 633)]
/-- 1 a static one; the place of that word; of the one that it is chosen; that its class is ready; of its code -/
def pd_mt (m : Nat) : Nat × Nat × Nat × Nat × Nat := cond (Nat.ble m 44) (cond (Nat.ble m 21) (cond (Nat.ble m 10) (cond (Nat.ble m 4) (cond (Nat.ble m 1) (cond (Nat.ble m 0) ((0, 646, 660, 4, 648)) ((0, 429, 443, 4, 431))) (cond (Nat.ble m 2) ((0, 549, 563, 4, 551)) (cond (Nat.ble m 3) ((0, 626, 640, 4, 628)) ((0, 438, 452, 5, 440))))) (cond (Nat.ble m 7) (cond (Nat.ble m 5) ((0, 434, 448, 5, 436)) (cond (Nat.ble m 6) ((0, 388, 402, 5, 390)) ((0, 366, 380, 10, 368)))) (cond (Nat.ble m 8) ((0, 446, 460, 10, 448)) (cond (Nat.ble m 9) ((0, 381, 395, 10, 383)) ((0, 392, 406, 10, 394)))))) (cond (Nat.ble m 15) (cond (Nat.ble m 12) (cond (Nat.ble m 11) ((0, 415, 429, 10, 417)) ((0, 451, 465, 10, 453))) (cond (Nat.ble m 13) ((0, 455, 469, 10, 457)) (cond (Nat.ble m 14) ((0, 516, 530, 10, 518)) ((0, 520, 534, 10, 522))))) (cond (Nat.ble m 18) (cond (Nat.ble m 16) ((0, 499, 513, 10, 501)) (cond (Nat.ble m 17) ((0, 561, 575, 10, 563)) ((0, 566, 580, 10, 568)))) (cond (Nat.ble m 19) ((0, 442, 456, 9, 444)) (cond (Nat.ble m 20) ((0, 479, 493, 9, 481)) ((0, 487, 501, 9, 489))))))) (cond (Nat.ble m 32) (cond (Nat.ble m 26) (cond (Nat.ble m 23) (cond (Nat.ble m 22) ((0, 483, 497, 9, 485)) ((0, 630, 644, 2, 632))) (cond (Nat.ble m 24) ((0, 326, 340, 2, 328)) (cond (Nat.ble m 25) ((0, 536, 550, 2, 538)) ((0, 333, 347, 2, 335))))) (cond (Nat.ble m 29) (cond (Nat.ble m 27) ((0, 322, 336, 2, 324)) (cond (Nat.ble m 28) ((0, 407, 421, 2, 409)) ((1, 412, 0, 2, 413)))) (cond (Nat.ble m 30) ((0, 337, 351, 8, 339)) (cond (Nat.ble m 31) ((0, 420, 434, 8, 422)) ((0, 377, 391, 3, 379)))))) (cond (Nat.ble m 38) (cond (Nat.ble m 35) (cond (Nat.ble m 33) ((0, 508, 522, 3, 510)) (cond (Nat.ble m 34) ((0, 504, 518, 3, 506)) ((0, 370, 384, 3, 372)))) (cond (Nat.ble m 36) ((0, 618, 632, 1, 620)) (cond (Nat.ble m 37) ((0, 311, 325, 1, 313)) ((0, 661, 675, 1, 663))))) (cond (Nat.ble m 41) (cond (Nat.ble m 39) ((0, 654, 668, 1, 656)) (cond (Nat.ble m 40) ((0, 642, 656, 1, 644)) ((0, 358, 372, 1, 360)))) (cond (Nat.ble m 42) ((0, 362, 376, 1, 364)) (cond (Nat.ble m 43) ((0, 459, 473, 1, 461)) ((0, 463, 477, 1, 465)))))))) (cond (Nat.ble m 66) (cond (Nat.ble m 55) (cond (Nat.ble m 49) (cond (Nat.ble m 46) (cond (Nat.ble m 45) ((0, 512, 526, 1, 514)) ((0, 524, 538, 1, 526))) (cond (Nat.ble m 47) ((0, 528, 542, 1, 530)) (cond (Nat.ble m 48) ((0, 540, 554, 1, 542)) ((0, 545, 559, 1, 547))))) (cond (Nat.ble m 52) (cond (Nat.ble m 50) ((0, 553, 567, 1, 555)) (cond (Nat.ble m 51) ((0, 557, 571, 1, 559)) ((0, 570, 584, 1, 572)))) (cond (Nat.ble m 53) ((0, 575, 589, 1, 577)) (cond (Nat.ble m 54) ((0, 579, 593, 1, 581)) ((1, 345, 0, 1, 346)))))) (cond (Nat.ble m 60) (cond (Nat.ble m 57) (cond (Nat.ble m 56) ((1, 318, 0, 1, 319)) ((0, 533, 7, 1, 534))) (cond (Nat.ble m 58) ((0, 468, 2, 1, 469)) (cond (Nat.ble m 59) ((0, 426, 1, 1, 427)) ((1, 315, 0, 1, 316))))) (cond (Nat.ble m 63) (cond (Nat.ble m 61) ((0, 472, 3, 1, 473)) (cond (Nat.ble m 62) ((0, 476, 4, 1, 477)) ((0, 623, 12, 1, 624)))) (cond (Nat.ble m 64) ((0, 594, 10, 1, 595)) (cond (Nat.ble m 65) ((0, 598, 11, 1, 599)) ((0, 492, 5, 1, 493))))))) (cond (Nat.ble m 77) (cond (Nat.ble m 71) (cond (Nat.ble m 68) (cond (Nat.ble m 67) ((0, 496, 6, 1, 497)) ((1, 348, 0, 1, 349))) (cond (Nat.ble m 69) ((1, 385, 0, 1, 386)) (cond (Nat.ble m 70) ((0, 342, 0, 1, 343)) ((1, 351, 0, 1, 352))))) (cond (Nat.ble m 74) (cond (Nat.ble m 72) ((0, 589, 9, 1, 590)) (cond (Nat.ble m 73) ((0, 584, 8, 1, 585)) ((1, 330, 0, 1, 331)))) (cond (Nat.ble m 75) ((1, 354, 0, 1, 355)) (cond (Nat.ble m 76) ((1, 402, 0, 1, 403)) ((1, 399, 0, 1, 400)))))) (cond (Nat.ble m 83) (cond (Nat.ble m 80) (cond (Nat.ble m 78) ((1, 601, 0, 12, 602)) (cond (Nat.ble m 79) ((1, 374, 0, 11, 375)) ((1, 607, 0, 0, 608)))) (cond (Nat.ble m 81) ((1, 611, 0, 0, 612)) (cond (Nat.ble m 82) ((1, 615, 0, 0, 616)) ((1, 651, 0, 0, 652))))) (cond (Nat.ble m 86) (cond (Nat.ble m 84) ((1, 639, 0, 0, 640)) (cond (Nat.ble m 85) ((1, 636, 0, 0, 637)) ((1, 658, 0, 0, 659)))) (cond (Nat.ble m 87) ((1, 665, 0, 0, 666)) (cond (Nat.ble m 88) ((1, 668, 0, 0, 669)) ((9, 0, 0, 0, 0))))))))
theorem pd_FL_ok : pd_FL.all (fun e => decide (tables_1[e.2.2.2.2]? = some (Cond.fieldLink (pd_cn e.1) e.2.1 (pd_cn e.2.2.1) ((vwCl.getD e.2.2.1 (RL, TX0, 0)).2.1 e.2.2.2.1).2.1 ((vwCl.getD e.2.2.1 (RL, TX0, 0)).2.1 e.2.2.2.1).2.2.1))) = true := by decide +kernel
theorem pd_CI_ok : pd_CI.all (fun e => decide (tables_1[e.2.2.2]? = some (Cond.constant (pd_cn e.1) e.2.1 e.2.2.1))) = true := by decide +kernel
theorem pd_CJ_ok : pd_CJ.all (fun e => decide (tables_1[e.2.2.2]? = some (Cond.constantLong (pd_cn e.1) e.2.1 e.2.2.1))) = true := by decide +kernel
theorem pd_CL_ok : pd_CL.all (fun e => decide (tables_1[e.2.2.2.2]? = some (cond (Nat.beq e.2.2.2.1 1) (Cond.methodLinkNest (pd_cn e.1) e.2.1 (pd_y e.2.2.1) RX9) (Cond.methodLink (pd_cn e.1) e.2.1 (pd_y e.2.2.1))))) = true := by decide +kernel
theorem pd_MT_ok : (List.range 89).all (fun m => decide (tables_1[(pd_mt m).2.1]? = some (cond (Nat.beq (pd_mt m).1 1) (Cond.static (pd_y m)) (Cond.instanceMethod (pd_y m)))) && (Nat.beq (pd_mt m).1 1 || decide (lw_tbl[(pd_mt m).2.2.1]? = some (Cond.selects (pd_y m).cls (pd_y m) (pd_y m)))) && decide (tables_1[(pd_mt m).2.2.2.1]? = some (Cond.initialized (pd_y m).cls))) = true := by decide +kernel
theorem pd_MY_ok : (List.range 89).all (fun m => decide ((pd_y m).cls = pd_cn (pd_oc m)) && plainFor (pd_y m) && decide ((pd_y m).cls ≠ "java/lang/invoke/MethodHandle" ∧ (pd_y m).cls ≠ "java/lang/invoke/VarHandle") && decide ((parseMethodDescriptor (pd_y m).desc).map (fun d => d.parameters.length) = some (pd_pn m))) = true := by decide +kernel
end
section
/-! Every entry of the code tables is what its bytes decode to, and what it names stands in the words. -/
def pd_fl (c a x s : Nat) : Bool := pd_FL.any fun e => Nat.beq e.1 c && Nat.beq e.2.1 a && Nat.beq e.2.2.1 x && Nat.beq e.2.2.2.1 s
def pd_fs (c a : Nat) : Nat × Nat := match pd_FL.find? (fun e => Nat.beq e.1 c && Nat.beq e.2.1 a) with
  | some e => (e.2.2.1, e.2.2.2.1)
  | none => (99, 99)
def pd_cl2 (c a m n : Nat) : Bool := pd_CL.any fun e => Nat.beq e.1 c && Nat.beq e.2.1 a && Nat.beq e.2.2.1 m && Nat.beq e.2.2.2.1 n
def pd_rk (r : Option FieldType) : Nat := match r with
  | none => 0
  | some .int => 1
  | some .boolean => 1
  | some .long => 2
  | some (.object _) => 3 + 8 * 1
  | _ => 7
/-- a call of k out of m -/
def pd_ce (m k x y z : Nat) (sta : Nat) : Bool := Nat.ble (k + 1) 89 && Nat.beq (pd_mt k).1 sta && Nat.beq x (pd_pn k + 1 - sta) && Nat.beq y (pd_ml k) && Nat.beq z (pd_rk (pd_rt k)) && Nat.ble (pd_fr k + 1) (pd_fr m) && Nat.ble (8 + (pd_ml k + 11) + pd_lo k) (pd_lo m)
def pd_ty (x s : Nat) : Option FieldType := parseFieldDescriptor ((vwCl.getD x (RL, TX0, 0)).2.1 s).2.2.1
def pd_tb (pc : Nat) (lo : Int) (offs : List Int) (tb : List (Int32 × Nat)) : Bool := match offs, tb with
  | [], [] => true
  | o :: r, q :: t => decide (q.1 = Int32.ofInt lo) && decide ((pc : Int) + o = (q.2 : Int)) && decide (-2147483648 ≤ lo ∧ lo ≤ 2147483647) && pd_tb pc (lo + 1) r t
  | _, _ => false
def pd_lk (pc : Nat) (ps : List (Int × Int)) (tb : List (Int32 × Nat)) : Bool := match ps, tb with
  | [], [] => true
  | o :: r, q :: t => decide (q.1 = Int32.ofInt o.1) && decide ((pc : Int) + o.2 = (q.2 : Int)) && decide (-2147483648 ≤ o.1 ∧ o.1 ≤ 2147483647) && pd_lk pc r t
  | _, _ => false
/-- the type of a field that is put, by the kind of the put -/
def pd_pty (k : Nat) : Option FieldType := match k with
  | 0 => some .int
  | 1 => some .long
  | 4 => some (.object RX2)
  | 5 => some .boolean
  | _ => none
def pd_ck (m pc : Nat) (op : pd_O) : Bool := decide (decode (pd_b m) pc = .ok (op.1, op.2.1)) && match op with
  | (i, n, (k, x, y, z), v, w, tb) => match i with
    | .iconst a => Nat.beq n 1 && decide (Int32.ofInt a = v)
    | .bipush a => Nat.beq n 2 && decide ((Int8.ofInt a).toInt32 = v)
    | .sipush a => Nat.beq n 3 && decide ((Int16.ofInt a).toInt32 = v)
    | .ldc a => Nat.beq n 2 && pd_CI.any fun e => Nat.beq e.1 (pd_oc m) && Nat.beq e.2.1 a && decide (e.2.2.1 = v)
    | .ldc_w a => Nat.beq n 3 && pd_CI.any fun e => Nat.beq e.1 (pd_oc m) && Nat.beq e.2.1 a && decide (e.2.2.1 = v)
    | .lconst a => Nat.beq n 1 && decide (Int64.ofNat (a : Nat) = w)
    | .ldc2_w a => Nat.beq n 3 && pd_CJ.any fun e => Nat.beq e.1 (pd_oc m) && Nat.beq e.2.1 a && decide (e.2.2.1 = w)
    | .iload a => Nat.beq n 2 && Nat.beq k a
    | .lload a => Nat.beq n 2 && Nat.beq k a
    | .aload a => Nat.beq n 2 && Nat.beq k a
    | .istore a => Nat.beq n 2 && Nat.beq k a && Nat.ble (k + 1) (pd_ml m)
    | .lstore a => Nat.beq n 2 && Nat.beq k a && Nat.ble (k + 2) (pd_ml m)
    | .astore a => Nat.beq n 2 && Nat.beq k a && Nat.ble (k + 1) (pd_ml m)
    | .iload_n a => Nat.beq n 1 && Nat.beq k a
    | .lload_n a => Nat.beq n 1 && Nat.beq k a
    | .aload_n a => Nat.beq n 1 && Nat.beq k a
    | .istore_n a => Nat.beq n 1 && Nat.beq k a && Nat.ble (k + 1) (pd_ml m)
    | .lstore_n a => Nat.beq n 1 && Nat.beq k a && Nat.ble (k + 2) (pd_ml m)
    | .astore_n a => Nat.beq n 1 && Nat.beq k a && Nat.ble (k + 1) (pd_ml m)
    | .iinc a b => Nat.beq n 3 && Nat.beq k a && Nat.ble (k + 1) (pd_ml m) && decide (Int32.ofInt b = v)
    | .ifCond _ off => Nat.beq n 3 && decide ((pc : Int) + off = (k : Int))
    | .if_icmp _ off => Nat.beq n 3 && decide ((pc : Int) + off = (k : Int))
    | .goto off => Nat.beq n 3 && decide ((pc : Int) + off = (k : Int))
    | .tableswitch d lo hi offs => decide ((pc : Int) + d = (k : Int)) && pd_tb pc lo offs.toList tb && decide (hi = lo + offs.size - 1)
    | .lookupswitch d ps => decide ((pc : Int) + d = (k : Int)) && pd_lk pc ps.toList tb && (ps.toList.zip (ps.toList.drop 1)).all (fun q => decide (q.1.1 < q.2.1))
    | .getfield a => Nat.beq n 3 && Nat.beq (pd_fs (pd_oc m) a).1 x && Nat.ble (x + 1) 10 && Nat.ble ((pd_fs (pd_oc m) a).2 + 1) (vwCl.getD x (RL, TX0, 0)).2.2 && decide (pd_fkd x (pd_fs (pd_oc m) a).2 = (k, y, z))
    | .putfield a => Nat.beq n 3 && Nat.beq (pd_fs (pd_oc m) a).1 x && Nat.ble (x + 1) 10 && Nat.ble ((pd_fs (pd_oc m) a).2 + 1) (vwCl.getD x (RL, TX0, 0)).2.2 && decide (pd_fkd x (pd_fs (pd_oc m) a).2 = (cond (Nat.beq k 5) 0 k, y, z)) && decide (((vwCl.getD x (RL, TX0, 0)).2.1 (pd_fs (pd_oc m) a).2).2.2.2 = false) && decide (pd_ty x (pd_fs (pd_oc m) a).2 = pd_pty k) && (!Nat.beq k 4 || (Nat.ble y 1 && Nat.beq z 2))
    | .invokevirtual a => Nat.beq n 3 && pd_cl2 (pd_oc m) a k 0 && pd_ce m k x y (z % 256) 0 && Nat.beq (z / 256) (pd_oc k) && Nat.ble (pd_oc k + 1) 10
    | .invokestatic a => Nat.beq n 3 && (pd_cl2 (pd_oc m) a k 0 || pd_cl2 (pd_oc m) a k 1) && pd_ce m k x y z 1
    | .ireturn => Nat.beq n 1 && (Nat.beq k 0 && decide (pd_rt m = some .int) || Nat.beq k 1 && decide (pd_rt m = some .boolean))
    | .lreturn => Nat.beq n 1 && decide (pd_rt m = some .long)
    | .areturn => Nat.beq n 1 && decide (pd_rt m = some (.object RX1))
    | .return_ => Nat.beq n 1 && decide (pd_rt m = none)
    | .new _ => true
    | .newarray _ => true
    | .invokespecial _ => true
    | _ => Nat.beq n 1
end
section
theorem pd_ok0 : ((List.range 20).map (fun i => i + 0)).all (fun m => (List.range (pd_mx m + 1)).all (fun i => match pd_cd m i with
  | none => true
  | some op => pd_ck m i op)) = true := by decide +kernel
theorem pd_ok1 : ((List.range 27).map (fun i => i + 20)).all (fun m => (List.range (pd_mx m + 1)).all (fun i => match pd_cd m i with
  | none => true
  | some op => pd_ck m i op)) = true := by decide +kernel
end
section
theorem pd_ok2 : ((List.range 33).map (fun i => i + 47)).all (fun m => (List.range (pd_mx m + 1)).all (fun i => match pd_cd m i with
  | none => true
  | some op => pd_ck m i op)) = true := by decide +kernel
theorem pd_ok3 : ((List.range 9).map (fun i => i + 80)).all (fun m => (List.range (pd_mx m + 1)).all (fun i => match pd_cd m i with
  | none => true
  | some op => pd_ck m i op)) = true := by decide +kernel
end
section
theorem pd_okl0 : ((List.range 48).map (fun i => i + 0)).all (fun i => match pd_cd 89 i with
  | none => true
  | some op => pd_ck 89 i op) = true := by decide +kernel
theorem pd_okl1 : ((List.range 48).map (fun i => i + 48)).all (fun i => match pd_cd 89 i with
  | none => true
  | some op => pd_ck 89 i op) = true := by decide +kernel
theorem pd_okl2 : ((List.range 48).map (fun i => i + 96)).all (fun i => match pd_cd 89 i with
  | none => true
  | some op => pd_ck 89 i op) = true := by decide +kernel
theorem pd_okl3 : ((List.range 48).map (fun i => i + 144)).all (fun i => match pd_cd 89 i with
  | none => true
  | some op => pd_ck 89 i op) = true := by decide +kernel
theorem pd_okl4 : ((List.range 48).map (fun i => i + 192)).all (fun i => match pd_cd 89 i with
  | none => true
  | some op => pd_ck 89 i op) = true := by decide +kernel
theorem pd_okl5 : ((List.range 48).map (fun i => i + 240)).all (fun i => match pd_cd 89 i with
  | none => true
  | some op => pd_ck 89 i op) = true := by decide +kernel
theorem pd_okl6 : ((List.range 48).map (fun i => i + 288)).all (fun i => match pd_cd 89 i with
  | none => true
  | some op => pd_ck 89 i op) = true := by decide +kernel
theorem pd_okl7 : ((List.range 48).map (fun i => i + 336)).all (fun i => match pd_cd 89 i with
  | none => true
  | some op => pd_ck 89 i op) = true := by decide +kernel
theorem pd_okl8 : ((List.range 48).map (fun i => i + 384)).all (fun i => match pd_cd 89 i with
  | none => true
  | some op => pd_ck 89 i op) = true := by decide +kernel
theorem pd_okl9 : ((List.range 48).map (fun i => i + 432)).all (fun i => match pd_cd 89 i with
  | none => true
  | some op => pd_ck 89 i op) = true := by decide +kernel
theorem pd_okl10 : ((List.range 48).map (fun i => i + 480)).all (fun i => match pd_cd 89 i with
  | none => true
  | some op => pd_ck 89 i op) = true := by decide +kernel
end
section
theorem pd_okl11 : ((List.range 48).map (fun i => i + 528)).all (fun i => match pd_cd 89 i with
  | none => true
  | some op => pd_ck 89 i op) = true := by decide +kernel
theorem pd_okl12 : ((List.range 48).map (fun i => i + 576)).all (fun i => match pd_cd 89 i with
  | none => true
  | some op => pd_ck 89 i op) = true := by decide +kernel
theorem pd_okl13 : ((List.range 48).map (fun i => i + 624)).all (fun i => match pd_cd 89 i with
  | none => true
  | some op => pd_ck 89 i op) = true := by decide +kernel
theorem pd_okl14 : ((List.range 48).map (fun i => i + 672)).all (fun i => match pd_cd 89 i with
  | none => true
  | some op => pd_ck 89 i op) = true := by decide +kernel
theorem pd_okl15 : ((List.range 48).map (fun i => i + 720)).all (fun i => match pd_cd 89 i with
  | none => true
  | some op => pd_ck 89 i op) = true := by decide +kernel
theorem pd_okl16 : ((List.range 48).map (fun i => i + 768)).all (fun i => match pd_cd 89 i with
  | none => true
  | some op => pd_ck 89 i op) = true := by decide +kernel
theorem pd_okl17 : ((List.range 48).map (fun i => i + 816)).all (fun i => match pd_cd 89 i with
  | none => true
  | some op => pd_ck 89 i op) = true := by decide +kernel
theorem pd_okl18 : ((List.range 48).map (fun i => i + 864)).all (fun i => match pd_cd 89 i with
  | none => true
  | some op => pd_ck 89 i op) = true := by decide +kernel
theorem pd_okl19 : ((List.range 48).map (fun i => i + 912)).all (fun i => match pd_cd 89 i with
  | none => true
  | some op => pd_ck 89 i op) = true := by decide +kernel
theorem pd_okl20 : ((List.range 48).map (fun i => i + 960)).all (fun i => match pd_cd 89 i with
  | none => true
  | some op => pd_ck 89 i op) = true := by decide +kernel
theorem pd_okl21 : ((List.range 48).map (fun i => i + 1008)).all (fun i => match pd_cd 89 i with
  | none => true
  | some op => pd_ck 89 i op) = true := by decide +kernel
theorem pd_okl22 : ((List.range 21).map (fun i => i + 1056)).all (fun i => match pd_cd 89 i with
  | none => true
  | some op => pd_ck 89 i op) = true := by decide +kernel
end
section
theorem pd_MC_ok0 : ((List.range 30).map (fun i => i + 0)).all (fun m => decide (tables_1[(pd_mt m).2.2.2.2]? = some (Cond.code (pd_y m) (pd_b m) (pd_ml m) (pd_rt m)))) = true := by decide +kernel
theorem pd_MC_ok1 : ((List.range 30).map (fun i => i + 30)).all (fun m => decide (tables_1[(pd_mt m).2.2.2.2]? = some (Cond.code (pd_y m) (pd_b m) (pd_ml m) (pd_rt m)))) = true := by decide +kernel
theorem pd_MC_ok2 : ((List.range 29).map (fun i => i + 60)).all (fun m => decide (tables_1[(pd_mt m).2.2.2.2]? = some (Cond.code (pd_y m) (pd_b m) (pd_ml m) (pd_rt m)))) = true := by decide +kernel
end
section
/-! The machine follows the abstract machine. -/
def pd_W : List Jvm.Cond := lw_tbl.filter goodWord
theorem pd_W_in {w : Jvm.Cond} (h : w ∈ lw_tbl) (g : goodWord w = true) : w ∈ pd_W := List.mem_filter.mpr ⟨h, g⟩
theorem pd_W_tab {i : Nat} {w : Jvm.Cond} (h : tables_1[i]? = some w) (g : goodWord w = true) : w ∈ pd_W := pd_W_in (List.mem_append_right _ (List.mem_of_getElem? h)) g
def pd_wd (k : Nat) : List Jvm.Cond := Jvm.Cond.code (pd_y k) (pd_b k) (pd_ml k) (pd_rt k) :: pd_W
def pd_rm (k : Nat) : Room := { frames := pd_fr k, cells := 0, slots := 0, locals := pd_lo k }
/-- all that the tables say of a call of k -/
def pd_CW (k : Nat) : Prop := Jvm.Cond.code (pd_y k) (pd_b k) (pd_ml k) (pd_rt k) ∈ pd_W ∧ (cond (Nat.beq (pd_mt k).1 1) (Jvm.Cond.static (pd_y k)) (Jvm.Cond.instanceMethod (pd_y k))) ∈ pd_W ∧ ((pd_mt k).1 = 0 → Jvm.Cond.selects (pd_y k).cls (pd_y k) (pd_y k) ∈ pd_W) ∧ Jvm.Cond.initialized (pd_y k).cls ∈ pd_W ∧ (pd_y k).cls = pd_cn (pd_oc k) ∧ plainFor (pd_y k) = true ∧ ((pd_y k).cls ≠ "java/lang/invoke/MethodHandle" ∧ (pd_y k).cls ≠ "java/lang/invoke/VarHandle") ∧ (parseMethodDescriptor (pd_y k).desc).map (fun d => d.parameters.length) = some (pd_pn k)
/-- the links to nest mates' methods hold -/
def pd_NW (U : State) : Prop := ∀ e ∈ pd_CL, e.2.2.2.1 = 1 → va_Nw (.methodLinkNest (pd_cn e.1) e.2.1 (pd_y e.2.2.1) RX9) U
theorem pd_NW.warm {s U : State} (hW : s.WarmedH U.vm) (h : pd_NW s) : pd_NW U := fun e he h1 => va_Nw.warmM hW (h e he h1)
theorem pd_NW.same {s U : State} (hv : s.vm = U.vm) (h : pd_NW s) : pd_NW U := fun e he h1 => va_Nw.same rfl hv (h e he h1)
/-- the facts by tables -/
def pd_TF : Prop := (∀ m i op, m < 90 → pd_cd m i = some op → pd_ck m i op = true) ∧ (∀ k, k < 89 → pd_CW k) ∧
  (∀ e ∈ pd_FL, Jvm.Cond.fieldLink (pd_cn e.1) e.2.1 (pd_cn e.2.2.1) ((vwCl.getD e.2.2.1 (RL, TX0, 0)).2.1 e.2.2.2.1).2.1 ((vwCl.getD e.2.2.1 (RL, TX0, 0)).2.1 e.2.2.2.1).2.2.1 ∈ pd_W) ∧
  (∀ e ∈ pd_CI, Jvm.Cond.constant (pd_cn e.1) e.2.1 e.2.2.1 ∈ pd_W) ∧ (∀ e ∈ pd_CJ, Jvm.Cond.constantLong (pd_cn e.1) e.2.1 e.2.2.1 ∈ pd_W) ∧
  (∀ e ∈ pd_CL, e.2.2.2.1 = 0 → Jvm.Cond.methodLink (pd_cn e.1) e.2.1 (pd_y e.2.2.1) ∈ pd_W) ∧
  (∀ t, t < 10 → ∀ w ∈ u_ws (pd_cn t) ((vwCl.getD t (RL, TX0, 0)).2.1) (pd_nf t), w ∈ pd_W)
/-- a class by its tag -/
theorem pd_cls_at {t : Nat} (h : t < 10) : vwCl[t]? = some (pd_cn t, (vwCl.getD t (RL, TX0, 0)).2.1, pd_nf t) := by
  match t, h with
  | 0, _ => rfl | 1, _ => rfl | 2, _ => rfl | 3, _ => rfl | 4, _ => rfl | 5, _ => rfl | 6, _ => rfl | 7, _ => rfl | 8, _ => rfl | 9, _ => rfl
def pd_tyk (t : Nat) : Nat → FieldType := [tyX0, tyX1, tyX2, tyX3, tyX4, tyX5, tyX6, tyX7, tyX8, tyX9].getD t tyX0
theorem pd_tyk_ok {t : Nat} (h : t < 10) : ∀ k, k < pd_nf t → parseFieldDescriptor ((vwCl.getD t (RL, TX0, 0)).2.1 k).2.2.1 = some (pd_tyk t k) := by
  match t, h with
  | 0, _ => exact tyX0_ok | 1, _ => exact tyX1_ok | 2, _ => exact tyX2_ok | 3, _ => exact tyX3_ok | 4, _ => exact tyX4_ok | 5, _ => exact tyX5_ok | 6, _ => exact tyX6_ok | 7, _ => exact tyX7_ok | 8, _ => exact tyX8_ok | 9, _ => exact tyX9_ok
theorem pd_nmk_ok {t : Nat} (h : t < 10) : ∀ a, a < pd_nf t → ∀ b, b < pd_nf t → a ≠ b → ((vwCl.getD t (RL, TX0, 0)).2.1 a).2.1 ≠ ((vwCl.getD t (RL, TX0, 0)).2.1 b).2.1 := by
  match t, h with
  | 0, _ => exact nmX0 | 1, _ => exact nmX1 | 2, _ => exact nmX2 | 3, _ => exact nmX3 | 4, _ => exact nmX4 | 5, _ => exact nmX5 | 6, _ => exact nmX6 | 7, _ => exact nmX7 | 8, _ => exact nmX8 | 9, _ => exact nmX9
theorem pd_cn_own : ∀ t, t < 10 → ∀ k, k < pd_nf t → ((vwCl.getD t (RL, TX0, 0)).2.1 k).1 = pd_cn t := by decide +kernel
/-- contracts -/
def pd_Pc (ad : Nat → Nat) (D : va_G) (cA : Nat → ClassId) (xs : Nat → Int32) (b L : Nat) (av : List pd_V) (σ : pd_H) : Array Value → State → Prop := fun v U => v = (av.map (pd_cv ad)).toArray ∧ pd_Wd ad D cA xs L σ U U.heap ∧ va_X b L xs U U.heap ∧ b < U.heap.size ∧ pd_NW U
def pd_Qc (ad : Nat → Nat) (D : va_G) (cA : Nat → ClassId) (xs : Nat → Int32) (A : Nat → Prop) (L : Nat) (r : pd_R) : Array Value → State → Outcome → State → Prop := fun _ st oc t => oc = .returned (r.2.map (pd_cv ad)) ∧ (∀ v, r.2 = some v → pd_okv v) ∧ pd_Wd ad D cA xs L r.1 t t.heap ∧ va_F A st t
theorem pd_Wd.moved {ad : Nat → Nat} {D : va_G} {cA : Nat → ClassId} {xs : Nat → Int32} {L : Nat} {σ : pd_H} {u U : State} {H : Heap} (hvm : u.vm.Alike U.vm) (h : pd_Wd ad D cA xs L σ u H) : pd_Wd ad D cA xs L σ U H := ⟨h.1, va_K.moved hvm h.2.1, h.2.2⟩
theorem pd_Pc_blind {ad : Nat → Nat} {D : va_G} {cA : Nat → ClassId} {xs : Nat → Int32} {b L : Nat} {av : List pd_V} {σ : pd_H} : FrameBlind (pd_Pc ad D cA xs b L av σ) := by
  intro a U g mk h
  obtain ⟨h1, h2, h3, h4, h5⟩ := h
  exact ⟨h1, h2.moved (u := U) (U := U.calling g mk a) (Vm.Alike.refl U.vm), va_X.moved (u := U) (U := U.calling g mk a) (Vm.Alike.refl U.vm) h3, h4, pd_NW.same (s := U) (U := U.calling g mk a) rfl h5⟩
def pd_Con (l : Launch) (ad : Nat → Nat) (D : va_G) (cA : Nat → ClassId) (xs : Nat → Int32) (A : Nat → Prop) (b L : Nat) (n : Nat) : Prop :=
  ∀ (k : Nat) (av : List pd_V) (σ : pd_H) (r : pd_R), k < 89 → (∀ v ∈ av, pd_okv v) → pd_cats av ≤ pd_ml k → p4_ex pd_cd n (k, 0, pd_en av (pd_ml k), [], σ) = some r →
    Met l (pd_y k) (pd_wd k) (pd_rm k) (pd_Pc ad D cA xs b L av σ) (pd_Qc ad D cA xs A L r) 0 0 A
/-- Met.ofW, a JDK's method too -/
theorem pd_ofW {l : Launch} {y : MethodName} {ws ws' : List Jvm.Cond} {rm : Room} {Pc : Array Value → State → Prop} {Qc : Array Value → State → Outcome → State → Prop} {mc ms : Nat} {free : Addr → Prop} {cc : ByteArray} {maxL : Nat} {ret : Option FieldType}
    (hy : plainFor y = true) (hw : ws = Jvm.Cond.code y cc maxL ret :: ws')
    (body : ∀ p e s m args below meth c s₁, BodyLoose p l y (headSpec ws rm) cc maxL ret e s m args below meth c s₁ → c.maxLocals = maxL → Pc args s →
      W p l e (headSpec ws rm).room s m args below meth c s.heap [] 0 0 (MQ below Qc args s mc ms free) (entryFrame m args maxL)) : Met l y ws rm Pc Qc mc ms free := by
  refine MetFree.of_bodySF (code := cc) (maxLocals := maxL) (ret := ret) hy ?_ ?_
  · intro args s m h hn
    obtain ⟨meth, c, h1, h2, h3, h4, h5, h6, -, -⟩ := Cond.code_spec hn (atoms_spec (ws := ws) h _ (by rw [hw]; exact List.mem_cons_self))
    exact ⟨meth, c, h1, h2, h3, h4, h5, h6⟩
  · intro p e s m args below meth c s₁ B hml hP _
    have hh0 : s₁.heap = s.heap := by rw [B.state]; rfl
    obtain ⟨t, a1, o, b1, b2, b3⟩ := body p e s m args below meth c s₁ B hml hP s₁ hh0 (Stand.of_body B)
    exact ⟨t, o, a1, b1, b2, ⟨b3.1, b3.2⟩⟩
section PDW
variable {p : Program} {l : Launch} {e : Env} {R : Room} {s : State} {m : MethodId} {args : Array Value} {below : List Frame} {meth : Method} {c : Code} {cells slots : Nat} {Q : State → Prop}
variable {ad : Nat → Nat} {D : va_G} {cA : Nat → ClassId} {xs : Nat → Int32} {A : Nat → Prop} {b L mi : Nat} {H0 : Heap}
/-- where the walk stands: what doesn't change -/
def pd_Cx (p : Program) (R : Room) (s : State) (m : MethodId) (args : Array Value) (c : Code) (cells slots : Nat) (ad : Nat → Nat) (xs : Nat → Int32) (A : Nat → Prop) (b L mi : Nat) (H0 : Heap) : Prop :=
  p.tables.exec = Jvm.exec ∧ c.code = pd_b mi ∧ c.maxLocals = pd_ml mi ∧ s.vm.findClass (pd_cn (pd_oc mi)) = some m.cls ∧ (∀ w ∈ pd_W, w.before args s = true) ∧ pd_fr mi ≤ R.frames ∧ pd_lo mi ≤ R.locals ∧ cells ≤ R.cells ∧ slots ≤ R.slots ∧ pd_E ad A b L ∧ va_X b L xs s H0 ∧ b < H0.size ∧ mi < 90 ∧ pd_NW s
/-- what changes -/
def pd_Rl (s : State) (ad : Nat → Nat) (D : va_G) (cA : Nat → ClassId) (xs : Nat → Int32) (A : Nat → Prop) (L mi : Nat) (H0 : Heap) (ls : pd_L) (st : List pd_V) (σ : pd_H) (lsM : Array Slot) (H : Heap) (locs : List Loc) : Prop :=
  pd_lok ad lsM (pd_ml mi) ls ∧ (∀ k v, pd_nth ls k = some v → pd_okv v) ∧ (∀ v ∈ st, pd_okv v) ∧ pd_Wd ad D cA xs L σ s H ∧ va_S A H0 H locs
/-- from a place of the abstract machine the machine comes to Q -/
def pd_K (p : Program) (l : Launch) (e : Env) (R : Room) (s : State) (m : MethodId) (args : Array Value) (below : List Frame) (meth : Method) (c : Code) (cells slots : Nat) (Q : State → Prop) (ad : Nat → Nat) (D : va_G) (cA : Nat → ClassId) (xs : Nat → Int32) (A : Nat → Prop) (L mi : Nat) (H0 : Heap) (cf : pd_C) : Prop :=
  ∀ (lsM : Array Slot) (H : Heap) (locs : List Loc), pd_Rl s ad D cA xs A L mi H0 cf.2.2.1 cf.2.2.2.1 cf.2.2.2.2 lsM H locs → W p l e R s m args below meth c H locs cells slots Q (F0 m cf.2.1 lsM (cf.2.2.2.1.map (pd_cv ad)))
/-- the method's ends -/
def pd_end (mi : Nat) (ins : Instr) (v : Option pd_V) : Prop := match v, ins with
  | some (.inl (.inl x)), .ireturn => pd_rt mi = some .int ∨ (pd_rt mi = some .boolean ∧ (x = 0 ∨ x = 1))
  | some (.inl (.inr _)), .lreturn => pd_rt mi = some .long
  | some (.inr (.inr _)), .areturn => pd_rt mi = some (.object RX1)
  | none, .return_ => pd_rt mi = none
  | _, _ => False
def pd_Rt (p : Program) (l : Launch) (e : Env) (R : Room) (s : State) (m : MethodId) (args : Array Value) (below : List Frame) (meth : Method) (c : Code) (cells slots : Nat) (Q : State → Prop) (ad : Nat → Nat) (D : va_G) (cA : Nat → ClassId) (xs : Nat → Int32) (A : Nat → Prop) (L mi : Nat) (H0 : Heap) (r : pd_R) : Prop :=
  ∀ (ins : Instr) (pc : Nat) (lsM : Array Slot) (H : Heap) (locs : List Loc), decode (pd_b mi) pc = .ok (ins, 1) → pd_end mi ins r.2 → (∀ v, r.2 = some v → pd_okv v) → pd_Wd ad D cA xs L r.1 s H → va_S A H0 H locs → W p l e R s m args below meth c H locs cells slots Q (F0 m pc lsM (r.2.toList.map (pd_cv ad)))
abbrev pd_Goal (p : Program) (l : Launch) (e : Env) (R : Room) (s : State) (m : MethodId) (args : Array Value) (below : List Frame) (meth : Method) (c : Code) (cells slots : Nat) (Q : State → Prop) (ad : Nat → Nat) (D : va_G) (cA : Nat → ClassId) (xs : Nat → Int32) (A : Nat → Prop) (b L mi : Nat) (H0 : Heap) (n : Nat) (r : pd_R) (cf : pd_C) (S : pd_S) : Prop :=
  pd_Cx p R s m args c cells slots ad xs A b L mi H0 → pd_TF → pd_Con l ad D cA xs A b L n →
  (∀ c' : pd_C, c'.1 = mi → p4_ex pd_cd n c' = some r → pd_K p l e R s m args below meth c cells slots Q ad D cA xs A L mi H0 c') → pd_Rt p l e R s m args below meth c cells slots Q ad D cA xs A L mi H0 r →
  pd_F (p4_ex pd_cd n) (p4_ex pd_cd n) S = some r → pd_K p l e R s m args below meth c cells slots Q ad D cA xs A L mi H0 cf
variable {n : Nat} {r : pd_R} {pc : Nat} {ls : pd_L} {st : List pd_V} {σ : pd_H}
theorem pd_push {v : pd_V} {lsM : Array Slot} {H : Heap} {locs : List Loc} (h : pd_Rl s ad D cA xs A L mi H0 ls st σ lsM H locs) (hv : pd_okv v) : pd_Rl s ad D cA xs A L mi H0 ls (v :: st) σ lsM H locs :=
  ⟨h.1, h.2.1, fun w hw => by rcases List.mem_cons.mp hw with rfl | hw; exact hv; exact h.2.2.1 w hw, h.2.2.2⟩
theorem pd_pops {st' : List pd_V} {lsM : Array Slot} {H : Heap} {locs : List Loc} (h : pd_Rl s ad D cA xs A L mi H0 ls st σ lsM H locs) (hs : ∀ v ∈ st', v ∈ st) : pd_Rl s ad D cA xs A L mi H0 ls st' σ lsM H locs :=
  ⟨h.1, h.2.1, fun w hw => h.2.2.1 w (hs w hw), h.2.2.2⟩
end PDW
end
section
section PDW
variable {p : Program} {l : Launch} {e : Env} {R : Room} {s : State} {m : MethodId} {args : Array Value} {below : List Frame} {meth : Method} {c : Code} {cells slots : Nat} {Q : State → Prop}
variable {ad : Nat → Nat} {D : va_G} {cA : Nat → ClassId} {xs : Nat → Int32} {A : Nat → Prop} {b L mi : Nat} {H0 : Heap}
variable {n : Nat} {r : pd_R} {pc : Nat} {ls : pd_L} {st : List pd_V} {σ : pd_H}
theorem pd_CI_in {a : Nat} {v : Int32} (hT : pd_TF) (hv : pd_CI.any (fun e => Nat.beq e.1 (pd_oc mi) && Nat.beq e.2.1 a && decide (e.2.2.1 = v)) = true) : Jvm.Cond.constant (pd_cn (pd_oc mi)) a v ∈ pd_W := by
  obtain ⟨e, h1, h2⟩ := List.any_eq_true.mp hv
  simp only [Bool.and_eq_true, decide_eq_true_eq] at h2
  obtain ⟨⟨q1, q2⟩, q3⟩ := h2
  have q1 := Nat.eq_of_beq_eq_true q1
  have q2 := Nat.eq_of_beq_eq_true q2
  have := hT.2.2.2.1 e h1
  rw [q1, q2, q3] at this
  exact this
theorem pd_CJ_in {a : Nat} {v : Int64} (hT : pd_TF) (hv : pd_CJ.any (fun e => Nat.beq e.1 (pd_oc mi) && Nat.beq e.2.1 a && decide (e.2.2.1 = v)) = true) : Jvm.Cond.constantLong (pd_cn (pd_oc mi)) a v ∈ pd_W := by
  obtain ⟨e, h1, h2⟩ := List.any_eq_true.mp hv
  simp only [Bool.and_eq_true, decide_eq_true_eq] at h2
  obtain ⟨⟨q1, q2⟩, q3⟩ := h2
  have q1 := Nat.eq_of_beq_eq_true q1
  have q2 := Nat.eq_of_beq_eq_true q2
  have := hT.2.2.2.2.1 e h1
  rw [q1, q2, q3] at this
  exact this
theorem pd_ok_set1 {i : Nat} {v : pd_V} (h : ∀ k v, pd_nth ls k = some v → pd_okv v) (hv : pd_okv v) : ∀ k w, pd_nth (pd_set1 ls i v) k = some w → pd_okv w := by
  intro k w hw
  rcases pd_nth_set1 hw with ⟨-, rfl⟩ | ⟨-, h1, -⟩
  · exact hv
  · exact h k w h1
theorem pd_ok_set2 {i : Nat} {v : pd_V} (h : ∀ k v, pd_nth ls k = some v → pd_okv v) (hv : pd_okv v) : ∀ k w, pd_nth (pd_set2 ls i v) k = some w → pd_okv w := by
  intro k w hw
  rcases pd_nth_set2 hw with ⟨-, rfl⟩ | ⟨-, -, h1, -⟩
  · exact hv
  · exact h k w h1

theorem pd_s_iconst {a : Int} {v : Int32} (hdg : decode (pd_b mi) pc = .ok (.iconst a, 1)) (hv : Int32.ofInt a = v) : pd_Goal p l e R s m args below meth c cells slots Q ad D cA xs A b L mi H0 n r (mi, pc, ls, st, σ) (pd_go (mi, pc + 1, ls, pd_i v :: st, σ)) := by
  intro hC hT hCon hK hRt hF lsM H locs hR
  exact lv_iconst hC.1 hC.2.1 hdg hv (hK _ rfl hF lsM H locs (pd_push hR trivial))
theorem pd_s_bipush {a : Int} {v : Int32} (hdg : decode (pd_b mi) pc = .ok (.bipush a, 2)) (hv : (Int8.ofInt a).toInt32 = v) : pd_Goal p l e R s m args below meth c cells slots Q ad D cA xs A b L mi H0 n r (mi, pc, ls, st, σ) (pd_go (mi, pc + 2, ls, pd_i v :: st, σ)) := by
  intro hC hT hCon hK hRt hF lsM H locs hR
  exact lv_bipush hC.1 hC.2.1 hdg hv (hK _ rfl hF lsM H locs (pd_push hR trivial))
theorem pd_s_sipush {a : Int} {v : Int32} (hdg : decode (pd_b mi) pc = .ok (.sipush a, 3)) (hv : (Int16.ofInt a).toInt32 = v) : pd_Goal p l e R s m args below meth c cells slots Q ad D cA xs A b L mi H0 n r (mi, pc, ls, st, σ) (pd_go (mi, pc + 3, ls, pd_i v :: st, σ)) := by
  intro hC hT hCon hK hRt hF lsM H locs hR
  exact lv_sipush hC.1 hC.2.1 hdg hv (hK _ rfl hF lsM H locs (pd_push hR trivial))
theorem pd_s_lconst {a : Fin 2} {v : Int64} (hdg : decode (pd_b mi) pc = .ok (.lconst a, 1)) (hv : Int64.ofNat (a : Nat) = v) : pd_Goal p l e R s m args below meth c cells slots Q ad D cA xs A b L mi H0 n r (mi, pc, ls, st, σ) (pd_go (mi, pc + 1, ls, pd_j v :: st, σ)) := by
  intro hC hT hCon hK hRt hF lsM H locs hR
  exact lv_lconst hC.1 hC.2.1 hdg hv (hK _ rfl hF lsM H locs (pd_push hR trivial))
theorem pd_s_ldc {a : Nat} {v : Int32} (hdg : decode (pd_b mi) pc = .ok (.ldc a, 2)) (hv : pd_CI.any (fun e => Nat.beq e.1 (pd_oc mi) && Nat.beq e.2.1 a && decide (e.2.2.1 = v)) = true) : pd_Goal p l e R s m args below meth c cells slots Q ad D cA xs A b L mi H0 n r (mi, pc, ls, st, σ) (pd_go (mi, pc + 2, ls, pd_i v :: st, σ)) := by
  intro hC hT hCon hK hRt hF lsM H locs hR
  exact lv_ldc hC.1 hC.2.1 hC.2.2.2.1 (hC.2.2.2.2.1 _ (pd_CI_in hT hv)) hdg (hK _ rfl hF lsM H locs (pd_push hR trivial))
theorem pd_s_ldc_w {a : Nat} {v : Int32} (hdg : decode (pd_b mi) pc = .ok (.ldc_w a, 3)) (hv : pd_CI.any (fun e => Nat.beq e.1 (pd_oc mi) && Nat.beq e.2.1 a && decide (e.2.2.1 = v)) = true) : pd_Goal p l e R s m args below meth c cells slots Q ad D cA xs A b L mi H0 n r (mi, pc, ls, st, σ) (pd_go (mi, pc + 3, ls, pd_i v :: st, σ)) := by
  intro hC hT hCon hK hRt hF lsM H locs hR
  exact lv_ldcw hC.1 hC.2.1 hC.2.2.2.1 (hC.2.2.2.2.1 _ (pd_CI_in hT hv)) hdg (hK _ rfl hF lsM H locs (pd_push hR trivial))
theorem pd_s_ldc2 {a : Nat} {v : Int64} (hdg : decode (pd_b mi) pc = .ok (.ldc2_w a, 3)) (hv : pd_CJ.any (fun e => Nat.beq e.1 (pd_oc mi) && Nat.beq e.2.1 a && decide (e.2.2.1 = v)) = true) : pd_Goal p l e R s m args below meth c cells slots Q ad D cA xs A b L mi H0 n r (mi, pc, ls, st, σ) (pd_go (mi, pc + 3, ls, pd_j v :: st, σ)) := by
  intro hC hT hCon hK hRt hF lsM H locs hR
  exact lv_ldc2 hC.1 hC.2.1 hC.2.2.2.1 (hC.2.2.2.2.1 _ (pd_CJ_in hT hv)) hdg (hK _ rfl hF lsM H locs (pd_push hR trivial))
theorem pd_s_iload {a : Nat} (hdg : decode (pd_b mi) pc = .ok (.iload a, 2)) : pd_Goal p l e R s m args below meth c cells slots Q ad D cA xs A b L mi H0 n r (mi, pc, ls, st, σ) (pd_ldi mi (pc + 2) ls st σ a) := by
  intro hC hT hCon hK hRt hF lsM H locs hR
  unfold pd_ldi at hF
  split at hF
  · next h1 => exact lv_iload hC.1 hC.2.1 hdg (hR.1.at h1) (hK _ rfl hF lsM H locs (pd_push hR trivial))
  · cases hF
theorem pd_s_iload_n {a : Fin 4} (hdg : decode (pd_b mi) pc = .ok (.iload_n a, 1)) : pd_Goal p l e R s m args below meth c cells slots Q ad D cA xs A b L mi H0 n r (mi, pc, ls, st, σ) (pd_ldi mi (pc + 1) ls st σ (a : Nat)) := by
  intro hC hT hCon hK hRt hF lsM H locs hR
  unfold pd_ldi at hF
  split at hF
  · next h1 => exact lv_iload_n hC.1 hC.2.1 hdg rfl (hR.1.at h1) (hK _ rfl hF lsM H locs (pd_push hR trivial))
  · cases hF
theorem pd_s_lload {a : Nat} (hdg : decode (pd_b mi) pc = .ok (.lload a, 2)) : pd_Goal p l e R s m args below meth c cells slots Q ad D cA xs A b L mi H0 n r (mi, pc, ls, st, σ) (pd_ldj mi (pc + 2) ls st σ a) := by
  intro hC hT hCon hK hRt hF lsM H locs hR
  unfold pd_ldj at hF
  split at hF
  · next h1 => exact lv_lload hC.1 hC.2.1 hdg (hR.1.at h1) (hK _ rfl hF lsM H locs (pd_push hR trivial))
  · cases hF
theorem pd_s_lload_n {a : Fin 4} (hdg : decode (pd_b mi) pc = .ok (.lload_n a, 1)) : pd_Goal p l e R s m args below meth c cells slots Q ad D cA xs A b L mi H0 n r (mi, pc, ls, st, σ) (pd_ldj mi (pc + 1) ls st σ (a : Nat)) := by
  intro hC hT hCon hK hRt hF lsM H locs hR
  unfold pd_ldj at hF
  split at hF
  · next h1 => exact lv_lload_n hC.1 hC.2.1 hdg rfl (hR.1.at h1) (hK _ rfl hF lsM H locs (pd_push hR trivial))
  · cases hF
theorem pd_s_aload {a : Nat} (hdg : decode (pd_b mi) pc = .ok (.aload a, 2)) : pd_Goal p l e R s m args below meth c cells slots Q ad D cA xs A b L mi H0 n r (mi, pc, ls, st, σ) (pd_lda mi (pc + 2) ls st σ a) := by
  intro hC hT hCon hK hRt hF lsM H locs hR
  unfold pd_lda at hF
  split at hF
  · next h1 => exact lv_aload hC.1 hC.2.1 hdg (hR.1.at h1) (hK _ rfl hF lsM H locs (pd_push hR (hR.2.1 _ _ (by assumption))))
  · cases hF
theorem pd_s_aload_n {a : Fin 4} (hdg : decode (pd_b mi) pc = .ok (.aload_n a, 1)) : pd_Goal p l e R s m args below meth c cells slots Q ad D cA xs A b L mi H0 n r (mi, pc, ls, st, σ) (pd_lda mi (pc + 1) ls st σ (a : Nat)) := by
  intro hC hT hCon hK hRt hF lsM H locs hR
  unfold pd_lda at hF
  split at hF
  · next h1 => exact lv_aload_n hC.1 hC.2.1 hdg rfl (hR.1.at h1) (hK _ rfl hF lsM H locs (pd_push hR (hR.2.1 _ _ (by assumption))))
  · cases hF
theorem pd_s_istore {a : Nat} (hdg : decode (pd_b mi) pc = .ok (.istore a, 2)) (hn : a + 1 ≤ pd_ml mi) : pd_Goal p l e R s m args below meth c cells slots Q ad D cA xs A b L mi H0 n r (mi, pc, ls, st, σ) (pd_sti mi (pc + 2) ls st σ a) := by
  intro hC hT hCon hK hRt hF lsM H locs hR
  unfold pd_sti at hF
  split at hF
  · refine lv_istore hC.1 hC.2.1 hdg hR.1 (by omega) rfl fun ls' hl => ?_
    exact hK _ rfl hF ls' H locs ⟨pd_lok.set1 hl, pd_ok_set1 hR.2.1 (hR.2.2.1 _ List.mem_cons_self), fun v h => hR.2.2.1 v (List.mem_cons_of_mem _ h), hR.2.2.2⟩
  · cases hF
theorem pd_s_istore_n {a : Fin 4} (hdg : decode (pd_b mi) pc = .ok (.istore_n a, 1)) (hn : (a : Nat) + 1 ≤ pd_ml mi) : pd_Goal p l e R s m args below meth c cells slots Q ad D cA xs A b L mi H0 n r (mi, pc, ls, st, σ) (pd_sti mi (pc + 1) ls st σ (a : Nat)) := by
  intro hC hT hCon hK hRt hF lsM H locs hR
  unfold pd_sti at hF
  split at hF
  · refine lv_istore_n hC.1 hC.2.1 hdg rfl hR.1 (by omega) rfl fun ls' hl => ?_
    exact hK _ rfl hF ls' H locs ⟨pd_lok.set1 hl, pd_ok_set1 hR.2.1 (hR.2.2.1 _ List.mem_cons_self), fun v h => hR.2.2.1 v (List.mem_cons_of_mem _ h), hR.2.2.2⟩
  · cases hF
theorem pd_s_lstore {a : Nat} (hdg : decode (pd_b mi) pc = .ok (.lstore a, 2)) (hn : a + 2 ≤ pd_ml mi) : pd_Goal p l e R s m args below meth c cells slots Q ad D cA xs A b L mi H0 n r (mi, pc, ls, st, σ) (pd_stj mi (pc + 2) ls st σ a) := by
  intro hC hT hCon hK hRt hF lsM H locs hR
  unfold pd_stj at hF
  split at hF
  · refine lv_lstore hC.1 hC.2.1 hdg hR.1 (by omega) rfl fun ls' hl => ?_
    exact hK _ rfl hF ls' H locs ⟨pd_lok.set2 hl, pd_ok_set2 hR.2.1 (hR.2.2.1 _ List.mem_cons_self), fun v h => hR.2.2.1 v (List.mem_cons_of_mem _ h), hR.2.2.2⟩
  · cases hF
theorem pd_s_lstore_n {a : Fin 4} (hdg : decode (pd_b mi) pc = .ok (.lstore_n a, 1)) (hn : (a : Nat) + 2 ≤ pd_ml mi) : pd_Goal p l e R s m args below meth c cells slots Q ad D cA xs A b L mi H0 n r (mi, pc, ls, st, σ) (pd_stj mi (pc + 1) ls st σ (a : Nat)) := by
  intro hC hT hCon hK hRt hF lsM H locs hR
  unfold pd_stj at hF
  split at hF
  · refine lv_lstore_n hC.1 hC.2.1 hdg rfl hR.1 (by omega) rfl fun ls' hl => ?_
    exact hK _ rfl hF ls' H locs ⟨pd_lok.set2 hl, pd_ok_set2 hR.2.1 (hR.2.2.1 _ List.mem_cons_self), fun v h => hR.2.2.1 v (List.mem_cons_of_mem _ h), hR.2.2.2⟩
  · cases hF
theorem pd_s_astore {a : Nat} (hdg : decode (pd_b mi) pc = .ok (.astore a, 2)) (hn : a + 1 ≤ pd_ml mi) : pd_Goal p l e R s m args below meth c cells slots Q ad D cA xs A b L mi H0 n r (mi, pc, ls, st, σ) (pd_sta mi (pc + 2) ls st σ a) := by
  intro hC hT hCon hK hRt hF lsM H locs hR
  unfold pd_sta at hF
  split at hF
  · refine lv_astore hC.1 hC.2.1 hdg hR.1 (by omega) rfl fun ls' hl => ?_
    exact hK _ rfl hF ls' H locs ⟨pd_lok.set1 hl, pd_ok_set1 hR.2.1 (hR.2.2.1 _ List.mem_cons_self), fun v h => hR.2.2.1 v (List.mem_cons_of_mem _ h), hR.2.2.2⟩
  · cases hF
theorem pd_s_astore_n {a : Fin 4} (hdg : decode (pd_b mi) pc = .ok (.astore_n a, 1)) (hn : (a : Nat) + 1 ≤ pd_ml mi) : pd_Goal p l e R s m args below meth c cells slots Q ad D cA xs A b L mi H0 n r (mi, pc, ls, st, σ) (pd_sta mi (pc + 1) ls st σ (a : Nat)) := by
  intro hC hT hCon hK hRt hF lsM H locs hR
  unfold pd_sta at hF
  split at hF
  · refine lv_astore_n hC.1 hC.2.1 hdg rfl hR.1 (by omega) rfl fun ls' hl => ?_
    exact hK _ rfl hF ls' H locs ⟨pd_lok.set1 hl, pd_ok_set1 hR.2.1 (hR.2.2.1 _ List.mem_cons_self), fun v h => hR.2.2.1 v (List.mem_cons_of_mem _ h), hR.2.2.2⟩
  · cases hF
theorem pd_s_iinc {a : Nat} {d : Int} {v : Int32} (hdg : decode (pd_b mi) pc = .ok (.iinc a d, 3)) (hn : a + 1 ≤ pd_ml mi) (hv : Int32.ofInt d = v) : pd_Goal p l e R s m args below meth c cells slots Q ad D cA xs A b L mi H0 n r (mi, pc, ls, st, σ) (pd_inc mi (pc + 3) ls st σ a v) := by
  intro hC hT hCon hK hRt hF lsM H locs hR
  unfold pd_inc at hF
  split at hF
  · next x h1 =>
    obtain ⟨j, hj⟩ := pd_lok.place (ad := ad) h1
    refine lv_iinc hC.1 hC.2.1 hdg hR.1 hj (by rw [hv]) (by omega) rfl fun ls' hl => ?_
    exact hK _ rfl hF ls' H locs ⟨pd_lok.set1 (v := pd_i (x + v)) hl, pd_ok_set1 hR.2.1 trivial, hR.2.2⟩
  · cases hF
theorem pd_s_dup (hdg : decode (pd_b mi) pc = .ok (.dup, 1)) : pd_Goal p l e R s m args below meth c cells slots Q ad D cA xs A b L mi H0 n r (mi, pc, ls, st, σ) (match st with | a :: r => cond (pd_two a) pd_no (pd_go (mi, pc + 1, ls, a :: a :: r, σ)) | _ => pd_no) := by
  intro hC hT hCon hK hRt hF lsM H locs hR
  split at hF
  · next a t =>
    cases h1 : pd_two a with
    | true => rw [h1] at hF; cases hF
    | false =>
      rw [h1] at hF
      exact lv_dup hC.1 hC.2.1 hdg (pd_cv_cat1 ad h1) (hK _ rfl hF lsM H locs (pd_push hR (hR.2.2.1 _ List.mem_cons_self)))
  · cases hF
theorem pd_s_dup2 (hdg : decode (pd_b mi) pc = .ok (.dup2, 1)) : pd_Goal p l e R s m args below meth c cells slots Q ad D cA xs A b L mi H0 n r (mi, pc, ls, st, σ) (match st with | a :: b :: r => cond (pd_two a) pd_no (cond (pd_two b) pd_no (pd_go (mi, pc + 1, ls, a :: b :: a :: b :: r, σ))) | _ => pd_no) := by
  intro hC hT hCon hK hRt hF lsM H locs hR
  split at hF
  · next a b t =>
    cases h1 : pd_two a with
    | true => rw [h1] at hF; cases hF
    | false =>
      cases h2 : pd_two b with
      | true => rw [h1, h2] at hF; cases hF
      | false =>
        rw [h1, h2] at hF
        exact lv_dup2_11 hC.1 hC.2.1 hdg (pd_cv_cat1 ad h1) (pd_cv_cat1 ad h2) (hK _ rfl hF lsM H locs (pd_push (pd_push hR (hR.2.2.1 _ (List.mem_cons_of_mem _ List.mem_cons_self))) (hR.2.2.1 _ List.mem_cons_self)))
  · cases hF
theorem pd_s_pop (hdg : decode (pd_b mi) pc = .ok (.pop, 1)) : pd_Goal p l e R s m args below meth c cells slots Q ad D cA xs A b L mi H0 n r (mi, pc, ls, st, σ) (match st with | a :: r => cond (pd_two a) pd_no (pd_go (mi, pc + 1, ls, r, σ)) | _ => pd_no) := by
  intro hC hT hCon hK hRt hF lsM H locs hR
  split at hF
  · next a t =>
    cases h1 : pd_two a with
    | true => rw [h1] at hF; cases hF
    | false =>
      rw [h1] at hF
      exact lv_pop hC.1 hC.2.1 hdg (pd_cv_cat1 ad h1) (hK _ rfl hF lsM H locs (pd_pops hR (fun v h => List.mem_cons_of_mem _ h)))
  · cases hF
theorem pd_s_iadd (hdg : decode (pd_b mi) pc = .ok (.iadd, 1)) : pd_Goal p l e R s m args below meth c cells slots Q ad D cA xs A b L mi H0 n r (mi, pc, ls, st, σ) (pd_ii (fun x y => x + y) mi (pc + 1) ls st σ) := by
  intro hC hT hCon hK hRt hF lsM H locs hR
  unfold pd_ii at hF
  split at hF
  · exact lv_iadd hC.1 hC.2.1 hdg (hK _ rfl hF lsM H locs (pd_push (pd_pops hR (fun v h => List.mem_cons_of_mem _ (List.mem_cons_of_mem _ h))) trivial))
  · cases hF
theorem pd_s_isub (hdg : decode (pd_b mi) pc = .ok (.isub, 1)) : pd_Goal p l e R s m args below meth c cells slots Q ad D cA xs A b L mi H0 n r (mi, pc, ls, st, σ) (pd_ii (fun x y => x - y) mi (pc + 1) ls st σ) := by
  intro hC hT hCon hK hRt hF lsM H locs hR
  unfold pd_ii at hF
  split at hF
  · exact lv_isub hC.1 hC.2.1 hdg (hK _ rfl hF lsM H locs (pd_push (pd_pops hR (fun v h => List.mem_cons_of_mem _ (List.mem_cons_of_mem _ h))) trivial))
  · cases hF
theorem pd_s_imul (hdg : decode (pd_b mi) pc = .ok (.imul, 1)) : pd_Goal p l e R s m args below meth c cells slots Q ad D cA xs A b L mi H0 n r (mi, pc, ls, st, σ) (pd_ii (fun x y => x * y) mi (pc + 1) ls st σ) := by
  intro hC hT hCon hK hRt hF lsM H locs hR
  unfold pd_ii at hF
  split at hF
  · exact lv_imul hC.1 hC.2.1 hdg (hK _ rfl hF lsM H locs (pd_push (pd_pops hR (fun v h => List.mem_cons_of_mem _ (List.mem_cons_of_mem _ h))) trivial))
  · cases hF
theorem pd_s_iand (hdg : decode (pd_b mi) pc = .ok (.iand, 1)) : pd_Goal p l e R s m args below meth c cells slots Q ad D cA xs A b L mi H0 n r (mi, pc, ls, st, σ) (pd_ii (fun x y => x &&& y) mi (pc + 1) ls st σ) := by
  intro hC hT hCon hK hRt hF lsM H locs hR
  unfold pd_ii at hF
  split at hF
  · exact lv_iand hC.1 hC.2.1 hdg (hK _ rfl hF lsM H locs (pd_push (pd_pops hR (fun v h => List.mem_cons_of_mem _ (List.mem_cons_of_mem _ h))) trivial))
  · cases hF
theorem pd_s_ior (hdg : decode (pd_b mi) pc = .ok (.ior, 1)) : pd_Goal p l e R s m args below meth c cells slots Q ad D cA xs A b L mi H0 n r (mi, pc, ls, st, σ) (pd_ii (fun x y => x ||| y) mi (pc + 1) ls st σ) := by
  intro hC hT hCon hK hRt hF lsM H locs hR
  unfold pd_ii at hF
  split at hF
  · exact lv_ior hC.1 hC.2.1 hdg (hK _ rfl hF lsM H locs (pd_push (pd_pops hR (fun v h => List.mem_cons_of_mem _ (List.mem_cons_of_mem _ h))) trivial))
  · cases hF
theorem pd_s_ishl (hdg : decode (pd_b mi) pc = .ok (.ishl, 1)) : pd_Goal p l e R s m args below meth c cells slots Q ad D cA xs A b L mi H0 n r (mi, pc, ls, st, σ) (pd_ii (fun x y => x <<< (y &&& 31)) mi (pc + 1) ls st σ) := by
  intro hC hT hCon hK hRt hF lsM H locs hR
  unfold pd_ii at hF
  split at hF
  · exact lv_ishl hC.1 hC.2.1 hdg (hK _ rfl hF lsM H locs (pd_push (pd_pops hR (fun v h => List.mem_cons_of_mem _ (List.mem_cons_of_mem _ h))) trivial))
  · cases hF
theorem pd_s_ishr (hdg : decode (pd_b mi) pc = .ok (.ishr, 1)) : pd_Goal p l e R s m args below meth c cells slots Q ad D cA xs A b L mi H0 n r (mi, pc, ls, st, σ) (pd_ii (fun x y => x >>> (y &&& 31)) mi (pc + 1) ls st σ) := by
  intro hC hT hCon hK hRt hF lsM H locs hR
  unfold pd_ii at hF
  split at hF
  · exact lv_ishr hC.1 hC.2.1 hdg (hK _ rfl hF lsM H locs (pd_push (pd_pops hR (fun v h => List.mem_cons_of_mem _ (List.mem_cons_of_mem _ h))) trivial))
  · cases hF
theorem pd_s_iushr (hdg : decode (pd_b mi) pc = .ok (.iushr, 1)) : pd_Goal p l e R s m args below meth c cells slots Q ad D cA xs A b L mi H0 n r (mi, pc, ls, st, σ) (pd_ii (fun x y => (x.toUInt32 >>> (y.toUInt32 &&& Int32.toUInt32 31)).toInt32) mi (pc + 1) ls st σ) := by
  intro hC hT hCon hK hRt hF lsM H locs hR
  unfold pd_ii at hF
  split at hF
  · exact lv_iushr hC.1 hC.2.1 hdg rfl (hK _ rfl hF lsM H locs (pd_push (pd_pops hR (fun v h => List.mem_cons_of_mem _ (List.mem_cons_of_mem _ h))) trivial))
  · cases hF
theorem pd_s_ladd (hdg : decode (pd_b mi) pc = .ok (.ladd, 1)) : pd_Goal p l e R s m args below meth c cells slots Q ad D cA xs A b L mi H0 n r (mi, pc, ls, st, σ) (pd_jj (fun x y => x + y) mi (pc + 1) ls st σ) := by
  intro hC hT hCon hK hRt hF lsM H locs hR
  unfold pd_jj at hF
  split at hF
  · exact lv_ladd hC.1 hC.2.1 hdg (hK _ rfl hF lsM H locs (pd_push (pd_pops hR (fun v h => List.mem_cons_of_mem _ (List.mem_cons_of_mem _ h))) trivial))
  · cases hF
theorem pd_s_lsub (hdg : decode (pd_b mi) pc = .ok (.lsub, 1)) : pd_Goal p l e R s m args below meth c cells slots Q ad D cA xs A b L mi H0 n r (mi, pc, ls, st, σ) (pd_jj (fun x y => x - y) mi (pc + 1) ls st σ) := by
  intro hC hT hCon hK hRt hF lsM H locs hR
  unfold pd_jj at hF
  split at hF
  · exact lv_lsub hC.1 hC.2.1 hdg (hK _ rfl hF lsM H locs (pd_push (pd_pops hR (fun v h => List.mem_cons_of_mem _ (List.mem_cons_of_mem _ h))) trivial))
  · cases hF
theorem pd_s_lmul (hdg : decode (pd_b mi) pc = .ok (.lmul, 1)) : pd_Goal p l e R s m args below meth c cells slots Q ad D cA xs A b L mi H0 n r (mi, pc, ls, st, σ) (pd_jj (fun x y => x * y) mi (pc + 1) ls st σ) := by
  intro hC hT hCon hK hRt hF lsM H locs hR
  unfold pd_jj at hF
  split at hF
  · exact lv_lmul hC.1 hC.2.1 hdg (hK _ rfl hF lsM H locs (pd_push (pd_pops hR (fun v h => List.mem_cons_of_mem _ (List.mem_cons_of_mem _ h))) trivial))
  · cases hF
theorem pd_s_land (hdg : decode (pd_b mi) pc = .ok (.land, 1)) : pd_Goal p l e R s m args below meth c cells slots Q ad D cA xs A b L mi H0 n r (mi, pc, ls, st, σ) (pd_jj (fun x y => x &&& y) mi (pc + 1) ls st σ) := by
  intro hC hT hCon hK hRt hF lsM H locs hR
  unfold pd_jj at hF
  split at hF
  · exact lv_land hC.1 hC.2.1 hdg (hK _ rfl hF lsM H locs (pd_push (pd_pops hR (fun v h => List.mem_cons_of_mem _ (List.mem_cons_of_mem _ h))) trivial))
  · cases hF
theorem pd_s_lor (hdg : decode (pd_b mi) pc = .ok (.lor, 1)) : pd_Goal p l e R s m args below meth c cells slots Q ad D cA xs A b L mi H0 n r (mi, pc, ls, st, σ) (pd_jj (fun x y => x ||| y) mi (pc + 1) ls st σ) := by
  intro hC hT hCon hK hRt hF lsM H locs hR
  unfold pd_jj at hF
  split at hF
  · exact lv_lor hC.1 hC.2.1 hdg (hK _ rfl hF lsM H locs (pd_push (pd_pops hR (fun v h => List.mem_cons_of_mem _ (List.mem_cons_of_mem _ h))) trivial))
  · cases hF
theorem pd_s_lshl (hdg : decode (pd_b mi) pc = .ok (.lshl, 1)) : pd_Goal p l e R s m args below meth c cells slots Q ad D cA xs A b L mi H0 n r (mi, pc, ls, st, σ) (pd_ji (fun x y => x <<< (y.toInt64 &&& 63)) mi (pc + 1) ls st σ) := by
  intro hC hT hCon hK hRt hF lsM H locs hR
  unfold pd_ji at hF
  split at hF
  · exact lv_lshl hC.1 hC.2.1 hdg rfl (hK _ rfl hF lsM H locs (pd_push (pd_pops hR (fun v h => List.mem_cons_of_mem _ (List.mem_cons_of_mem _ h))) trivial))
  · cases hF
theorem pd_s_lshr (hdg : decode (pd_b mi) pc = .ok (.lshr, 1)) : pd_Goal p l e R s m args below meth c cells slots Q ad D cA xs A b L mi H0 n r (mi, pc, ls, st, σ) (pd_ji (fun x y => x >>> (y.toInt64 &&& 63)) mi (pc + 1) ls st σ) := by
  intro hC hT hCon hK hRt hF lsM H locs hR
  unfold pd_ji at hF
  split at hF
  · exact lv_lshr hC.1 hC.2.1 hdg rfl (hK _ rfl hF lsM H locs (pd_push (pd_pops hR (fun v h => List.mem_cons_of_mem _ (List.mem_cons_of_mem _ h))) trivial))
  · cases hF
theorem pd_s_idiv (hdg : decode (pd_b mi) pc = .ok (.idiv, 1)) : pd_Goal p l e R s m args below meth c cells slots Q ad D cA xs A b L mi H0 n r (mi, pc, ls, st, σ) (match st with | .inl (.inl y) :: .inl (.inl x) :: r => pd_gd (decide (y = 0)) (mi, pc + 1, ls, pd_i (x / y) :: r, σ) | _ => pd_no) := by
  intro hC hT hCon hK hRt hF lsM H locs hR
  split at hF
  · next y x t =>
    by_cases h1 : y = 0
    · rw [decide_eq_true h1] at hF; cases hF
    · rw [decide_eq_false h1] at hF
      exact lv_idiv hC.1 hC.2.1 hdg h1 (hK _ rfl hF lsM H locs (pd_push (pd_pops hR (fun v h => List.mem_cons_of_mem _ (List.mem_cons_of_mem _ h))) trivial))
  · cases hF
theorem pd_s_irem (hdg : decode (pd_b mi) pc = .ok (.irem, 1)) : pd_Goal p l e R s m args below meth c cells slots Q ad D cA xs A b L mi H0 n r (mi, pc, ls, st, σ) (match st with | .inl (.inl y) :: .inl (.inl x) :: r => pd_gd (decide (y = 0)) (mi, pc + 1, ls, pd_i (x - x / y * y) :: r, σ) | _ => pd_no) := by
  intro hC hT hCon hK hRt hF lsM H locs hR
  split at hF
  · next y x t =>
    by_cases h1 : y = 0
    · rw [decide_eq_true h1] at hF; cases hF
    · rw [decide_eq_false h1] at hF
      exact lv_irem hC.1 hC.2.1 hdg h1 (hK _ rfl hF lsM H locs (pd_push (pd_pops hR (fun v h => List.mem_cons_of_mem _ (List.mem_cons_of_mem _ h))) trivial))
  · cases hF
theorem pd_s_ldiv (hdg : decode (pd_b mi) pc = .ok (.ldiv, 1)) : pd_Goal p l e R s m args below meth c cells slots Q ad D cA xs A b L mi H0 n r (mi, pc, ls, st, σ) (match st with | .inl (.inr y) :: .inl (.inr x) :: r => pd_gd (decide (y = 0)) (mi, pc + 1, ls, pd_j (x / y) :: r, σ) | _ => pd_no) := by
  intro hC hT hCon hK hRt hF lsM H locs hR
  split at hF
  · next y x t =>
    by_cases h1 : y = 0
    · rw [decide_eq_true h1] at hF; cases hF
    · rw [decide_eq_false h1] at hF
      exact lv_ldiv hC.1 hC.2.1 hdg h1 (hK _ rfl hF lsM H locs (pd_push (pd_pops hR (fun v h => List.mem_cons_of_mem _ (List.mem_cons_of_mem _ h))) trivial))
  · cases hF
theorem pd_s_lrem (hdg : decode (pd_b mi) pc = .ok (.lrem, 1)) : pd_Goal p l e R s m args below meth c cells slots Q ad D cA xs A b L mi H0 n r (mi, pc, ls, st, σ) (match st with | .inl (.inr y) :: .inl (.inr x) :: r => pd_gd (decide (y = 0)) (mi, pc + 1, ls, pd_j (x - x / y * y) :: r, σ) | _ => pd_no) := by
  intro hC hT hCon hK hRt hF lsM H locs hR
  split at hF
  · next y x t =>
    by_cases h1 : y = 0
    · rw [decide_eq_true h1] at hF; cases hF
    · rw [decide_eq_false h1] at hF
      exact lv_lrem hC.1 hC.2.1 hdg h1 (hK _ rfl hF lsM H locs (pd_push (pd_pops hR (fun v h => List.mem_cons_of_mem _ (List.mem_cons_of_mem _ h))) trivial))
  · cases hF
theorem pd_s_lneg (hdg : decode (pd_b mi) pc = .ok (.lneg, 1)) : pd_Goal p l e R s m args below meth c cells slots Q ad D cA xs A b L mi H0 n r (mi, pc, ls, st, σ) (match st with | .inl (.inr x) :: r => pd_go (mi, pc + 1, ls, pd_j (-x) :: r, σ) | _ => pd_no) := by
  intro hC hT hCon hK hRt hF lsM H locs hR
  split at hF
  · exact lv_lneg hC.1 hC.2.1 hdg (hK _ rfl hF lsM H locs (pd_push (pd_pops hR (fun v h => List.mem_cons_of_mem _ h)) trivial))
  · cases hF
theorem pd_s_lcmp (hdg : decode (pd_b mi) pc = .ok (.lcmp, 1)) : pd_Goal p l e R s m args below meth c cells slots Q ad D cA xs A b L mi H0 n r (mi, pc, ls, st, σ) (match st with | .inl (.inr y) :: .inl (.inr x) :: r => pd_go (mi, pc + 1, ls, pd_i (lg_cmp x y) :: r, σ) | _ => pd_no) := by
  intro hC hT hCon hK hRt hF lsM H locs hR
  split at hF
  · exact W.lcmp hC.1 hC.2.1 hdg (hK _ rfl hF lsM H locs (pd_push (pd_pops hR (fun v h => List.mem_cons_of_mem _ (List.mem_cons_of_mem _ h))) trivial))
  · cases hF
theorem pd_s_i2l (hdg : decode (pd_b mi) pc = .ok (.i2l, 1)) : pd_Goal p l e R s m args below meth c cells slots Q ad D cA xs A b L mi H0 n r (mi, pc, ls, st, σ) (match st with | .inl (.inl x) :: r => pd_go (mi, pc + 1, ls, pd_j x.toInt64 :: r, σ) | _ => pd_no) := by
  intro hC hT hCon hK hRt hF lsM H locs hR
  split at hF
  · exact lv_i2l hC.1 hC.2.1 hdg rfl (hK _ rfl hF lsM H locs (pd_push (pd_pops hR (fun v h => List.mem_cons_of_mem _ h)) trivial))
  · cases hF
theorem pd_s_l2i (hdg : decode (pd_b mi) pc = .ok (.l2i, 1)) : pd_Goal p l e R s m args below meth c cells slots Q ad D cA xs A b L mi H0 n r (mi, pc, ls, st, σ) (match st with | .inl (.inr x) :: r => pd_go (mi, pc + 1, ls, pd_i x.toInt32 :: r, σ) | _ => pd_no) := by
  intro hC hT hCon hK hRt hF lsM H locs hR
  split at hF
  · exact lv_l2i hC.1 hC.2.1 hdg rfl (hK _ rfl hF lsM H locs (pd_push (pd_pops hR (fun v h => List.mem_cons_of_mem _ h)) trivial))
  · cases hF
theorem pd_s_i2f (hdg : decode (pd_b mi) pc = .ok (.i2f, 1)) : pd_Goal p l e R s m args below meth c cells slots Q ad D cA xs A b L mi H0 n r (mi, pc, ls, st, σ) (match st with | .inl (.inl x) :: r => pd_go (mi, pc + 1, ls, pd_f (FP.i2f x) :: r, σ) | _ => pd_no) := by
  intro hC hT hCon hK hRt hF lsM H locs hR
  split at hF
  · exact lv_i2f hC.1 hC.2.1 hdg (hK _ rfl hF lsM H locs (pd_push (pd_pops hR (fun v h => List.mem_cons_of_mem _ h)) trivial))
  · cases hF
theorem pd_s_l2f (hdg : decode (pd_b mi) pc = .ok (.l2f, 1)) : pd_Goal p l e R s m args below meth c cells slots Q ad D cA xs A b L mi H0 n r (mi, pc, ls, st, σ) (match st with | .inl (.inr x) :: r => pd_go (mi, pc + 1, ls, pd_f (FP.l2f x) :: r, σ) | _ => pd_no) := by
  intro hC hT hCon hK hRt hF lsM H locs hR
  split at hF
  · exact lv_l2f hC.1 hC.2.1 hdg (hK _ rfl hF lsM H locs (pd_push (pd_pops hR (fun v h => List.mem_cons_of_mem _ h)) trivial))
  · cases hF
theorem pd_s_f2l (hdg : decode (pd_b mi) pc = .ok (.f2l, 1)) : pd_Goal p l e R s m args below meth c cells slots Q ad D cA xs A b L mi H0 n r (mi, pc, ls, st, σ) (match st with | .inr (.inl (.inl x)) :: r => pd_go (mi, pc + 1, ls, pd_j (FP.f2l x) :: r, σ) | _ => pd_no) := by
  intro hC hT hCon hK hRt hF lsM H locs hR
  split at hF
  · exact lv_f2l hC.1 hC.2.1 hdg (hK _ rfl hF lsM H locs (pd_push (pd_pops hR (fun v h => List.mem_cons_of_mem _ h)) trivial))
  · cases hF
theorem pd_s_l2d (hdg : decode (pd_b mi) pc = .ok (.l2d, 1)) : pd_Goal p l e R s m args below meth c cells slots Q ad D cA xs A b L mi H0 n r (mi, pc, ls, st, σ) (match st with | .inl (.inr x) :: r => pd_go (mi, pc + 1, ls, pd_d (FP.l2d x) :: r, σ) | _ => pd_no) := by
  intro hC hT hCon hK hRt hF lsM H locs hR
  split at hF
  · exact lv_l2d hC.1 hC.2.1 hdg (hK _ rfl hF lsM H locs (pd_push (pd_pops hR (fun v h => List.mem_cons_of_mem _ h)) trivial))
  · cases hF
theorem pd_s_d2l (hdg : decode (pd_b mi) pc = .ok (.d2l, 1)) : pd_Goal p l e R s m args below meth c cells slots Q ad D cA xs A b L mi H0 n r (mi, pc, ls, st, σ) (match st with | .inr (.inl (.inr x)) :: r => pd_go (mi, pc + 1, ls, pd_j (FP.d2l x) :: r, σ) | _ => pd_no) := by
  intro hC hT hCon hK hRt hF lsM H locs hR
  split at hF
  · exact lv_d2l hC.1 hC.2.1 hdg (hK _ rfl hF lsM H locs (pd_push (pd_pops hR (fun v h => List.mem_cons_of_mem _ h)) trivial))
  · cases hF
theorem pd_s_i2b (hdg : decode (pd_b mi) pc = .ok (.i2b, 1)) : pd_Goal p l e R s m args below meth c cells slots Q ad D cA xs A b L mi H0 n r (mi, pc, ls, st, σ) (pd_cv1 (fun x => x.toInt8.toInt32) mi (pc + 1) ls st σ) := by
  intro hC hT hCon hK hRt hF lsM H locs hR
  unfold pd_cv1 at hF
  split at hF
  · exact lv_i2b hC.1 hC.2.1 hdg rfl (hK _ rfl hF lsM H locs (pd_push (pd_pops hR (fun v h => List.mem_cons_of_mem _ h)) trivial))
  · cases hF
theorem pd_s_i2c (hdg : decode (pd_b mi) pc = .ok (.i2c, 1)) : pd_Goal p l e R s m args below meth c cells slots Q ad D cA xs A b L mi H0 n r (mi, pc, ls, st, σ) (pd_cv1 (fun x => (x.toUInt32 % 65536).toInt32) mi (pc + 1) ls st σ) := by
  intro hC hT hCon hK hRt hF lsM H locs hR
  unfold pd_cv1 at hF
  split at hF
  · exact lv_i2c hC.1 hC.2.1 hdg rfl (hK _ rfl hF lsM H locs (pd_push (pd_pops hR (fun v h => List.mem_cons_of_mem _ h)) trivial))
  · cases hF
theorem pd_s_i2s (hdg : decode (pd_b mi) pc = .ok (.i2s, 1)) : pd_Goal p l e R s m args below meth c cells slots Q ad D cA xs A b L mi H0 n r (mi, pc, ls, st, σ) (pd_cv1 (fun x => x.toInt16.toInt32) mi (pc + 1) ls st σ) := by
  intro hC hT hCon hK hRt hF lsM H locs hR
  unfold pd_cv1 at hF
  split at hF
  · exact lv_i2s hC.1 hC.2.1 hdg rfl (hK _ rfl hF lsM H locs (pd_push (pd_pops hR (fun v h => List.mem_cons_of_mem _ h)) trivial))
  · cases hF
theorem pd_s_if_eq {off : Int} {k : Nat} {x : Int32} (hdg : decode (pd_b mi) pc = .ok (.ifCond .eq off, 3)) (ht : (pc : Int) + off = (k : Int)) : pd_Goal p l e R s m args below meth c cells slots Q ad D cA xs A b L mi H0 n r (mi, pc, ls, pd_i x :: st, σ) (pd_br .eq x 0 (mi, k, ls, st, σ) (mi, pc + 3, ls, st, σ)) := by
  intro hC hT hCon hK hRt hF lsM H locs hR
  have hR' := pd_pops (st' := st) hR (fun v h => List.mem_cons_of_mem _ h)
  exact lv_if_eq hC.1 hC.2.1 hdg ht (fun h9 => hK _ rfl (by have h8 := hF; unfold pd_br pd_cc at h8; rw [decide_eq_true h9] at h8; exact h8) lsM H locs hR') (fun h9 => hK _ rfl (by have h8 := hF; unfold pd_br pd_cc at h8; rw [decide_eq_false h9] at h8; exact h8) lsM H locs hR')
theorem pd_s_icmp_eq {off : Int} {k : Nat} {x y : Int32} (hdg : decode (pd_b mi) pc = .ok (.if_icmp .eq off, 3)) (ht : (pc : Int) + off = (k : Int)) : pd_Goal p l e R s m args below meth c cells slots Q ad D cA xs A b L mi H0 n r (mi, pc, ls, pd_i y :: pd_i x :: st, σ) (pd_br .eq x y (mi, k, ls, st, σ) (mi, pc + 3, ls, st, σ)) := by
  intro hC hT hCon hK hRt hF lsM H locs hR
  have hR' := pd_pops (st' := st) hR (fun v h => List.mem_cons_of_mem _ (List.mem_cons_of_mem _ h))
  exact lv_icmp_eq hC.1 hC.2.1 hdg ht (fun h9 => hK _ rfl (by have h8 := hF; unfold pd_br pd_cc at h8; rw [decide_eq_true h9] at h8; exact h8) lsM H locs hR') (fun h9 => hK _ rfl (by have h8 := hF; unfold pd_br pd_cc at h8; rw [decide_eq_false h9] at h8; exact h8) lsM H locs hR')
theorem pd_s_if_ne {off : Int} {k : Nat} {x : Int32} (hdg : decode (pd_b mi) pc = .ok (.ifCond .ne off, 3)) (ht : (pc : Int) + off = (k : Int)) : pd_Goal p l e R s m args below meth c cells slots Q ad D cA xs A b L mi H0 n r (mi, pc, ls, pd_i x :: st, σ) (pd_br .ne x 0 (mi, k, ls, st, σ) (mi, pc + 3, ls, st, σ)) := by
  intro hC hT hCon hK hRt hF lsM H locs hR
  have hR' := pd_pops (st' := st) hR (fun v h => List.mem_cons_of_mem _ h)
  exact lv_if_ne hC.1 hC.2.1 hdg ht (fun h9 => hK _ rfl (by have h8 := hF; unfold pd_br pd_cc at h8; rw [decide_eq_false h9] at h8; exact h8) lsM H locs hR') (fun h9 => hK _ rfl (by have h8 := hF; unfold pd_br pd_cc at h8; rw [decide_eq_true h9] at h8; exact h8) lsM H locs hR')
theorem pd_s_icmp_ne {off : Int} {k : Nat} {x y : Int32} (hdg : decode (pd_b mi) pc = .ok (.if_icmp .ne off, 3)) (ht : (pc : Int) + off = (k : Int)) : pd_Goal p l e R s m args below meth c cells slots Q ad D cA xs A b L mi H0 n r (mi, pc, ls, pd_i y :: pd_i x :: st, σ) (pd_br .ne x y (mi, k, ls, st, σ) (mi, pc + 3, ls, st, σ)) := by
  intro hC hT hCon hK hRt hF lsM H locs hR
  have hR' := pd_pops (st' := st) hR (fun v h => List.mem_cons_of_mem _ (List.mem_cons_of_mem _ h))
  exact lv_icmp_ne hC.1 hC.2.1 hdg ht (fun h9 => hK _ rfl (by have h8 := hF; unfold pd_br pd_cc at h8; rw [decide_eq_false h9] at h8; exact h8) lsM H locs hR') (fun h9 => hK _ rfl (by have h8 := hF; unfold pd_br pd_cc at h8; rw [decide_eq_true h9] at h8; exact h8) lsM H locs hR')
theorem pd_s_if_lt {off : Int} {k : Nat} {x : Int32} (hdg : decode (pd_b mi) pc = .ok (.ifCond .lt off, 3)) (ht : (pc : Int) + off = (k : Int)) : pd_Goal p l e R s m args below meth c cells slots Q ad D cA xs A b L mi H0 n r (mi, pc, ls, pd_i x :: st, σ) (pd_br .lt x 0 (mi, k, ls, st, σ) (mi, pc + 3, ls, st, σ)) := by
  intro hC hT hCon hK hRt hF lsM H locs hR
  have hR' := pd_pops (st' := st) hR (fun v h => List.mem_cons_of_mem _ h)
  exact lv_if_lt hC.1 hC.2.1 hdg ht (fun h9 => hK _ rfl (by have h8 := hF; unfold pd_br pd_cc at h8; rw [decide_eq_true h9] at h8; exact h8) lsM H locs hR') (fun h9 => hK _ rfl (by have h8 := hF; unfold pd_br pd_cc at h8; rw [decide_eq_false h9] at h8; exact h8) lsM H locs hR')
theorem pd_s_icmp_lt {off : Int} {k : Nat} {x y : Int32} (hdg : decode (pd_b mi) pc = .ok (.if_icmp .lt off, 3)) (ht : (pc : Int) + off = (k : Int)) : pd_Goal p l e R s m args below meth c cells slots Q ad D cA xs A b L mi H0 n r (mi, pc, ls, pd_i y :: pd_i x :: st, σ) (pd_br .lt x y (mi, k, ls, st, σ) (mi, pc + 3, ls, st, σ)) := by
  intro hC hT hCon hK hRt hF lsM H locs hR
  have hR' := pd_pops (st' := st) hR (fun v h => List.mem_cons_of_mem _ (List.mem_cons_of_mem _ h))
  exact lv_icmp_lt hC.1 hC.2.1 hdg ht (fun h9 => hK _ rfl (by have h8 := hF; unfold pd_br pd_cc at h8; rw [decide_eq_true h9] at h8; exact h8) lsM H locs hR') (fun h9 => hK _ rfl (by have h8 := hF; unfold pd_br pd_cc at h8; rw [decide_eq_false h9] at h8; exact h8) lsM H locs hR')
theorem pd_s_if_ge {off : Int} {k : Nat} {x : Int32} (hdg : decode (pd_b mi) pc = .ok (.ifCond .ge off, 3)) (ht : (pc : Int) + off = (k : Int)) : pd_Goal p l e R s m args below meth c cells slots Q ad D cA xs A b L mi H0 n r (mi, pc, ls, pd_i x :: st, σ) (pd_br .ge x 0 (mi, k, ls, st, σ) (mi, pc + 3, ls, st, σ)) := by
  intro hC hT hCon hK hRt hF lsM H locs hR
  have hR' := pd_pops (st' := st) hR (fun v h => List.mem_cons_of_mem _ h)
  exact lv_if_ge hC.1 hC.2.1 hdg ht (fun h9 => hK _ rfl (by have h8 := hF; unfold pd_br pd_cc at h8; rw [decide_eq_true h9] at h8; exact h8) lsM H locs hR') (fun h9 => hK _ rfl (by have h8 := hF; unfold pd_br pd_cc at h8; rw [decide_eq_false h9] at h8; exact h8) lsM H locs hR')
theorem pd_s_icmp_ge {off : Int} {k : Nat} {x y : Int32} (hdg : decode (pd_b mi) pc = .ok (.if_icmp .ge off, 3)) (ht : (pc : Int) + off = (k : Int)) : pd_Goal p l e R s m args below meth c cells slots Q ad D cA xs A b L mi H0 n r (mi, pc, ls, pd_i y :: pd_i x :: st, σ) (pd_br .ge x y (mi, k, ls, st, σ) (mi, pc + 3, ls, st, σ)) := by
  intro hC hT hCon hK hRt hF lsM H locs hR
  have hR' := pd_pops (st' := st) hR (fun v h => List.mem_cons_of_mem _ (List.mem_cons_of_mem _ h))
  exact lv_icmp_ge hC.1 hC.2.1 hdg ht (fun h9 => hK _ rfl (by have h8 := hF; unfold pd_br pd_cc at h8; rw [decide_eq_true h9] at h8; exact h8) lsM H locs hR') (fun h9 => hK _ rfl (by have h8 := hF; unfold pd_br pd_cc at h8; rw [decide_eq_false h9] at h8; exact h8) lsM H locs hR')
theorem pd_s_if_gt {off : Int} {k : Nat} {x : Int32} (hdg : decode (pd_b mi) pc = .ok (.ifCond .gt off, 3)) (ht : (pc : Int) + off = (k : Int)) : pd_Goal p l e R s m args below meth c cells slots Q ad D cA xs A b L mi H0 n r (mi, pc, ls, pd_i x :: st, σ) (pd_br .gt x 0 (mi, k, ls, st, σ) (mi, pc + 3, ls, st, σ)) := by
  intro hC hT hCon hK hRt hF lsM H locs hR
  have hR' := pd_pops (st' := st) hR (fun v h => List.mem_cons_of_mem _ h)
  exact lv_if_gt hC.1 hC.2.1 hdg ht (fun h9 => hK _ rfl (by have h8 := hF; unfold pd_br pd_cc at h8; rw [decide_eq_true h9] at h8; exact h8) lsM H locs hR') (fun h9 => hK _ rfl (by have h8 := hF; unfold pd_br pd_cc at h8; rw [decide_eq_false h9] at h8; exact h8) lsM H locs hR')
theorem pd_s_icmp_gt {off : Int} {k : Nat} {x y : Int32} (hdg : decode (pd_b mi) pc = .ok (.if_icmp .gt off, 3)) (ht : (pc : Int) + off = (k : Int)) : pd_Goal p l e R s m args below meth c cells slots Q ad D cA xs A b L mi H0 n r (mi, pc, ls, pd_i y :: pd_i x :: st, σ) (pd_br .gt x y (mi, k, ls, st, σ) (mi, pc + 3, ls, st, σ)) := by
  intro hC hT hCon hK hRt hF lsM H locs hR
  have hR' := pd_pops (st' := st) hR (fun v h => List.mem_cons_of_mem _ (List.mem_cons_of_mem _ h))
  exact lv_icmp_gt hC.1 hC.2.1 hdg ht (fun h9 => hK _ rfl (by have h8 := hF; unfold pd_br pd_cc at h8; rw [decide_eq_true h9] at h8; exact h8) lsM H locs hR') (fun h9 => hK _ rfl (by have h8 := hF; unfold pd_br pd_cc at h8; rw [decide_eq_false h9] at h8; exact h8) lsM H locs hR')
theorem pd_s_if_le {off : Int} {k : Nat} {x : Int32} (hdg : decode (pd_b mi) pc = .ok (.ifCond .le off, 3)) (ht : (pc : Int) + off = (k : Int)) : pd_Goal p l e R s m args below meth c cells slots Q ad D cA xs A b L mi H0 n r (mi, pc, ls, pd_i x :: st, σ) (pd_br .le x 0 (mi, k, ls, st, σ) (mi, pc + 3, ls, st, σ)) := by
  intro hC hT hCon hK hRt hF lsM H locs hR
  have hR' := pd_pops (st' := st) hR (fun v h => List.mem_cons_of_mem _ h)
  exact lv_if_le hC.1 hC.2.1 hdg ht (fun h9 => hK _ rfl (by have h8 := hF; unfold pd_br pd_cc at h8; rw [decide_eq_true h9] at h8; exact h8) lsM H locs hR') (fun h9 => hK _ rfl (by have h8 := hF; unfold pd_br pd_cc at h8; rw [decide_eq_false h9] at h8; exact h8) lsM H locs hR')
theorem pd_s_icmp_le {off : Int} {k : Nat} {x y : Int32} (hdg : decode (pd_b mi) pc = .ok (.if_icmp .le off, 3)) (ht : (pc : Int) + off = (k : Int)) : pd_Goal p l e R s m args below meth c cells slots Q ad D cA xs A b L mi H0 n r (mi, pc, ls, pd_i y :: pd_i x :: st, σ) (pd_br .le x y (mi, k, ls, st, σ) (mi, pc + 3, ls, st, σ)) := by
  intro hC hT hCon hK hRt hF lsM H locs hR
  have hR' := pd_pops (st' := st) hR (fun v h => List.mem_cons_of_mem _ (List.mem_cons_of_mem _ h))
  exact lv_icmp_le hC.1 hC.2.1 hdg ht (fun h9 => hK _ rfl (by have h8 := hF; unfold pd_br pd_cc at h8; rw [decide_eq_true h9] at h8; exact h8) lsM H locs hR') (fun h9 => hK _ rfl (by have h8 := hF; unfold pd_br pd_cc at h8; rw [decide_eq_false h9] at h8; exact h8) lsM H locs hR')
theorem pd_s_goto {off : Int} {k : Nat} (hdg : decode (pd_b mi) pc = .ok (.goto off, 3)) (ht : (pc : Int) + off = (k : Int)) : pd_Goal p l e R s m args below meth c cells slots Q ad D cA xs A b L mi H0 n r (mi, pc, ls, st, σ) (pd_go (mi, k, ls, st, σ)) := by
  intro hC hT hCon hK hRt hF lsM H locs hR
  exact lv_goto hC.1 hC.2.1 hdg ht (hK _ rfl hF lsM H locs hR)
end PDW
end
section
section PDW
variable {p : Program} {l : Launch} {e : Env} {R : Room} {s : State} {m : MethodId} {args : Array Value} {below : List Frame} {meth : Method} {c : Code} {cells slots : Nat} {Q : State → Prop}
variable {ad : Nat → Nat} {D : va_G} {cA : Nat → ClassId} {xs : Nat → Int32} {A : Nat → Prop} {b L mi : Nat} {H0 : Heap}
variable {n : Nat} {r : pd_R} {pc : Nat} {ls : pd_L} {st : List pd_V} {σ : pd_H}
theorem pd_fs_in {a : Nat} (hT : pd_TF) {c0 : Nat} (h : (pd_fs c0 a).1 < 10) : Jvm.Cond.fieldLink (pd_cn c0) a (pd_cn (pd_fs c0 a).1) ((vwCl.getD (pd_fs c0 a).1 (RL, TX0, 0)).2.1 (pd_fs c0 a).2).2.1 ((vwCl.getD (pd_fs c0 a).1 (RL, TX0, 0)).2.1 (pd_fs c0 a).2).2.2.1 ∈ pd_W := by
  unfold pd_fs at h ⊢
  cases hf : pd_FL.find? (fun e => Nat.beq e.1 c0 && Nat.beq e.2.1 a) with
  | none => rw [hf] at h; exact absurd h (by decide)
  | some e =>
    have h1 := List.find?_some hf
    have h2 := List.mem_of_find?_eq_some hf
    simp only [Bool.and_eq_true] at h1
    have q1 := Nat.eq_of_beq_eq_true h1.1
    have q2 := Nat.eq_of_beq_eq_true h1.2
    have := hT.2.2.1 e h2
    rw [q1, q2] at this
    exact this
theorem pd_obj {t o : Nat} (h : pd_okv (pd_r t o)) (ht : t < 10) : o < 922 ∧ pd_el ad cA σ o (p4_tag o) = .inr (t, pd_fds ad σ o t) ∧ p4_tag o = t := by
  have e : p4_tag o = t := h.1
  exact ⟨pd_tag_lt (by omega), by rw [e]; exact pd_el_obj ad cA σ o ht, e⟩
theorem pd_ble {a b : Nat} (h : Nat.ble (a + 1) b = true) : a < b := Nat.le_of_ble_eq_true h
theorem pd_getf {a x s0 : Nat} {o : Nat} {v : pd_V} (hC : pd_Cx p R s m args c cells slots ad xs A b L mi H0) (hT : pd_TF) (hdg : decode (pd_b mi) pc = .ok (.getfield a, 3)) (hx : (pd_fs (pd_oc mi) a).1 = x) (hx11 : x < 10) (hs : (pd_fs (pd_oc mi) a).2 = s0) (hs0 : s0 < pd_nf x)
    {lsM : Array Slot} {H : Heap} {locs : List Loc} {ts : List pd_V} (hR : pd_Rl s ad D cA xs A L mi H0 ls (pd_r x o :: ts) σ lsM H locs) (hv : pd_fval ad σ o (pd_fkd x s0) = pd_cv ad v)
    (kk : W p l e R s m args below meth c H locs cells slots Q (F0 m (pc + 3) lsM ((v :: ts).map (pd_cv ad)))) : W p l e R s m args below meth c H locs cells slots Q (F0 m pc lsM ((pd_r x o :: ts).map (pd_cv ad))) := by
  obtain ⟨h1, h2, h3⟩ := pd_obj (ad := ad) (cA := cA) (σ := σ) (hR.2.2.1 _ List.mem_cons_self) hx11
  have hW := hR.2.2.2.1
  have hl := pd_fs_in (a := a) hT (c0 := pd_oc mi) (by rw [hx]; exact hx11)
  rw [hx, hs] at hl
  have he := pd_ws_at ad cA σ h1
  rw [h2] at he
  refine va_get (Ts := pd_W) (C := pd_cn x) (T := (vwCl.getD x (RL, TX0, 0)).2.1) (N := pd_nf x) (ref := pd_cn x) (ci := x) hC.1 hC.2.1 hC.2.2.2.2.1 (hT.2.2.2.2.2.2 x hx11) hC.2.2.2.1 hW.2.1 hW.1 o he (pd_cls_at hx11) s0 hs0 (hC.2.2.2.2.1 _ hl) (fun w hw => by rw [pd_cn_own x hx11 s0 hs0] at hw; exact hw) (pd_fds_at ad σ o hs0) hdg ?_
  rw [hv]
  exact kk
theorem pd_putf {a x s0 : Nat} {o : Nat} {v : pd_V} {ty : FieldType} {σ' : pd_H} (hC : pd_Cx p R s m args c cells slots ad xs A b L mi H0) (hT : pd_TF) (hdg : decode (pd_b mi) pc = .ok (.putfield a, 3)) (hx : (pd_fs (pd_oc mi) a).1 = x) (hx11 : x < 10) (hs : (pd_fs (pd_oc mi) a).2 = s0) (hs0 : s0 < pd_nf x)
    (hfin : ((vwCl.getD x (RL, TX0, 0)).2.1 s0).2.2.2 = false) (hty : pd_ty x s0 = some ty) (hn : narrow ty (pd_cv ad v) = pd_cv ad v) (hfit : fits ty (pd_cv ad v) = true)
    {lsM : Array Slot} {H : Heap} {locs : List Loc} {ts : List pd_V} (hR : pd_Rl s ad D cA xs A L mi H0 ls (v :: pd_r x o :: ts) σ lsM H locs)
    (hset : (pd_fds ad σ o x).set s0 (pd_cv ad v) = pd_fds ad σ' o x) (hoth : ∀ j, j < 922 → j ≠ o → pd_el ad cA σ' j (p4_tag j) = pd_el ad cA σ j (p4_tag j)) (hdy : p4_dy σ') (hsc : σ'.1 922 = σ.1 922 ∧ σ'.1 923 0 = σ.1 923 0)
    (kk : ∀ (H1 : Heap) (locs1 : List Loc), pd_Rl s ad D cA xs A L mi H0 ls ts σ' lsM H1 locs1 → W p l e R s m args below meth c H1 locs1 cells slots Q (F0 m (pc + 3) lsM (ts.map (pd_cv ad)))) : W p l e R s m args below meth c H locs cells slots Q (F0 m pc lsM ((v :: pd_r x o :: ts).map (pd_cv ad))) := by
  obtain ⟨h1, h2, h3⟩ := pd_obj (ad := ad) (cA := cA) (σ := σ) (hR.2.2.1 _ (List.mem_cons_of_mem _ List.mem_cons_self)) hx11
  have hW := hR.2.2.2.1
  have hE : pd_E ad A b L := hC.2.2.2.2.2.2.2.2.2.1
  have hl := pd_fs_in (a := a) hT (c0 := pd_oc mi) (by rw [hx]; exact hx11)
  rw [hx, hs] at hl
  have he := pd_ws_at ad cA σ h1
  rw [h2] at he
  refine va_put (Ts := pd_W) (C := pd_cn x) (T := (vwCl.getD x (RL, TX0, 0)).2.1) (N := pd_nf x) (ref := pd_cn x) (ci := x) hC.1 hC.2.1 hC.2.2.2.2.1 (hT.2.2.2.2.2.2 x hx11) (pd_tyk x) (pd_tyk_ok hx11) (pd_nmk_ok hx11) hC.2.2.2.1 hW.2.1 hW.1 (hE.D cA σ) hR.2.2.2.2 o he (pd_cls_at hx11) s0 hs0 (hC.2.2.2.2.1 _ hl) (fun w hw => by rw [pd_cn_own x hx11 s0 hs0] at hw; exact hw) hfin (ty := ty) hty hn hfit (by rw [pd_fds_len]; exact hs0) hdg (fun H1 locs1 hP1 hD1 hS1 => ?_)
  rw [hset, pd_ws_set (σ' := σ') h1 (by rw [h3]; exact (pd_el_obj ad cA σ' o hx11).symm) hoth] at hP1
  exact kk H1 locs1 ⟨hR.1, hR.2.1, fun w hw => hR.2.2.1 w (List.mem_cons_of_mem _ (List.mem_cons_of_mem _ hw)), ⟨hP1, hW.2.1, hdy, by rw [hsc.1]; exact hW.2.2.2.1, by rw [hsc.2]; exact hW.2.2.2.2⟩, hS1⟩
theorem pd_nb {v : Int32} (h : v = 0 ∨ v = 1) : narrow .boolean (.int v) = .int v ∧ fits .boolean (.int v) = true := by
  rcases h with rfl | rfl <;> exact ⟨rfl, rfl⟩
theorem pd_fval_upI {k i : Nat} {x : Int32} {o : Nat} {q : Nat × Nat × Nat} (h : ¬ (o = k ∧ q.1 = 0 ∧ q.2.1 = i)) : pd_fval ad (pd_upI σ k i x) o q = pd_fval ad σ o q := by
  obtain ⟨q0, q1, q2⟩ := q
  rcases q0 with _ | _ | _ | _ | q0
  · show Value.int ((if o = k then upd (σ.1 k) i x else σ.1 o) q1) = Value.int (σ.1 o q1)
    by_cases h1 : o = k
    · subst h1
      rw [if_pos rfl]
      show Value.int (if q1 = i then x else _) = _
      rw [if_neg (fun z => h ⟨rfl, rfl, z⟩)]
    · rw [if_neg h1]
  · rfl
  · rfl
  · rfl
  · rfl
theorem pd_fval_upJ {k i : Nat} {x : Int64} {o : Nat} {q : Nat × Nat × Nat} (h : ¬ (o = k ∧ q.1 = 1 ∧ q.2.1 = i)) : pd_fval ad (pd_upJ σ k i x) o q = pd_fval ad σ o q := by
  obtain ⟨q0, q1, q2⟩ := q
  rcases q0 with _ | _ | _ | _ | q0
  · rfl
  · show Value.long ((if o = k then vp_updL (σ.2.1 k) i x else σ.2.1 o) q1) = Value.long (σ.2.1 o q1)
    by_cases h1 : o = k
    · subst h1
      rw [if_pos rfl]
      show Value.long (if q1 = i then x else _) = _
      rw [if_neg (fun z => h ⟨rfl, rfl, z⟩)]
    · rw [if_neg h1]
  · rfl
  · rfl
  · rfl
theorem pd_ob_in {i : Int32} {N : Nat} (h : pd_ob i N = false) : vp_in i N := of_decide_eq_false h
theorem pd_arr {t o : Nat} (h : pd_okv (pd_r t o)) (ht : t < 25) : o < 922 ∧ p4_tag o = t := ⟨pd_tag_lt (by have e : p4_tag o = t := h.1; omega), h.1⟩
/-- behind a store into an array -/
theorem pd_stored {o : Nat} {t : Nat} {σ' : pd_H} {e2 : va_E} {lsM : Array Slot} {H H1 : Heap} {locs locs1 : List Loc} {ts st0 : List pd_V} (hR : pd_Rl s ad D cA xs A L mi H0 ls st0 σ lsM H locs) (hts : ∀ v ∈ ts, v ∈ st0) (ho : o < 922) (ht : p4_tag o = t) (he : e2 = pd_el ad cA σ' o t) (hoth : ∀ j, j < 922 → j ≠ o → pd_el ad cA σ' j (p4_tag j) = pd_el ad cA σ j (p4_tag j)) (hdy : σ'.2.2 = σ.2.2) (hsc : σ'.1 922 = σ.1 922 ∧ σ'.1 923 0 = σ.1 923 0)
    (hP1 : va_P D vwCl ((pd_ws ad cA σ).set o (ad o, e2)) H1) (hS1 : va_S A H0 H1 locs1) : pd_Rl s ad D cA xs A L mi H0 ls ts σ' lsM H1 locs1 := by
  have hW := hR.2.2.2.1
  rw [pd_ws_set (σ' := σ') ho (by rw [he, ht]) hoth] at hP1
  exact ⟨hR.1, hR.2.1, fun w hw => hR.2.2.1 w (hts w hw), ⟨hP1, hW.2.1, by unfold p4_dy; rw [hdy]; exact hW.2.2.1, by rw [hsc.1]; exact hW.2.2.2.1, by rw [hsc.2]; exact hW.2.2.2.2⟩, hS1⟩
theorem pd_sc_upI {k i : Nat} {x : Int32} (h : k < 922) : (pd_upI σ k i x).1 922 = σ.1 922 ∧ (pd_upI σ k i x).1 923 0 = σ.1 923 0 := by
  have e1 : (pd_upI σ k i x).1 922 = σ.1 922 := if_neg (by omega)
  have e2 : (pd_upI σ k i x).1 923 = σ.1 923 := if_neg (by omega)
  exact ⟨e1, by rw [e2]⟩
theorem pd_s_getfield {a x k y z : Nat} (hdg : decode (pd_b mi) pc = .ok (.getfield a, 3)) (hx : (pd_fs (pd_oc mi) a).1 = x) (hx11 : x < 10) (hs0 : (pd_fs (pd_oc mi) a).2 < pd_nf x) (hk : pd_fkd x (pd_fs (pd_oc mi) a).2 = (k, y, z)) : pd_Goal p l e R s m args below meth c cells slots Q ad D cA xs A b L mi H0 n r (mi, pc, ls, st, σ) (p4_gf mi (pc + 3) ls st σ k x y z) := by
  intro hC hT hCon hK hRt hF lsM H locs hR
  unfold p4_gf at hF
  split at hF
  · next t o ts =>
    cases h1 : Nat.beq t x with
    | false => rw [h1] at hF; cases hF
    | true =>
      rw [h1, cond_true] at hF
      have := Nat.eq_of_beq_eq_true h1
      subst this
      have hmx := pd_fk_max t hx11 _ hs0
      have hw := hR.2.2.2.1
      obtain ⟨g1, -, g3⟩ := pd_obj (ad := ad) (cA := cA) (σ := σ) (hR.2.2.1 _ List.mem_cons_self) hx11
      rw [hk] at hmx
      match k, hk, hmx, hF with
      | 0, hk, _, hF => exact pd_getf (v := pd_i (σ.1 o y)) hC hT hdg hx hx11 rfl hs0 hR (by rw [hk]; rfl) (hK _ rfl hF lsM H locs (pd_push (pd_pops hR (fun v h => List.mem_cons_of_mem _ h)) trivial))
      | 1, hk, _, hF => exact pd_getf (v := pd_j (σ.2.1 o y)) hC hT hdg hx hx11 rfl hs0 hR (by rw [hk]; rfl) (hK _ rfl hF lsM H locs (pd_push (pd_pops hR (fun v h => List.mem_cons_of_mem _ h)) trivial))
      | 2, hk, _, hF =>
        have h5 := pd_fk_rel o g1 _ (by rw [g3]; exact hs0) (by rw [g3]; exact hx11)
        rw [g3, hk] at h5
        have h6 := h5 rfl
        exact pd_getf (v := pd_r z (o + y)) hC hT hdg hx hx11 rfl hs0 hR (by rw [hk]; rfl) (hK _ rfl hF lsM H locs (pd_push (pd_pops hR (fun v h => List.mem_cons_of_mem _ h)) ⟨h6.1, Nat.lt_trans h6.2 (by decide)⟩))
      | 3, hk, _, hF =>
        have h5 := pd_fk_abs (p4_tag_20 (k := o) (by omega)) t hx11 _ hs0
        rw [hk] at h5
        have h6 := h5 rfl
        exact pd_getf (v := pd_r z (p4_bs o + y)) hC hT hdg hx hx11 rfl hs0 hR (by rw [hk]; rfl) (hK _ rfl hF lsM H locs (pd_push (pd_pops hR (fun v h => List.mem_cons_of_mem _ h)) ⟨h6.1, Nat.lt_trans h6.2 (by decide)⟩))
      | 4, hk, hmx, hF =>
        have h6 := hmx.2 rfl
        have h7 : p4_tag (σ.2.2 (p4_bs o + y)) = z := by
          have h8 : z = 2 := h6.2
          have h9 : y < 2 := h6.1
          rw [h8]
          exact hw.2.2.1 o (p4_tag_20 (by omega)) y h9
        exact pd_getf (v := pd_r z (σ.2.2 (p4_bs o + y))) hC hT hdg hx hx11 rfl hs0 hR (by rw [hk]; rfl) (hK _ rfl hF lsM H locs (pd_push (pd_pops hR (fun v h => List.mem_cons_of_mem _ h)) ⟨h7, by have h8 : z = 2 := h6.2; omega⟩))
      | k + 5, _, hmx, _ => exact absurd hmx.1 (by show ¬ k + 5 ≤ 4; omega)
  · cases hF
theorem pd_s_putfield {a x k y z : Nat} (hdg : decode (pd_b mi) pc = .ok (.putfield a, 3)) (hx : (pd_fs (pd_oc mi) a).1 = x) (hx11 : x < 10) (hs0 : (pd_fs (pd_oc mi) a).2 < pd_nf x) (hk : pd_fkd x (pd_fs (pd_oc mi) a).2 = (cond (Nat.beq k 5) 0 k, y, z)) (hfin : ((vwCl.getD x (RL, TX0, 0)).2.1 (pd_fs (pd_oc mi) a).2).2.2.2 = false)
    (hty : pd_ty x (pd_fs (pd_oc mi) a).2 = pd_pty k) (h4 : k = 4 → y ≤ 1 ∧ z = 2) : pd_Goal p l e R s m args below meth c cells slots Q ad D cA xs A b L mi H0 n r (mi, pc, ls, st, σ) (p4_pf mi (pc + 3) ls st σ k x y z) := by
  intro hC hT hCon hK hRt hF lsM H locs hR
  unfold p4_pf at hF
  split at hF
  · next v t o ts =>
    cases h1 : Nat.beq t x with
    | false => rw [h1] at hF; cases hF
    | true =>
      rw [h1, cond_true] at hF
      have := Nat.eq_of_beq_eq_true h1
      subst this
      obtain ⟨g1, -, g3⟩ := pd_obj (ad := ad) (cA := cA) (σ := σ) (hR.2.2.1 _ (List.mem_cons_of_mem _ List.mem_cons_self)) hx11
      have own := pd_fk_own t hx11 _ hs0
      split at hF
      · rw [hk] at own
        have e := own (Nat.zero_le 1)
        refine pd_putf (v := pd_i v) (σ' := pd_upI σ o y v) hC hT hdg hx hx11 rfl hs0 hfin hty rfl rfl hR (pd_fds_set hs0 ?_ ?_) (fun j _ hj => pd_el_upI ad cA σ _ hj) hR.2.2.2.1.2.2.1 (pd_sc_upI g1) (fun H1 locs1 hR1 => hK _ rfl hF lsM H1 locs1 hR1)
        · rw [hk]
          show Value.int v = Value.int ((if o = o then upd (σ.1 o) y v else σ.1 o) y)
          rw [if_pos rfl]
          show _ = Value.int (if y = y then v else _)
          rw [if_pos rfl]
        · intro s' hs' hne
          refine pd_fval_upI (fun q => hne ?_)
          have e2 := pd_fk_own t hx11 s' hs' (by rw [q.2.1]; exact Nat.zero_le 1)
          rw [← e2, q.2.2]; exact e
      · rw [hk] at own
        have e := own (Nat.zero_le 1)
        by_cases hv : v = 0 ∨ v = 1
        · rw [decide_eq_true hv] at hF
          obtain ⟨n1, n2⟩ := pd_nb hv
          refine pd_putf (v := pd_i v) (σ' := pd_upI σ o y v) hC hT hdg hx hx11 rfl hs0 hfin hty n1 n2 hR (pd_fds_set hs0 ?_ ?_) (fun j _ hj => pd_el_upI ad cA σ _ hj) hR.2.2.2.1.2.2.1 (pd_sc_upI g1) (fun H1 locs1 hR1 => hK _ rfl hF lsM H1 locs1 hR1)
          · rw [hk]
            show Value.int v = Value.int ((if o = o then upd (σ.1 o) y v else σ.1 o) y)
            rw [if_pos rfl]
            show _ = Value.int (if y = y then v else _)
            rw [if_pos rfl]
          · intro s' hs' hne
            refine pd_fval_upI (fun q => hne ?_)
            have e2 := pd_fk_own t hx11 s' hs' (by rw [q.2.1]; exact Nat.zero_le 1)
            rw [← e2, q.2.2]; exact e
        · rw [decide_eq_false hv] at hF
          cases hF
      · cases hF
  · next v t o ts =>
    cases h1 : Nat.beq t x with
    | false => rw [h1] at hF; cases hF
    | true =>
      rw [h1, cond_true] at hF
      have := Nat.eq_of_beq_eq_true h1
      subst this
      obtain ⟨g1, -, g3⟩ := pd_obj (ad := ad) (cA := cA) (σ := σ) (hR.2.2.1 _ (List.mem_cons_of_mem _ List.mem_cons_self)) hx11
      have own := pd_fk_own t hx11 _ hs0
      split at hF
      · rw [hk] at own
        have e := own (Nat.le_refl 1)
        refine pd_putf (v := pd_j v) (σ' := pd_upJ σ o y v) hC hT hdg hx hx11 rfl hs0 hfin hty rfl rfl hR (pd_fds_set hs0 ?_ ?_) (fun j _ hj => pd_el_upJ ad cA σ _ hj) hR.2.2.2.1.2.2.1 ⟨rfl, rfl⟩ (fun H1 locs1 hR1 => hK _ rfl hF lsM H1 locs1 hR1)
        · rw [hk]
          show Value.long v = Value.long ((if o = o then vp_updL (σ.2.1 o) y v else σ.2.1 o) y)
          rw [if_pos rfl]
          show _ = Value.long (if y = y then v else _)
          rw [if_pos rfl]
        · intro s' hs' hne
          refine pd_fval_upJ (fun q => hne ?_)
          have e2 := pd_fk_own t hx11 s' hs' (by rw [q.2.1]; exact Nat.le_refl 1)
          rw [← e2, q.2.2]; exact e
      · cases hF
  · next t2 o2 t o ts =>
    cases h1 : Nat.beq t x with
    | false => rw [h1] at hF; cases hF
    | true =>
      rw [h1, cond_true] at hF
      have := Nat.eq_of_beq_eq_true h1
      subst this
      cases h2 : Nat.beq t2 z with
      | false => rw [h2] at hF; cases hF
      | true =>
        rw [h2, cond_true] at hF
        have := Nat.eq_of_beq_eq_true h2
        subst this
        obtain ⟨g1, -, g3⟩ := pd_obj (ad := ad) (cA := cA) (σ := σ) (hR.2.2.1 _ (List.mem_cons_of_mem _ List.mem_cons_self)) hx11
        split at hF
        · obtain ⟨hy, hz⟩ := h4 rfl
          have hk : pd_fkd t (pd_fs (pd_oc mi) a).2 = (4, y, t2) := hk
          have h9 : t = 9 := by
            rcases pd_fk_dyn t hx11 _ hs0 with q | q
            · rw [hk] at q; exact absurd q (by show ¬ 4 ≤ 3; omega)
            · exact q
          subst h9
          have h0 := pd_tag9 o g1 g3
          have ok2 := (hR.2.2.1 _ List.mem_cons_self).1
          have hu : ∀ i, (pd_upR σ (p4_bs o + y) o2).2.2 i = if i = p4_bs o + y then o2 else σ.2.2 i := fun i => rfl
          refine pd_putf (v := pd_r t2 o2) (σ' := pd_upR σ (p4_bs o + y) o2) hC hT hdg hx hx11 rfl hs0 hfin hty rfl rfl hR (pd_fds_set hs0 ?_ ?_) (fun j hj hne => ?_) ?_ ⟨rfl, rfl⟩ (fun H1 locs1 hR1 => hK _ rfl hF lsM H1 locs1 hR1)
          · rw [hk]
            show Value.ref (ad o2) = Value.ref (ad ((pd_upR σ (p4_bs o + y) o2).2.2 (p4_bs o + y)))
            rw [hu, if_pos rfl]
          · intro s' hs' hne
            have d := pd_fk_dyn9 _ hs0 (by rw [hk]) s' hs'
            have mx := (pd_fk_max 9 hx11 s' hs').1
            rw [hk] at d
            generalize pd_fkd 9 s' = q at d mx ⊢
            obtain ⟨q0, q1, q2⟩ := q
            rcases q0 with _ | _ | _ | _ | q0
            · rfl
            · rfl
            · rfl
            · rfl
            · have mx : q0 + 4 ≤ 4 := mx
              show Value.ref (ad (if p4_bs o + q1 = p4_bs o + y then o2 else σ.2.2 (p4_bs o + q1))) = _
              rw [if_neg (fun z => hne (d (show q0 + 4 = 4 by omega) (show q1 = y by omega)))]
              rfl
          · rcases pd_tags j hj with q | q
            · rw [pd_el_obj ad cA _ j q, pd_el_obj ad cA _ j q]
              have : pd_fds ad (pd_upR σ (p4_bs o + y) o2) j (p4_tag j) = pd_fds ad σ j (p4_tag j) := by
                unfold pd_fds
                refine List.map_congr_left (fun s' hs' => ?_)
                have hs' := List.mem_range.mp hs'
                have d := pd_fk_dyn _ q s' hs'
                have mx := pd_fk_max _ q s' hs'
                have d9 : p4_tag j = 9 → p4_bs j = j := fun z => (pd_tag9 j hj z).2
                generalize pd_fkd (p4_tag j) s' = w at d mx ⊢
                obtain ⟨q0, q1, q2⟩ := w
                rcases q0 with _ | _ | _ | _ | q0
                · rfl
                · rfl
                · rfl
                · rfl
                · have z : p4_tag j = 9 := d.resolve_left (by show ¬ q0 + 4 ≤ 3; omega)
                  have e1 := d9 z
                  have e2 := h0.2
                  have m1 : q1 < 2 := (mx.2 (by have : q0 + 4 ≤ 4 := mx.1; show q0 + 4 = 4; omega)).1
                  show Value.ref (ad (if p4_bs j + q1 = p4_bs o + y then o2 else σ.2.2 (p4_bs j + q1))) = _
                  rw [if_neg (fun w => hne ?_)]
                  · rfl
                  · unfold p4_bs at e1 e2 w
                    omega
              rw [this]
            · generalize p4_tag j = t at q
              rcases (show t = 20 ∨ t = 21 ∨ t = 22 ∨ t = 23 ∨ t = 24 by omega) with rfl | rfl | rfl | rfl | rfl <;> rfl
          · have w1 := hR.2.2.2.1.2.2.1
            have ok2 : p4_tag o2 = 2 := by rw [ok2]; exact hz
            intro k' hk' y' hy'
            rw [hu]
            by_cases z : p4_bs k' + y' = p4_bs o + y
            · rw [if_pos z]; exact ok2
            · rw [if_neg z]; exact w1 k' hk' y' hy'
        · cases hF
  · cases hF
end PDW
end
section
section PDW
variable {p : Program} {l : Launch} {e : Env} {R : Room} {s : State} {m : MethodId} {args : Array Value} {below : List Frame} {meth : Method} {c : Code} {cells slots : Nat} {Q : State → Prop}
variable {ad : Nat → Nat} {D : va_G} {cA : Nat → ClassId} {xs : Nat → Int32} {A : Nat → Prop} {b L mi : Nat} {H0 : Heap}
variable {n : Nat} {r : pd_R} {pc : Nat} {ls : pd_L} {st : List pd_V} {σ : pd_H}
theorem pd_tag_huge {k : Nat} (h : 923 ≤ k) : 99 ≤ p4_tag k := by
  rcases p4_hi (k := k) (by omega) with ⟨q, _⟩ | ⟨q, _⟩ | ⟨q, _⟩ | ⟨_, q⟩ <;> omega
theorem pd_i32_toInt {a : Int} (h : -2147483648 ≤ a ∧ a ≤ 2147483647) : (Int32.ofInt a).toInt = a := by
  rw [Int32.toInt_ofInt_of_le] <;> omega
theorem pd_tb_go {x : Int32} {k : Nat} {offs : List Int} {tb : List (Int32 × Nat)} {lo : Int} (ht : pd_tb pc lo offs tb = true) (hF : pd_sw (p4_ex pd_cd n) x tb (mi, k, ls, st, σ) = some r) :
    (∃ (j : Nat) (off : Int) (tgt : Nat), offs[j]? = some off ∧ x.toInt = lo + j ∧ (pc : Int) + off = tgt ∧ p4_ex pd_cd n (mi, tgt, ls, st, σ) = some r) ∨ ((x.toInt < lo ∨ lo + offs.length - 1 < x.toInt) ∧ p4_ex pd_cd n (mi, k, ls, st, σ) = some r) := by
  induction offs generalizing lo tb with
  | nil =>
    cases tb with
    | nil => exact Or.inr ⟨by simp only [List.length_nil]; omega, hF⟩
    | cons q t => simp [pd_tb] at ht
  | cons o rest ih =>
    cases tb with
    | nil => simp [pd_tb] at ht
    | cons q t =>
      simp only [pd_tb, Bool.and_eq_true, decide_eq_true_eq] at ht
      obtain ⟨⟨⟨h1, h2⟩, h3⟩, h4⟩ := ht
      unfold pd_sw at hF
      by_cases hx : x = q.1
      · rw [decide_eq_true hx] at hF
        exact Or.inl ⟨0, o, q.2, rfl, by rw [hx, h1, pd_i32_toInt h3]; simp, h2, hF⟩
      · rw [decide_eq_false hx] at hF
        have hne : x.toInt ≠ lo := fun z => hx (by rw [h1, ← z, Int32.ofInt_toInt])
        rcases ih h4 hF with ⟨j, off, tgt, a1, a2, a3, a4⟩ | ⟨a1, a2⟩
        · exact Or.inl ⟨j + 1, off, tgt, a1, by rw [a2]; push_cast; omega, a3, a4⟩
        · exact Or.inr ⟨by simp only [List.length_cons]; push_cast; omega, a2⟩
theorem pd_lk_go {x : Int32} {k : Nat} {ps : List (Int × Int)} {tb : List (Int32 × Nat)} {d : Int} (hd : (pc : Int) + d = k) (ht : pd_lk pc ps tb = true) (hF : pd_sw (p4_ex pd_cd n) x tb (mi, k, ls, st, σ) = some r) :
    ∃ tgt : Nat, (pc : Int) + Op.lookupswitch.offset ps d x.toInt = tgt ∧ p4_ex pd_cd n (mi, tgt, ls, st, σ) = some r := by
  induction ps generalizing tb with
  | nil =>
    cases tb with
    | nil => exact ⟨k, hd, hF⟩
    | cons q t => simp [pd_lk] at ht
  | cons o rest ih =>
    cases tb with
    | nil => simp [pd_lk] at ht
    | cons q t =>
      simp only [pd_lk, Bool.and_eq_true, decide_eq_true_eq] at ht
      obtain ⟨⟨⟨h1, h2⟩, h3⟩, h4⟩ := ht
      unfold pd_sw at hF
      obtain ⟨a, b⟩ := o
      rw [Op.lookupswitch.offset_cons]
      by_cases hx : x = q.1
      · rw [decide_eq_true hx] at hF
        rw [if_pos (by rw [hx, h1, pd_i32_toInt h3])]
        exact ⟨q.2, h2, hF⟩
      · rw [decide_eq_false hx] at hF
        have hne : x.toInt ≠ a := fun z => hx (by rw [h1, ← z, Int32.ofInt_toInt])
        rw [if_neg (fun z => hne z.symm)]
        exact ih h4 hF
theorem pd_s_table {d lo hi : Int} {offs : Array Int} {len k : Nat} {tb : List (Int32 × Nat)} {x : Int32} (hdg : decode (pd_b mi) pc = .ok (.tableswitch d lo hi offs, len)) (hd : (pc : Int) + d = (k : Int)) (ht : pd_tb pc lo offs.toList tb = true) (hh : hi = lo + offs.size - 1) : pd_Goal p l e R s m args below meth c cells slots Q ad D cA xs A b L mi H0 n r (mi, pc, ls, pd_i x :: st, σ) (.inr (.inr (.inl (x, tb, (mi, k, ls, st, σ))))) := by
  intro hC hT hCon hK hRt hF lsM H locs hR
  have hR' := pd_pops (st' := st) hR (fun v h => List.mem_cons_of_mem _ h)
  rcases pd_tb_go ht hF with ⟨j, off, tgt, a1, a2, a3, a4⟩ | ⟨a1, a2⟩
  · have hj : j < offs.size := by
      have := (List.getElem?_eq_some_iff.mp a1).1
      simpa using this
    refine lv_tableIn hC.1 hC.2.1 hdg (by omega) (by omega) (off := off) ?_ a3 (hK _ rfl a4 lsM H locs hR')
    rw [show (x.toInt - lo).toNat = j by omega, ← Array.getElem?_toList]
    exact a1
  · refine lv_tableOut hC.1 hC.2.1 hdg ?_ hd (hK _ rfl a2 lsM H locs hR')
    rw [Array.length_toList] at a1
    rw [hh]
    exact a1
theorem pd_s_lookup {d : Int} {ps : Array (Int × Int)} {len k : Nat} {tb : List (Int32 × Nat)} {x : Int32} (hdg : decode (pd_b mi) pc = .ok (.lookupswitch d ps, len)) (hd : (pc : Int) + d = (k : Int)) (ht : pd_lk pc ps.toList tb = true) (hp : (ps.toList.zip (ps.toList.drop 1)).all (fun q => decide (q.1.1 < q.2.1)) = true) : pd_Goal p l e R s m args below meth c cells slots Q ad D cA xs A b L mi H0 n r (mi, pc, ls, pd_i x :: st, σ) (.inr (.inr (.inl (x, tb, (mi, k, ls, st, σ))))) := by
  intro hC hT hCon hK hRt hF lsM H locs hR
  have hR' := pd_pops (st' := st) hR (fun v h => List.mem_cons_of_mem _ h)
  obtain ⟨tgt, a1, a2⟩ := pd_lk_go hd ht hF
  exact lv_lookup hC.1 hC.2.1 hdg hp rfl a1 (hK _ rfl a2 lsM H locs hR')
theorem pd_s_iaload (hdg : decode (pd_b mi) pc = .ok (.iaload, 1)) : pd_Goal p l e R s m args below meth c cells slots Q ad D cA xs A b L mi H0 n r (mi, pc, ls, st, σ) (p4_ald mi (pc + 1) ls st σ) := by
  intro hC hT hCon hK hRt hF lsM H locs hR
  unfold p4_ald at hF
  have hW := hR.2.2.2.1
  split at hF
  · next i t o ts =>
    have ok := hR.2.2.1 _ (List.mem_cons_of_mem _ List.mem_cons_self)
    split at hF
    · obtain ⟨g1, g2⟩ := pd_arr ok (by decide)
      cases h1 : pd_ob i (p4_len o) with
      | true => rw [h1] at hF; cases hF
      | false =>
        rw [h1] at hF
        have he := pd_ws_at ad cA σ g1
        rw [g2] at he
        exact va_iald hC.1 hC.2.1 hW.2.1 hW.1 o 0 he rfl (pd_ob_in h1) hdg (hK _ rfl hF lsM H locs (pd_push (pd_pops hR (fun v h => List.mem_cons_of_mem _ (List.mem_cons_of_mem _ h))) trivial))
    · have hb0 : ad o = b := by rw [pd_tag_30 ok.1]; exact hC.2.2.2.2.2.2.2.2.2.1.2.2.1
      cases h1 : pd_ob i (σ.1 923 0).toNatClampNeg with
      | true => rw [h1] at hF; cases hF
      | false =>
        rw [h1] at hF
        have hL : (σ.1 923 0).toNatClampNeg = L := by rw [hW.2.2.2.2]; exact nI_clamp hC.2.2.2.2.2.2.2.2.2.1.2.2.2.2
        rw [hL] at h1
        have hxs : σ.1 922 = xs := hW.2.2.2.1
        rw [hxs] at hF
        have k1 := hK _ rfl hF lsM H locs (pd_push (pd_pops hR (fun v h => List.mem_cons_of_mem _ (List.mem_cons_of_mem _ h))) trivial)
        show W p l e R s m args below meth c H locs cells slots Q (F0 m pc lsM (.int i :: .ref (ad o) :: ts.map (pd_cv ad)))
        rw [hb0]
        exact va_sld hC.1 hC.2.1 hC.2.2.2.2.2.2.2.2.2.2.1 hC.2.2.2.2.2.2.2.2.2.2.2.1 hC.2.2.2.2.2.2.2.2.2.1.2.2.2.1 hR.2.2.2.2 (pd_ob_in h1) hdg k1
    · cases hF
  · cases hF
theorem pd_s_baload (hdg : decode (pd_b mi) pc = .ok (.baload, 1)) : pd_Goal p l e R s m args below meth c cells slots Q ad D cA xs A b L mi H0 n r (mi, pc, ls, st, σ) (p4_bld mi (pc + 1) ls st σ) := by
  intro hC hT hCon hK hRt hF lsM H locs hR
  unfold p4_bld at hF
  have hW := hR.2.2.2.1
  split at hF
  · next i t o ts =>
    have ok := hR.2.2.1 _ (List.mem_cons_of_mem _ List.mem_cons_self)
    split at hF
    · obtain ⟨g1, g2⟩ := pd_arr ok (by decide)
      cases h1 : pd_ob i (p4_len o) with
      | true => rw [h1] at hF; cases hF
      | false =>
        rw [h1] at hF
        have he := pd_ws_at ad cA σ g1
        rw [g2] at he
        exact va_zald hC.1 hC.2.1 hW.2.1 hW.1 o 2 he rfl (pd_ob_in h1) hdg (hK _ rfl hF lsM H locs (pd_push (pd_pops hR (fun v h => List.mem_cons_of_mem _ (List.mem_cons_of_mem _ h))) trivial))
    · cases hF
  · cases hF
theorem pd_s_laload (hdg : decode (pd_b mi) pc = .ok (.laload, 1)) : pd_Goal p l e R s m args below meth c cells slots Q ad D cA xs A b L mi H0 n r (mi, pc, ls, st, σ) (p4_lld mi (pc + 1) ls st σ) := by
  intro hC hT hCon hK hRt hF lsM H locs hR
  unfold p4_lld at hF
  have hW := hR.2.2.2.1
  split at hF
  · next i t o ts =>
    have ok := hR.2.2.1 _ (List.mem_cons_of_mem _ List.mem_cons_self)
    split at hF
    · obtain ⟨g1, g2⟩ := pd_arr ok (by decide)
      cases h1 : pd_ob i (p4_len o) with
      | true => rw [h1] at hF; cases hF
      | false =>
        rw [h1] at hF
        have he := pd_ws_at ad cA σ g1
        rw [g2] at he
        exact va_lald hC.1 hC.2.1 hW.2.1 hW.1 o 1 he rfl (pd_ob_in h1) hdg (hK _ rfl hF lsM H locs (pd_push (pd_pops hR (fun v h => List.mem_cons_of_mem _ (List.mem_cons_of_mem _ h))) trivial))
    · cases hF
  · cases hF
theorem pd_s_aaload (hdg : decode (pd_b mi) pc = .ok (.aaload, 1)) : pd_Goal p l e R s m args below meth c cells slots Q ad D cA xs A b L mi H0 n r (mi, pc, ls, st, σ) (p4_qld mi (pc + 1) ls st σ) := by
  intro hC hT hCon hK hRt hF lsM H locs hR
  unfold p4_qld at hF
  have hW := hR.2.2.2.1
  split at hF
  · next i t o ts =>
    have ok := hR.2.2.1 _ (List.mem_cons_of_mem _ List.mem_cons_self)
    split at hF
    · obtain ⟨g1, g2⟩ := pd_arr ok (by decide)
      cases h1 : pd_ob i (p4_len o) with
      | true => rw [h1] at hF; cases hF
      | false =>
        rw [h1] at hF
        have he := pd_ws_at ad cA σ g1
        rw [g2] at he
        have hi : i.toNatClampNeg < p4_len o := Nat.not_le.mp fun q => pd_ob_in h1 (Or.inr q)
        rw [pd_tag23 o g1 g2] at hi
        exact va_aldq hC.1 hC.2.1 hW.2.1 hW.1 o 3 he rfl (pd_ob_in h1) hdg (hK _ rfl hF lsM H locs (pd_push (pd_pops hR (fun v h => List.mem_cons_of_mem _ (List.mem_cons_of_mem _ h))) ⟨pd_tag_chg (p4_tag_22 (by omega) (by omega)) _ hi, by decide⟩))
    · obtain ⟨g1, g2⟩ := pd_arr ok (by decide)
      cases h1 : pd_ob i (p4_len o) with
      | true => rw [h1] at hF; cases hF
      | false =>
        rw [h1] at hF
        have he := pd_ws_at ad cA σ g1
        rw [g2] at he
        have hi : i.toNatClampNeg < p4_len o := Nat.not_le.mp fun q => pd_ob_in h1 (Or.inr q)
        rw [pd_tag24 o g1 g2] at hi
        exact va_aldq hC.1 hC.2.1 hW.2.1 hW.1 o 4 he rfl (pd_ob_in h1) hdg (hK _ rfl hF lsM H locs (pd_push (pd_pops hR (fun v h => List.mem_cons_of_mem _ (List.mem_cons_of_mem _ h))) ⟨pd_tag_seq (p4_tag_22 (by omega) (by omega)) _ hi, by decide⟩))
    · cases hF
  · cases hF
theorem pd_s_iastore (hdg : decode (pd_b mi) pc = .ok (.iastore, 1)) : pd_Goal p l e R s m args below meth c cells slots Q ad D cA xs A b L mi H0 n r (mi, pc, ls, st, σ) (p4_ast mi (pc + 1) ls st σ) := by
  intro hC hT hCon hK hRt hF lsM H locs hR
  unfold p4_ast at hF
  have hW := hR.2.2.2.1
  split at hF
  · next v i t o ts =>
    have ok := hR.2.2.1 _ (List.mem_cons_of_mem _ (List.mem_cons_of_mem _ List.mem_cons_self))
    split at hF
    · obtain ⟨g1, g2⟩ := pd_arr ok (by decide)
      cases h1 : pd_ob i (p4_len o) with
      | true => rw [h1] at hF; cases hF
      | false =>
        rw [h1] at hF
        have he := pd_ws_at ad cA σ g1
        rw [g2] at he
        have hE : pd_E ad A b L := hC.2.2.2.2.2.2.2.2.2.1
        refine va_iast hC.1 hC.2.1 hW.2.1 hW.1 (hE.D cA σ) hR.2.2.2.2 o 0 he rfl (pd_ob_in h1) hdg (fun H1 locs1 hP1 hD1 hS1 => ?_)
        refine hK _ rfl hF lsM H1 locs1 (pd_stored (σ' := pd_upI σ o i.toNatClampNeg v) hR (fun w h => List.mem_cons_of_mem _ (List.mem_cons_of_mem _ (List.mem_cons_of_mem _ h))) g1 g2 ?_ (fun j _ hj => pd_el_upI ad cA σ _ hj) rfl (pd_sc_upI g1) hP1 hS1)
        show _ = pd_el ad cA (pd_upI σ o i.toNatClampNeg v) o 20
        show (_ : va_E) = .inl (cA 0, p4_len o, .inl (if o = o then upd (σ.1 o) i.toNatClampNeg v else σ.1 o))
        rw [if_pos rfl]
    · cases hF
  · cases hF
theorem pd_s_bastore (hdg : decode (pd_b mi) pc = .ok (.bastore, 1)) : pd_Goal p l e R s m args below meth c cells slots Q ad D cA xs A b L mi H0 n r (mi, pc, ls, st, σ) (p4_bst mi (pc + 1) ls st σ) := by
  intro hC hT hCon hK hRt hF lsM H locs hR
  unfold p4_bst at hF
  have hW := hR.2.2.2.1
  split at hF
  · next v i t o ts =>
    have ok := hR.2.2.1 _ (List.mem_cons_of_mem _ (List.mem_cons_of_mem _ List.mem_cons_self))
    split at hF
    · obtain ⟨g1, g2⟩ := pd_arr ok (by decide)
      cases h1 : pd_ob i (p4_len o) with
      | true => rw [h1] at hF; cases hF
      | false =>
        rw [h1] at hF
        have he := pd_ws_at ad cA σ g1
        rw [g2] at he
        have hE : pd_E ad A b L := hC.2.2.2.2.2.2.2.2.2.1
        refine va_zast hC.1 hC.2.1 hW.2.1 hW.1 (hE.D cA σ) hR.2.2.2.2 o 2 he rfl (pd_ob_in h1) hdg (fun H1 locs1 hP1 hD1 hS1 => ?_)
        refine hK _ rfl hF lsM H1 locs1 (pd_stored (σ' := pd_upI σ o i.toNatClampNeg (vp_nar .boolean v)) hR (fun w h => List.mem_cons_of_mem _ (List.mem_cons_of_mem _ (List.mem_cons_of_mem _ h))) g1 g2 ?_ (fun j _ hj => pd_el_upI ad cA σ _ hj) rfl (pd_sc_upI g1) hP1 hS1)
        show _ = pd_el ad cA (pd_upI σ o i.toNatClampNeg (vp_nar .boolean v)) o 22
        show (_ : va_E) = .inl (cA 2, p4_len o, .inl (if o = o then upd (σ.1 o) i.toNatClampNeg (vp_nar .boolean v) else σ.1 o))
        rw [if_pos rfl]
    · cases hF
  · cases hF
theorem pd_s_lastore (hdg : decode (pd_b mi) pc = .ok (.lastore, 1)) : pd_Goal p l e R s m args below meth c cells slots Q ad D cA xs A b L mi H0 n r (mi, pc, ls, st, σ) (p4_lst mi (pc + 1) ls st σ) := by
  intro hC hT hCon hK hRt hF lsM H locs hR
  unfold p4_lst at hF
  have hW := hR.2.2.2.1
  split at hF
  · next v i t o ts =>
    have ok := hR.2.2.1 _ (List.mem_cons_of_mem _ (List.mem_cons_of_mem _ List.mem_cons_self))
    split at hF
    · obtain ⟨g1, g2⟩ := pd_arr ok (by decide)
      cases h1 : pd_ob i (p4_len o) with
      | true => rw [h1] at hF; cases hF
      | false =>
        rw [h1] at hF
        have he := pd_ws_at ad cA σ g1
        rw [g2] at he
        have hE : pd_E ad A b L := hC.2.2.2.2.2.2.2.2.2.1
        refine va_last hC.1 hC.2.1 hW.2.1 hW.1 (hE.D cA σ) hR.2.2.2.2 o 1 he rfl (pd_ob_in h1) hdg (fun H1 locs1 hP1 hD1 hS1 => ?_)
        refine hK _ rfl hF lsM H1 locs1 (pd_stored (σ' := pd_upJ σ o i.toNatClampNeg v) hR (fun w h => List.mem_cons_of_mem _ (List.mem_cons_of_mem _ (List.mem_cons_of_mem _ h))) g1 g2 ?_ (fun j _ hj => pd_el_upJ ad cA σ _ hj) rfl (⟨rfl, rfl⟩) hP1 hS1)
        show _ = pd_el ad cA (pd_upJ σ o i.toNatClampNeg v) o 21
        show (_ : va_E) = .inl (cA 1, p4_len o, .inr (.inl (if o = o then vp_updL (σ.2.1 o) i.toNatClampNeg v else σ.2.1 o)))
        rw [if_pos rfl]
    · cases hF
  · cases hF
theorem pd_s_arraylength (hdg : decode (pd_b mi) pc = .ok (.arraylength, 1)) : pd_Goal p l e R s m args below meth c cells slots Q ad D cA xs A b L mi H0 n r (mi, pc, ls, st, σ) (p4_aln mi (pc + 1) ls st σ) := by
  intro hC hT hCon hK hRt hF lsM H locs hR
  unfold p4_aln at hF
  have hW := hR.2.2.2.1
  split at hF
  · next t o ts =>
    have ok := hR.2.2.1 _ List.mem_cons_self
    split at hF
    · have hb0 : ad o = b := by rw [pd_tag_30 ok.1]; exact hC.2.2.2.2.2.2.2.2.2.1.2.2.1
      have hL : σ.1 923 0 = Int32.ofNat L := hW.2.2.2.2
      rw [hL] at hF
      have k1 := hK _ rfl hF lsM H locs (pd_push (pd_pops hR (fun v h => List.mem_cons_of_mem _ h)) trivial)
      show W p l e R s m args below meth c H locs cells slots Q (F0 m pc lsM (.ref (ad o) :: ts.map (pd_cv ad)))
      rw [hb0]
      exact va_slen hC.1 hC.2.1 hC.2.2.2.2.2.2.2.2.2.2.1 hC.2.2.2.2.2.2.2.2.2.2.2.1 hC.2.2.2.2.2.2.2.2.2.1.2.2.2.1 hR.2.2.2.2 hdg k1
    · next n30 =>
      cases h1 : Nat.ble 20 t with
      | false => rw [h1] at hF; cases hF
      | true =>
        rw [h1, cond_true] at hF
        have h20 := Nat.le_of_ble_eq_true h1
        have ht : p4_tag o = t := ok.1
        have g1 : o < 922 := by
          rcases Nat.lt_or_ge o 922 with q | q
          · exact q
          · exfalso
            have b1 := pd_tag_big q
            have ht40 : t < 40 := ok.2
            rcases Nat.lt_or_ge o 923 with q2 | q2
            · exact n30 (by rw [← ht, show o = 922 by omega]; rfl)
            · exact absurd (pd_tag_huge q2) (by rw [ht]; omega)
        have he := pd_ws_at ad cA σ g1
        rw [ht] at he
        have h25 : t < 25 := by rcases pd_tags o g1 with q | q <;> omega
        have k1 := hK _ rfl hF lsM H locs (pd_push (pd_pops hR (fun v h => List.mem_cons_of_mem _ h)) trivial)
        rcases (show t = 20 ∨ t = 21 ∨ t = 22 ∨ t = 23 ∨ t = 24 by omega) with rfl | rfl | rfl | rfl | rfl
        · exact va_alen hC.1 hC.2.1 hW.2.1 hW.1 o 0 he rfl rfl hdg k1
        · exact va_alen hC.1 hC.2.1 hW.2.1 hW.1 o 1 he rfl rfl hdg k1
        · exact va_alen hC.1 hC.2.1 hW.2.1 hW.1 o 2 he rfl rfl hdg k1
        · exact va_alen hC.1 hC.2.1 hW.2.1 hW.1 o 3 he rfl rfl hdg k1
        · exact va_alen hC.1 hC.2.1 hW.2.1 hW.1 o 4 he rfl rfl hdg k1
  · cases hF
end PDW
end
section
section PDW
variable {p : Program} {l : Launch} {e : Env} {R : Room} {s : State} {m : MethodId} {args : Array Value} {below : List Frame} {meth : Method} {c : Code} {cells slots : Nat} {Q : State → Prop}
variable {ad : Nat → Nat} {D : va_G} {cA : Nat → ClassId} {xs : Nat → Int32} {A : Nat → Prop} {b L mi : Nat} {H0 : Heap}
variable {n : Nat} {r : pd_R} {pc : Nat} {ls : pd_L} {st : List pd_V} {σ : pd_H}
theorem pd_cats_app (a b : List pd_V) : pd_cats (a ++ b) = pd_cats a + pd_cats b := by
  induction a with
  | nil => simp [pd_cats]
  | cons v r ih => simp only [List.cons_append, pd_cats, ih]; omega
theorem pd_cats_rev (a : List pd_V) : pd_cats a.reverse = pd_cats a := by
  induction a with
  | nil => rfl
  | cons v r ih => rw [List.reverse_cons, pd_cats_app, ih]; simp only [pd_cats]; omega
theorem pd_cl_out {h : pd_C → Option pd_R} {r0 : pd_R} {z t : Nat} {ts : List pd_V} (H : pd_cl h (some r0) z t (mi, pc, ls, ts, σ) = some r) : h (mi, pc, ls, r0.2.toList ++ ts, r0.1) = some r := by
  unfold pd_cl at H
  dsimp only at H
  split at H
  · obtain ⟨σ', e, k⟩ := pd_bV_some H
    cases e; exact k
  · obtain ⟨σ', x, e, k⟩ := pd_bI_some H
    cases e; exact k
  · obtain ⟨σ', x, e, k⟩ := pd_bJ_some H
    cases e; exact k
  · obtain ⟨σ', x, e, k⟩ := pd_bR_some H
    cases e; exact k
theorem pd_cl_none {h : pd_C → Option pd_R} {z t : Nat} {cf : pd_C} : pd_cl h none z t cf = none := by
  obtain ⟨m, pc, ls, st, σ⟩ := cf
  unfold pd_cl
  dsimp only
  split <;> rfl
theorem pd_back {lsM : Array Slot} {H : Heap} {locs : List Loc} {st0 : List Value} {ts : List pd_V} {r0 : pd_R} {a : Array Value}
    (hR : pd_Rl s ad D cA xs A L mi H0 ls ts σ lsM H locs)
    (hr : va_Run p l e R s m args below meth c H locs cells slots 0 0 (F0 m pc lsM st0) (ts.map (pd_cv ad)) (pd_Qc ad D cA xs A L r0 a) A)
    (k : pd_K p l e R s m args below meth c cells slots Q ad D cA xs A L mi H0 (mi, pc + 3, ls, r0.2.toList ++ ts, r0.1)) : W p l e R s m args below meth c H locs cells slots Q (F0 m pc lsM st0) := by
  intro T hT X
  obtain ⟨v, st₀, t, T', Lc, h0, X', hL, e1, e2, ⟨hq1, hq2, hq3, hq4⟩, st1⟩ := hr T hT X
  have hv : v = r0.2.map (pd_cv ad) := by
    injection hq1
  subst hv
  obtain ⟨hz, hk⟩ := hq4
  rw [h0] at hz hk
  have hvm : t.vm.Alike s.vm := by rw [← e2]; exact X'.warmed.alike.symm
  have hS := hR.2.2.2.2
  have hA1 : va_S A H0 T'.heap (locs ++ Lc) := ⟨Nat.le_trans hS.1 (by rw [e1]; exact hz), fun q h1 h2 => by rw [e1, hk q (Nat.lt_of_lt_of_le h1 hS.1) h2]; exact hS.2.1 q h1 h2, fun q hq => by
      rcases List.mem_append.mp hq with h | h
      · exact hS.2.2 q h
      · exact hL q h⟩
  have hok : ∀ w ∈ r0.2.toList ++ ts, pd_okv w := fun w hw => by
    rcases List.mem_append.mp hw with h | h
    · exact hq2 w (Option.mem_toList.mp h)
    · exact hR.2.2.1 w h
  obtain ⟨t2, a1, b1⟩ := k lsM T'.heap (locs ++ Lc) ⟨hR.1, hR.2.1, hok, by rw [e1]; exact pd_Wd.moved hvm hq3, hA1⟩ T' rfl X'
  refine ⟨t2, st1 t2 ?_, b1⟩
  have e3 : (r0.2.toList ++ ts).map (pd_cv ad) = (r0.2.map (pd_cv ad)).toList ++ ts.map (pd_cv ad) := by
    cases r0.2 <;> simp
  have a1 : Steps p.tables e below (T'.setTop (F0 m (pc + 3) lsM ((r0.2.toList ++ ts).map (pd_cv ad)))) t2 := a1
  rw [e3] at a1
  exact a1
theorem pd_pre {lsM : Array Slot} {H : Heap} {locs : List Loc} {ts av : List pd_V} (hC : pd_Cx p R s m args c cells slots ad xs A b L mi H0) (hR : pd_Rl s ad D cA xs A L mi H0 ls ts σ lsM H locs) (U : State) (hU : U.heap = H) (hW : s.WarmedH U.vm) : pd_Pc ad D cA xs b L av σ (av.map (pd_cv ad)).toArray U := by
  have hS := hR.2.2.2.2
  have hX := hC.2.2.2.2.2.2.2.2.2.2.1
  have hbl := hC.2.2.2.2.2.2.2.2.2.2.2.1
  have hbA := hC.2.2.2.2.2.2.2.2.2.1.2.2.2.1
  refine ⟨rfl, by rw [hU]; exact pd_Wd.moved hW.alike hR.2.2.2.1, ?_, ?_, pd_NW.warm hW hC.2.2.2.2.2.2.2.2.2.2.2.2.2⟩
  · rw [hU]
    exact va_X.moved hW.alike (hX.kept (hS.2.1 b hbl hbA))
  · rw [hU]
    exact Nat.lt_of_lt_of_le hbl hS.1
theorem pd_wd_good {k : Nat} (h : pd_CW k) : GoodIn pd_W (pd_wd k) := by
  have g : ∀ w ∈ pd_W, w ∈ pd_W ∧ ((w.onTables && w.keeps) = true ∨ ∃ ty, w = .arrayClass ty) := fun w hw => ⟨hw, good_of_word (List.mem_filter.mp hw).2⟩
  intro w hw
  rcases List.mem_cons.mp hw with rfl | hw
  · exact g _ h.1
  · exact g _ hw
theorem pd_len_of {k : Nat} (h : pd_CW k) : ∀ sig, parseMethodDescriptor (pd_y k).desc = some sig → pd_pn k = sig.parameters.length := by
  intro sig hs
  have h2 := h.2.2.2.2.2.2.2
  rw [hs] at h2
  exact (Option.some.inj h2).symm
theorem pd_s_static {a k x y z : Nat} (hdg : decode (pd_b mi) pc = .ok (.invokestatic a, 3)) (hk : k < 89) (hst : (pd_mt k).1 = 1) (hx : x = pd_pn k) (hy : y = pd_ml k) (hfr : pd_fr k + 1 ≤ pd_fr mi) (hlo : 8 + (pd_ml k + 11) + pd_lo k ≤ pd_lo mi)
    (hl : Jvm.Cond.methodLink (pd_cn (pd_oc mi)) a (pd_y k) ∈ pd_W ∨ ∃ e ∈ pd_CL, e.1 = pd_oc mi ∧ e.2.1 = a ∧ e.2.2.1 = k ∧ e.2.2.2.1 = 1) : pd_Goal p l e R s m args below meth c cells slots Q ad D cA xs A b L mi H0 n r (mi, pc, ls, st, σ) (pd_ca mi (pc + 3) ls st σ k x y z) := by
  intro hC hT hCon hK hRt hF lsM H locs hR
  have hR : pd_Rl s ad D cA xs A L mi H0 ls st σ lsM H locs := hR
  unfold pd_ca at hF
  cases b1 : Nat.ble x st.length with
  | false => rw [b1] at hF; cases hF
  | true =>
  rw [b1, cond_true] at hF
  cases b2 : Nat.ble (pd_cats (st.drop x)) 8 with
  | false => rw [b2] at hF; cases hF
  | true =>
  rw [b2, cond_true] at hF
  cases b3 : Nat.ble (pd_cats (st.take x)) y with
  | false => rw [b3] at hF; cases hF
  | true =>
  rw [b3, cond_true] at hF
  have hF : pd_cl (p4_ex pd_cd n) (p4_ex pd_cd n (k, 0, pd_en (st.take x).reverse y, [], σ)) (z % 8) (z / 8) (mi, pc + 3, ls, st.drop x, σ) = some r := hF
  cases hr0 : p4_ex pd_cd n (k, 0, pd_en (st.take x).reverse y, [], σ) with
  | none => rw [hr0, pd_cl_none] at hF; cases hF
  | some r0 =>
  rw [hr0] at hF
  have hF2 := pd_cl_out hF
  have W0 := hT.2.1 k hk
  have hts := hC.2.2.2.2.1
  have hcats : pd_cats (st.take x).reverse ≤ pd_ml k := by
    rw [← hy, pd_cats_rev]; exact Nat.le_of_ble_eq_true b3
  subst hy
  have hM := hCon k (st.take x).reverse σ r0 hk (fun v hv => hR.2.2.1 v (List.mem_of_mem_take (List.mem_reverse.mp hv))) hcats hr0
  have hR' := pd_pops (st' := st.drop x) hR (fun v h => List.mem_of_mem_drop h)
  have hsp : st.map (pd_cv ad) = ((st.take x).reverse.map (pd_cv ad)).reverse ++ (st.drop x).map (pd_cv ad) := by
    rw [← List.map_reverse, List.reverse_reverse, ← List.map_append, List.take_append_drop]
  have hn : ((st.take x).reverse.map (pd_cv ad)).length = pd_pn k := by
    rw [List.length_map, List.length_reverse, List.length_take, ← hx]
    exact Nat.min_eq_left (Nat.le_of_ble_eq_true b1)
  have hroom : 2 * (F0 m pc lsM (st.map (pd_cv ad))).monitorRoom + (((st.drop x).map (pd_cv ad)).map fun v => v.category).sum ≤ 8 := lv_room (by rw [pd_cat_sum]; exact Nat.le_of_ble_eq_true b2)
  have hfit : cells + 0 ≤ R.cells ∧ slots + 0 ≤ R.slots := ⟨hC.2.2.2.2.2.2.2.1, hC.2.2.2.2.2.2.2.2.1⟩
  have hRm : (pd_rm k).frames + 1 ≤ R.frames ∧ 8 + (pd_ml k + 11) + (pd_rm k).locals ≤ R.locals := ⟨Nat.le_trans hfr hC.2.2.2.2.2.1, Nat.le_trans hlo hC.2.2.2.2.2.2.1⟩
  have hstat : (Jvm.Cond.static (pd_y k)).before args s = true := hts _ (by have h9 := W0.2.1; rw [hst] at h9; exact h9)
  have hini : (Jvm.Cond.initialized (pd_y k).cls).before args s = true := hts _ W0.2.2.2.1
  have hpre : PreS s H (pd_Pc ad D cA xs b L (st.take x).reverse σ) ((st.take x).reverse.map (pd_cv ad)) := ⟨pd_Pc_blind, fun U hU hW => pd_pre hC hR' U hU hW⟩
  rcases hl with hl | hl
  · exact pd_back hR' (va_runS (Ts := pd_W) (nL := pd_ml mi) ⟨hC.1, hC.2.1, hC.2.2.1, hC.2.2.2.1, hts⟩ hM ⟨callB_of (pd_pn k) hts (pd_wd_good W0) rfl rfl rfl hini (hts _ hl) ⟨W0.2.2.2.2.2.2.1.1, W0.2.2.2.2.2.2.1.2, W0.2.2.2.2.2.2.2⟩ hRm, hstat⟩ hpre rfl hn hR.1.1 hsp hroom hdg hfit) (hK _ rfl hF2)
  · obtain ⟨e9, he9, q1, q2, q3, q4⟩ := hl
    have hlk := va_Nw.use (A := args) rfl (hC.2.2.2.2.2.2.2.2.2.2.2.2.2 e9 he9 q4)
    rw [q1, q2, q3] at hlk
    exact pd_back hR' (va_runSN (Ts := pd_W) (nL := pd_ml mi) (own := pd_cn (pd_oc mi)) (host := RX9) ⟨hC.1, hC.2.1, hC.2.2.1, hC.2.2.2.1, hts⟩ hM ⟨⟨⟨rfl, rfl, hRm.1, hRm.2, pay_in hts (pd_wd_good W0), List.mem_cons_self⟩, hts _ W0.1, hini, W0.2.2.2.2.2.2.1, pd_len_of W0, hlk⟩, hstat, trivial⟩ hpre rfl hn hR.1.1 hsp hroom hdg hfit) (hK _ rfl hF2)
theorem pd_s_virtual {a k x y z : Nat} (hdg : decode (pd_b mi) pc = .ok (.invokevirtual a, 3)) (hk : k < 89) (hst : (pd_mt k).1 = 0) (hx : x = pd_pn k + 1) (hy : y = pd_ml k) (hz : z / 256 = pd_oc k) (h11 : pd_oc k < 10) (hfr : pd_fr k + 1 ≤ pd_fr mi) (hlo : 8 + (pd_ml k + 11) + pd_lo k ≤ pd_lo mi)
    (hl : Jvm.Cond.methodLink (pd_cn (pd_oc mi)) a (pd_y k) ∈ pd_W) : pd_Goal p l e R s m args below meth c cells slots Q ad D cA xs A b L mi H0 n r (mi, pc, ls, st, σ) (pd_cav mi (pc + 3) ls st σ k x y z) := by
  intro hC hT hCon hK hRt hF lsM H locs hR
  have hR : pd_Rl s ad D cA xs A L mi H0 ls st σ lsM H locs := hR
  unfold pd_cav at hF
  split at hF
  · next t o rest hav =>
    cases b0 : Nat.beq t (z / 256) with
    | false => rw [b0] at hF; cases hF
    | true =>
    rw [b0, cond_true] at hF
    have ht : t = pd_oc k := by rw [← hz]; exact Nat.eq_of_beq_eq_true b0
    unfold pd_ca at hF
    cases b1 : Nat.ble x st.length with
    | false => rw [b1] at hF; cases hF
    | true =>
    rw [b1, cond_true] at hF
    cases b2 : Nat.ble (pd_cats (st.drop x)) 8 with
    | false => rw [b2] at hF; cases hF
    | true =>
    rw [b2, cond_true] at hF
    cases b3 : Nat.ble (pd_cats (st.take x)) y with
    | false => rw [b3] at hF; cases hF
    | true =>
    rw [b3, cond_true] at hF
    have hF : pd_cl (p4_ex pd_cd n) (p4_ex pd_cd n (k, 0, pd_en (st.take x).reverse y, [], σ)) (z % 256 % 8) (z % 256 / 8) (mi, pc + 3, ls, st.drop x, σ) = some r := hF
    cases hr0 : p4_ex pd_cd n (k, 0, pd_en (st.take x).reverse y, [], σ) with
    | none => rw [hr0, pd_cl_none] at hF; cases hF
    | some r0 =>
    rw [hr0] at hF
    have hF2 := pd_cl_out hF
    have W0 := hT.2.1 k hk
    have hts := hC.2.2.2.2.1
    have hcats : pd_cats (st.take x).reverse ≤ pd_ml k := by
      rw [← hy, pd_cats_rev]; exact Nat.le_of_ble_eq_true b3
    subst hy
    have hokav : ∀ v ∈ (st.take x).reverse, pd_okv v := fun v hv => hR.2.2.1 v (List.mem_of_mem_take (List.mem_reverse.mp hv))
    have hM := hCon k (st.take x).reverse σ r0 hk hokav hcats hr0
    have hR' := pd_pops (st' := st.drop x) hR (fun v h => List.mem_of_mem_drop h)
    have hpre0 := fun U hU hW => pd_pre (av := (st.take x).reverse) hC hR' U hU hW
    have hsp : st.map (pd_cv ad) = ((st.take x).reverse.map (pd_cv ad)).reverse ++ (st.drop x).map (pd_cv ad) := by
      rw [← List.map_reverse, List.reverse_reverse, ← List.map_append, List.take_append_drop]
    have hn0 : ((st.take x).reverse).length = pd_pn k + 1 := by
      rw [List.length_reverse, List.length_take, ← hx]
      exact Nat.min_eq_left (Nat.le_of_ble_eq_true b1)
    rw [hav] at hsp hn0 hM hpre0
    have hoko : pd_okv (pd_r t o) := hokav _ (by rw [hav]; exact List.mem_cons_self)
    have hn : (rest.map (pd_cv ad)).length = pd_pn k := by
      rw [List.length_map]
      have h9 : rest.length + 1 = pd_pn k + 1 := hn0
      omega
    have hsp : st.map (pd_cv ad) = (rest.map (pd_cv ad)).reverse ++ .ref (ad o) :: (st.drop x).map (pd_cv ad) := by
      rw [hsp, List.map_cons, List.reverse_cons, List.append_assoc]
      rfl
    have hroom : 2 * (F0 m pc lsM (st.map (pd_cv ad))).monitorRoom + (((st.drop x).map (pd_cv ad)).map fun v => v.category).sum ≤ 8 := lv_room (by rw [pd_cat_sum]; exact Nat.le_of_ble_eq_true b2)
    have hfit : cells + 0 ≤ R.cells ∧ slots + 0 ≤ R.slots := ⟨hC.2.2.2.2.2.2.2.1, hC.2.2.2.2.2.2.2.2.1⟩
    have hRm : (pd_rm k).frames + 1 ≤ R.frames ∧ 8 + (pd_ml k + 11) + (pd_rm k).locals ≤ R.locals := ⟨Nat.le_trans hfr hC.2.2.2.2.2.1, Nat.le_trans hlo hC.2.2.2.2.2.2.1⟩
    have hinst : (Jvm.Cond.instanceMethod (pd_y k)).before args s = true := hts _ (by have h9 := W0.2.1; rw [hst] at h9; exact h9)
    have hini : (Jvm.Cond.initialized (pd_y k).cls).before args s = true := hts _ W0.2.2.2.1
    obtain ⟨g1, g2, g3⟩ := pd_obj (ad := ad) (cA := cA) (σ := σ) hoko (by rw [ht]; exact h11)
    have he := pd_ws_at ad cA σ g1
    rw [g2] at he
    have hrecv := va_recv hR.2.2.2.1.2.1 hR.2.2.2.1.1 (pd_cls_at (t := t) (by rw [ht]; exact h11)) he
    have hcls : (pd_cn t) = (pd_y k).cls := by rw [W0.2.2.2.2.1, ht]
    have hpre : PreV s H (pd_y k).cls (ad o) (pd_Pc ad D cA xs b L (pd_r t o :: rest) σ) (rest.map (pd_cv ad)) := ⟨pd_Pc_blind, by rw [← hcls]; exact hrecv, fun U hU hW => hpre0 U hU hW⟩
    exact pd_back hR' (va_runV (Ts := pd_W) (nL := pd_ml mi) ⟨hC.1, hC.2.1, hC.2.2.1, hC.2.2.2.1, hts⟩ hM ⟨callB_of (pd_pn k) hts (pd_wd_good W0) rfl rfl rfl hini (hts _ hl) ⟨W0.2.2.2.2.2.2.1.1, W0.2.2.2.2.2.2.1.2, W0.2.2.2.2.2.2.2⟩ hRm, hinst, hts _ (W0.2.2.1 hst)⟩ hpre rfl hn hR.1.1 hsp hroom hdg hfit) (hK _ rfl hF2)
  · cases hF
theorem pd_s_ireturn {k : Nat} (hdg : decode (pd_b mi) pc = .ok (.ireturn, 1)) (hk : (k = 0 ∧ pd_rt mi = some .int) ∨ (k = 1 ∧ pd_rt mi = some .boolean)) : pd_Goal p l e R s m args below meth c cells slots Q ad D cA xs A b L mi H0 n r (mi, pc, ls, st, σ) (pd_ri st σ k) := by
  intro hC hT hCon hK hRt hF lsM H locs hR
  unfold pd_ri at hF
  split at hF
  · next x =>
    rcases hk with ⟨rfl, hr⟩ | ⟨rfl, hr⟩
    · have e : some (σ, some (pd_i x)) = some r := hF
      injection e with e
      subst e
      exact hRt .ireturn pc lsM H locs hdg (Or.inl hr) (fun v hv => by cases hv; trivial) hR.2.2.2.1 hR.2.2.2.2
    · by_cases hv : x = 0 ∨ x = 1
      · have e : cond (decide (x = 0 ∨ x = 1)) (some (σ, some (pd_i x))) none = some r := hF
        rw [decide_eq_true hv] at e
        injection e with e
        subst e
        exact hRt .ireturn pc lsM H locs hdg (Or.inr ⟨hr, hv⟩) (fun v hv => by cases hv; trivial) hR.2.2.2.1 hR.2.2.2.2
      · have e : cond (decide (x = 0 ∨ x = 1)) (some (σ, some (pd_i x))) none = some r := hF
        rw [decide_eq_false hv] at e
        cases e
  · cases hF
theorem pd_s_lreturn (hdg : decode (pd_b mi) pc = .ok (.lreturn, 1)) (hr : pd_rt mi = some .long) : pd_Goal p l e R s m args below meth c cells slots Q ad D cA xs A b L mi H0 n r (mi, pc, ls, st, σ) (match st with | [.inl (.inr a)] => .inl (.inl (some (σ, some (pd_j a)))) | _ => pd_no) := by
  intro hC hT hCon hK hRt hF lsM H locs hR
  split at hF
  · next x =>
    have e : some (σ, some (pd_j x)) = some r := hF
    injection e with e
    subst e
    exact hRt .lreturn pc lsM H locs hdg hr (fun v hv => by cases hv; trivial) hR.2.2.2.1 hR.2.2.2.2
  · cases hF
theorem pd_s_areturn (hdg : decode (pd_b mi) pc = .ok (.areturn, 1)) (hr : pd_rt mi = some (.object RX1)) : pd_Goal p l e R s m args below meth c cells slots Q ad D cA xs A b L mi H0 n r (mi, pc, ls, st, σ) (match st with | [.inr (.inr (t, o))] => .inl (.inl (some (σ, some (pd_r t o)))) | _ => pd_no) := by
  intro hC hT hCon hK hRt hF lsM H locs hR
  split at hF
  · next t o =>
    have e : some (σ, some (pd_r t o)) = some r := hF
    injection e with e
    subst e
    exact hRt .areturn pc lsM H locs hdg hr (fun v hv => by cases hv; exact hR.2.2.1 _ List.mem_cons_self) hR.2.2.2.1 hR.2.2.2.2
  · cases hF
theorem pd_s_return (hdg : decode (pd_b mi) pc = .ok (.return_, 1)) (hr : pd_rt mi = none) : pd_Goal p l e R s m args below meth c cells slots Q ad D cA xs A b L mi H0 n r (mi, pc, ls, st, σ) (match st with | [] => .inl (.inl (some (σ, none))) | _ => pd_no) := by
  intro hC hT hCon hK hRt hF lsM H locs hR
  split at hF
  · have e : some (σ, none) = some r := hF
    injection e with e
    subst e
    exact hRt .return_ pc lsM H locs hdg hr (fun v hv => by cases hv) hR.2.2.2.1 hR.2.2.2.2
  · cases hF
end PDW
end
section
section PDW
variable {p : Program} {l : Launch} {e : Env} {R : Room} {s : State} {m : MethodId} {args : Array Value} {below : List Frame} {meth : Method} {c : Code} {cells slots : Nat} {Q : State → Prop}
variable {ad : Nat → Nat} {D : va_G} {cA : Nat → ClassId} {xs : Nat → Int32} {A : Nat → Prop} {b L mi : Nat} {H0 : Heap}
variable {n : Nat} {r : pd_R} {pc : Nat} {ls : pd_L} {st : List pd_V} {σ : pd_H}
theorem pd_cl2_at {c0 a k f : Nat} (h : pd_cl2 c0 a k f = true) : ∃ e ∈ pd_CL, e.1 = c0 ∧ e.2.1 = a ∧ e.2.2.1 = k ∧ e.2.2.2.1 = f := by
  obtain ⟨e, h1, h2⟩ := List.any_eq_true.mp h
  simp only [Bool.and_eq_true] at h2
  obtain ⟨⟨⟨q1, q2⟩, q3⟩, q4⟩ := h2
  exact ⟨e, h1, Nat.eq_of_beq_eq_true q1, Nat.eq_of_beq_eq_true q2, Nat.eq_of_beq_eq_true q3, Nat.eq_of_beq_eq_true q4⟩
theorem pd_cl2_ok {c0 a k : Nat} (hT : pd_TF) (h : pd_cl2 c0 a k 0 = true) : Jvm.Cond.methodLink (pd_cn c0) a (pd_y k) ∈ pd_W := by
  obtain ⟨e, h1, q1, q2, q3, q4⟩ := pd_cl2_at h
  have := hT.2.2.2.2.2.1 e h1 q4
  rw [q1, q2, q3] at this
  exact this
theorem pd_ce_ok {k x y z f : Nat} (h : pd_ce mi k x y z f = true) : k < 89 ∧ (pd_mt k).1 = f ∧ x = pd_pn k + 1 - f ∧ y = pd_ml k ∧ pd_fr k + 1 ≤ pd_fr mi ∧ 8 + (pd_ml k + 11) + pd_lo k ≤ pd_lo mi := by
  unfold pd_ce at h
  simp only [Bool.and_eq_true] at h
  obtain ⟨⟨⟨⟨⟨⟨h1, h2⟩, h3⟩, h4⟩, h5⟩, h6⟩, h7⟩ := h
  exact ⟨Nat.le_of_ble_eq_true h1, Nat.eq_of_beq_eq_true h2, Nat.eq_of_beq_eq_true h3, Nat.eq_of_beq_eq_true h4, Nat.le_of_ble_eq_true h6, Nat.le_of_ble_eq_true h7⟩
set_option maxHeartbeats 4000000 in
theorem pd_op_ok {op : pd_O} (hck : pd_ck mi pc op = true) : pd_Cx p R s m args c cells slots ad xs A b L mi H0 → pd_TF → pd_Con l ad D cA xs A b L n → (∀ c' : pd_C, c'.1 = mi → p4_ex pd_cd n c' = some r → pd_K p l e R s m args below meth c cells slots Q ad D cA xs A L mi H0 c') → pd_Rt p l e R s m args below meth c cells slots Q ad D cA xs A L mi H0 r → pd_F (p4_ex pd_cd n) (p4_ex pd_cd n) (p4_op mi pc ls st σ op) = some r → pd_K p l e R s m args below meth c cells slots Q ad D cA xs A L mi H0 (mi, pc, ls, st, σ) := by
  intro hC hT hCon hK hRt hF
  obtain ⟨i, ln, ⟨k, x, y, z⟩, v, w, tb⟩ := op
  unfold pd_ck at hck
  rw [Bool.and_eq_true] at hck
  obtain ⟨hd0, hck⟩ := hck
  have hd : decode (pd_b mi) pc = .ok (i, ln) := of_decide_eq_true hd0
  cases i with
  | iconst a =>
      have hck : (Nat.beq ln 1 && decide (Int32.ofInt a = v)) = true := hck
      rw [Bool.and_eq_true] at hck
      obtain ⟨g1, f1⟩ := hck
      have e1 := Nat.eq_of_beq_eq_true g1
      have e2 := of_decide_eq_true f1
      subst e1; exact pd_s_iconst hd e2 hC hT hCon hK hRt hF
  | bipush a =>
      have hck : (Nat.beq ln 2 && decide ((Int8.ofInt a).toInt32 = v)) = true := hck
      rw [Bool.and_eq_true] at hck
      obtain ⟨g1, f1⟩ := hck
      have e1 := Nat.eq_of_beq_eq_true g1
      have e2 := of_decide_eq_true f1
      subst e1; exact pd_s_bipush hd e2 hC hT hCon hK hRt hF
  | sipush a =>
      have hck : (Nat.beq ln 3 && decide ((Int16.ofInt a).toInt32 = v)) = true := hck
      rw [Bool.and_eq_true] at hck
      obtain ⟨g1, f1⟩ := hck
      have e1 := Nat.eq_of_beq_eq_true g1
      have e2 := of_decide_eq_true f1
      subst e1; exact pd_s_sipush hd e2 hC hT hCon hK hRt hF
  | ldc a =>
      have hck : (Nat.beq ln 2 && pd_CI.any fun e => Nat.beq e.1 (pd_oc mi) && Nat.beq e.2.1 a && decide (e.2.2.1 = v)) = true := hck
      rw [Bool.and_eq_true] at hck
      obtain ⟨g1, f1⟩ := hck
      have e1 := Nat.eq_of_beq_eq_true g1
      have e2 := f1
      subst e1; exact pd_s_ldc hd e2 hC hT hCon hK hRt hF
  | ldc_w a =>
      have hck : (Nat.beq ln 3 && pd_CI.any fun e => Nat.beq e.1 (pd_oc mi) && Nat.beq e.2.1 a && decide (e.2.2.1 = v)) = true := hck
      rw [Bool.and_eq_true] at hck
      obtain ⟨g1, f1⟩ := hck
      have e1 := Nat.eq_of_beq_eq_true g1
      have e2 := f1
      subst e1; exact pd_s_ldc_w hd e2 hC hT hCon hK hRt hF
  | lconst a =>
      have hck : (Nat.beq ln 1 && decide (Int64.ofNat (a : Nat) = w)) = true := hck
      rw [Bool.and_eq_true] at hck
      obtain ⟨g1, f1⟩ := hck
      have e1 := Nat.eq_of_beq_eq_true g1
      have e2 := of_decide_eq_true f1
      subst e1; exact pd_s_lconst hd e2 hC hT hCon hK hRt hF
  | ldc2_w a =>
      have hck : (Nat.beq ln 3 && pd_CJ.any fun e => Nat.beq e.1 (pd_oc mi) && Nat.beq e.2.1 a && decide (e.2.2.1 = w)) = true := hck
      rw [Bool.and_eq_true] at hck
      obtain ⟨g1, f1⟩ := hck
      have e1 := Nat.eq_of_beq_eq_true g1
      have e2 := f1
      subst e1; exact pd_s_ldc2 hd e2 hC hT hCon hK hRt hF
  | iload a =>
      have hck : (Nat.beq ln 2 && Nat.beq k a) = true := hck
      rw [Bool.and_eq_true] at hck
      obtain ⟨g1, f1⟩ := hck
      have e1 := Nat.eq_of_beq_eq_true g1
      have e2 := Nat.eq_of_beq_eq_true f1
      subst e1; subst e2; exact pd_s_iload hd hC hT hCon hK hRt hF
  | iload_n a =>
      have hck : (Nat.beq ln 1 && Nat.beq k a) = true := hck
      rw [Bool.and_eq_true] at hck
      obtain ⟨g1, f1⟩ := hck
      have e1 := Nat.eq_of_beq_eq_true g1
      have e2 := Nat.eq_of_beq_eq_true f1
      subst e1; subst e2; exact pd_s_iload_n hd hC hT hCon hK hRt hF
  | istore a =>
      have hck : (Nat.beq ln 2 && Nat.beq k a && Nat.ble (k + 1) (pd_ml mi)) = true := hck
      rw [Bool.and_eq_true] at hck
      obtain ⟨g2, f2⟩ := hck
      rw [Bool.and_eq_true] at g2
      obtain ⟨g1, f1⟩ := g2
      have e1 := Nat.eq_of_beq_eq_true g1
      have e2 := Nat.eq_of_beq_eq_true f1
      have e3 := Nat.le_of_ble_eq_true f2
      subst e1; subst e2; exact pd_s_istore hd e3 hC hT hCon hK hRt hF
  | istore_n a =>
      have hck : (Nat.beq ln 1 && Nat.beq k a && Nat.ble (k + 1) (pd_ml mi)) = true := hck
      rw [Bool.and_eq_true] at hck
      obtain ⟨g2, f2⟩ := hck
      rw [Bool.and_eq_true] at g2
      obtain ⟨g1, f1⟩ := g2
      have e1 := Nat.eq_of_beq_eq_true g1
      have e2 := Nat.eq_of_beq_eq_true f1
      have e3 := Nat.le_of_ble_eq_true f2
      subst e1; subst e2; exact pd_s_istore_n hd e3 hC hT hCon hK hRt hF
  | lload a =>
      have hck : (Nat.beq ln 2 && Nat.beq k a) = true := hck
      rw [Bool.and_eq_true] at hck
      obtain ⟨g1, f1⟩ := hck
      have e1 := Nat.eq_of_beq_eq_true g1
      have e2 := Nat.eq_of_beq_eq_true f1
      subst e1; subst e2; exact pd_s_lload hd hC hT hCon hK hRt hF
  | lload_n a =>
      have hck : (Nat.beq ln 1 && Nat.beq k a) = true := hck
      rw [Bool.and_eq_true] at hck
      obtain ⟨g1, f1⟩ := hck
      have e1 := Nat.eq_of_beq_eq_true g1
      have e2 := Nat.eq_of_beq_eq_true f1
      subst e1; subst e2; exact pd_s_lload_n hd hC hT hCon hK hRt hF
  | lstore a =>
      have hck : (Nat.beq ln 2 && Nat.beq k a && Nat.ble (k + 2) (pd_ml mi)) = true := hck
      rw [Bool.and_eq_true] at hck
      obtain ⟨g2, f2⟩ := hck
      rw [Bool.and_eq_true] at g2
      obtain ⟨g1, f1⟩ := g2
      have e1 := Nat.eq_of_beq_eq_true g1
      have e2 := Nat.eq_of_beq_eq_true f1
      have e3 := Nat.le_of_ble_eq_true f2
      subst e1; subst e2; exact pd_s_lstore hd e3 hC hT hCon hK hRt hF
  | lstore_n a =>
      have hck : (Nat.beq ln 1 && Nat.beq k a && Nat.ble (k + 2) (pd_ml mi)) = true := hck
      rw [Bool.and_eq_true] at hck
      obtain ⟨g2, f2⟩ := hck
      rw [Bool.and_eq_true] at g2
      obtain ⟨g1, f1⟩ := g2
      have e1 := Nat.eq_of_beq_eq_true g1
      have e2 := Nat.eq_of_beq_eq_true f1
      have e3 := Nat.le_of_ble_eq_true f2
      subst e1; subst e2; exact pd_s_lstore_n hd e3 hC hT hCon hK hRt hF
  | aload a =>
      have hck : (Nat.beq ln 2 && Nat.beq k a) = true := hck
      rw [Bool.and_eq_true] at hck
      obtain ⟨g1, f1⟩ := hck
      have e1 := Nat.eq_of_beq_eq_true g1
      have e2 := Nat.eq_of_beq_eq_true f1
      subst e1; subst e2; exact pd_s_aload hd hC hT hCon hK hRt hF
  | aload_n a =>
      have hck : (Nat.beq ln 1 && Nat.beq k a) = true := hck
      rw [Bool.and_eq_true] at hck
      obtain ⟨g1, f1⟩ := hck
      have e1 := Nat.eq_of_beq_eq_true g1
      have e2 := Nat.eq_of_beq_eq_true f1
      subst e1; subst e2; exact pd_s_aload_n hd hC hT hCon hK hRt hF
  | astore a =>
      have hck : (Nat.beq ln 2 && Nat.beq k a && Nat.ble (k + 1) (pd_ml mi)) = true := hck
      rw [Bool.and_eq_true] at hck
      obtain ⟨g2, f2⟩ := hck
      rw [Bool.and_eq_true] at g2
      obtain ⟨g1, f1⟩ := g2
      have e1 := Nat.eq_of_beq_eq_true g1
      have e2 := Nat.eq_of_beq_eq_true f1
      have e3 := Nat.le_of_ble_eq_true f2
      subst e1; subst e2; exact pd_s_astore hd e3 hC hT hCon hK hRt hF
  | astore_n a =>
      have hck : (Nat.beq ln 1 && Nat.beq k a && Nat.ble (k + 1) (pd_ml mi)) = true := hck
      rw [Bool.and_eq_true] at hck
      obtain ⟨g2, f2⟩ := hck
      rw [Bool.and_eq_true] at g2
      obtain ⟨g1, f1⟩ := g2
      have e1 := Nat.eq_of_beq_eq_true g1
      have e2 := Nat.eq_of_beq_eq_true f1
      have e3 := Nat.le_of_ble_eq_true f2
      subst e1; subst e2; exact pd_s_astore_n hd e3 hC hT hCon hK hRt hF
  | iinc a b0 =>
      have hck : (Nat.beq ln 3 && Nat.beq k a && Nat.ble (k + 1) (pd_ml mi) && decide (Int32.ofInt b0 = v)) = true := hck
      rw [Bool.and_eq_true] at hck
      obtain ⟨g3, f3⟩ := hck
      rw [Bool.and_eq_true] at g3
      obtain ⟨g2, f2⟩ := g3
      rw [Bool.and_eq_true] at g2
      obtain ⟨g1, f1⟩ := g2
      have e1 := Nat.eq_of_beq_eq_true g1
      have e2 := Nat.eq_of_beq_eq_true f1
      have e3 := Nat.le_of_ble_eq_true f2
      have e4 := of_decide_eq_true f3
      subst e1; subst e2; exact pd_s_iinc hd e3 e4 hC hT hCon hK hRt hF
  | dup  =>
      have hck : (Nat.beq ln 1) = true := hck
      have e1 := Nat.eq_of_beq_eq_true hck
      subst e1; exact pd_s_dup hd hC hT hCon hK hRt hF
  | dup2  =>
      have hck : (Nat.beq ln 1) = true := hck
      have e1 := Nat.eq_of_beq_eq_true hck
      subst e1; exact pd_s_dup2 hd hC hT hCon hK hRt hF
  | pop  =>
      have hck : (Nat.beq ln 1) = true := hck
      have e1 := Nat.eq_of_beq_eq_true hck
      subst e1; exact pd_s_pop hd hC hT hCon hK hRt hF
  | iadd  =>
      have hck : (Nat.beq ln 1) = true := hck
      have e1 := Nat.eq_of_beq_eq_true hck
      subst e1; exact pd_s_iadd hd hC hT hCon hK hRt hF
  | isub  =>
      have hck : (Nat.beq ln 1) = true := hck
      have e1 := Nat.eq_of_beq_eq_true hck
      subst e1; exact pd_s_isub hd hC hT hCon hK hRt hF
  | imul  =>
      have hck : (Nat.beq ln 1) = true := hck
      have e1 := Nat.eq_of_beq_eq_true hck
      subst e1; exact pd_s_imul hd hC hT hCon hK hRt hF
  | iand  =>
      have hck : (Nat.beq ln 1) = true := hck
      have e1 := Nat.eq_of_beq_eq_true hck
      subst e1; exact pd_s_iand hd hC hT hCon hK hRt hF
  | ior  =>
      have hck : (Nat.beq ln 1) = true := hck
      have e1 := Nat.eq_of_beq_eq_true hck
      subst e1; exact pd_s_ior hd hC hT hCon hK hRt hF
  | ishl  =>
      have hck : (Nat.beq ln 1) = true := hck
      have e1 := Nat.eq_of_beq_eq_true hck
      subst e1; exact pd_s_ishl hd hC hT hCon hK hRt hF
  | ishr  =>
      have hck : (Nat.beq ln 1) = true := hck
      have e1 := Nat.eq_of_beq_eq_true hck
      subst e1; exact pd_s_ishr hd hC hT hCon hK hRt hF
  | iushr  =>
      have hck : (Nat.beq ln 1) = true := hck
      have e1 := Nat.eq_of_beq_eq_true hck
      subst e1; exact pd_s_iushr hd hC hT hCon hK hRt hF
  | idiv  =>
      have hck : (Nat.beq ln 1) = true := hck
      have e1 := Nat.eq_of_beq_eq_true hck
      subst e1; exact pd_s_idiv hd hC hT hCon hK hRt hF
  | irem  =>
      have hck : (Nat.beq ln 1) = true := hck
      have e1 := Nat.eq_of_beq_eq_true hck
      subst e1; exact pd_s_irem hd hC hT hCon hK hRt hF
  | ladd  =>
      have hck : (Nat.beq ln 1) = true := hck
      have e1 := Nat.eq_of_beq_eq_true hck
      subst e1; exact pd_s_ladd hd hC hT hCon hK hRt hF
  | lsub  =>
      have hck : (Nat.beq ln 1) = true := hck
      have e1 := Nat.eq_of_beq_eq_true hck
      subst e1; exact pd_s_lsub hd hC hT hCon hK hRt hF
  | lmul  =>
      have hck : (Nat.beq ln 1) = true := hck
      have e1 := Nat.eq_of_beq_eq_true hck
      subst e1; exact pd_s_lmul hd hC hT hCon hK hRt hF
  | land  =>
      have hck : (Nat.beq ln 1) = true := hck
      have e1 := Nat.eq_of_beq_eq_true hck
      subst e1; exact pd_s_land hd hC hT hCon hK hRt hF
  | lor  =>
      have hck : (Nat.beq ln 1) = true := hck
      have e1 := Nat.eq_of_beq_eq_true hck
      subst e1; exact pd_s_lor hd hC hT hCon hK hRt hF
  | lshl  =>
      have hck : (Nat.beq ln 1) = true := hck
      have e1 := Nat.eq_of_beq_eq_true hck
      subst e1; exact pd_s_lshl hd hC hT hCon hK hRt hF
  | lshr  =>
      have hck : (Nat.beq ln 1) = true := hck
      have e1 := Nat.eq_of_beq_eq_true hck
      subst e1; exact pd_s_lshr hd hC hT hCon hK hRt hF
  | ldiv  =>
      have hck : (Nat.beq ln 1) = true := hck
      have e1 := Nat.eq_of_beq_eq_true hck
      subst e1; exact pd_s_ldiv hd hC hT hCon hK hRt hF
  | lrem  =>
      have hck : (Nat.beq ln 1) = true := hck
      have e1 := Nat.eq_of_beq_eq_true hck
      subst e1; exact pd_s_lrem hd hC hT hCon hK hRt hF
  | lneg  =>
      have hck : (Nat.beq ln 1) = true := hck
      have e1 := Nat.eq_of_beq_eq_true hck
      subst e1; exact pd_s_lneg hd hC hT hCon hK hRt hF
  | lcmp  =>
      have hck : (Nat.beq ln 1) = true := hck
      have e1 := Nat.eq_of_beq_eq_true hck
      subst e1; exact pd_s_lcmp hd hC hT hCon hK hRt hF
  | i2l  =>
      have hck : (Nat.beq ln 1) = true := hck
      have e1 := Nat.eq_of_beq_eq_true hck
      subst e1; exact pd_s_i2l hd hC hT hCon hK hRt hF
  | l2i  =>
      have hck : (Nat.beq ln 1) = true := hck
      have e1 := Nat.eq_of_beq_eq_true hck
      subst e1; exact pd_s_l2i hd hC hT hCon hK hRt hF
  | i2b  =>
      have hck : (Nat.beq ln 1) = true := hck
      have e1 := Nat.eq_of_beq_eq_true hck
      subst e1; exact pd_s_i2b hd hC hT hCon hK hRt hF
  | i2c  =>
      have hck : (Nat.beq ln 1) = true := hck
      have e1 := Nat.eq_of_beq_eq_true hck
      subst e1; exact pd_s_i2c hd hC hT hCon hK hRt hF
  | i2s  =>
      have hck : (Nat.beq ln 1) = true := hck
      have e1 := Nat.eq_of_beq_eq_true hck
      subst e1; exact pd_s_i2s hd hC hT hCon hK hRt hF
  | i2f  =>
      have hck : (Nat.beq ln 1) = true := hck
      have e1 := Nat.eq_of_beq_eq_true hck
      subst e1; exact pd_s_i2f hd hC hT hCon hK hRt hF
  | l2f  =>
      have hck : (Nat.beq ln 1) = true := hck
      have e1 := Nat.eq_of_beq_eq_true hck
      subst e1; exact pd_s_l2f hd hC hT hCon hK hRt hF
  | f2l  =>
      have hck : (Nat.beq ln 1) = true := hck
      have e1 := Nat.eq_of_beq_eq_true hck
      subst e1; exact pd_s_f2l hd hC hT hCon hK hRt hF
  | l2d  =>
      have hck : (Nat.beq ln 1) = true := hck
      have e1 := Nat.eq_of_beq_eq_true hck
      subst e1; exact pd_s_l2d hd hC hT hCon hK hRt hF
  | d2l  =>
      have hck : (Nat.beq ln 1) = true := hck
      have e1 := Nat.eq_of_beq_eq_true hck
      subst e1; exact pd_s_d2l hd hC hT hCon hK hRt hF
  | iaload  =>
      have hck : (Nat.beq ln 1) = true := hck
      have e1 := Nat.eq_of_beq_eq_true hck
      subst e1; exact pd_s_iaload hd hC hT hCon hK hRt hF
  | baload  =>
      have hck : (Nat.beq ln 1) = true := hck
      have e1 := Nat.eq_of_beq_eq_true hck
      subst e1; exact pd_s_baload hd hC hT hCon hK hRt hF
  | laload  =>
      have hck : (Nat.beq ln 1) = true := hck
      have e1 := Nat.eq_of_beq_eq_true hck
      subst e1; exact pd_s_laload hd hC hT hCon hK hRt hF
  | aaload  =>
      have hck : (Nat.beq ln 1) = true := hck
      have e1 := Nat.eq_of_beq_eq_true hck
      subst e1; exact pd_s_aaload hd hC hT hCon hK hRt hF
  | iastore  =>
      have hck : (Nat.beq ln 1) = true := hck
      have e1 := Nat.eq_of_beq_eq_true hck
      subst e1; exact pd_s_iastore hd hC hT hCon hK hRt hF
  | bastore  =>
      have hck : (Nat.beq ln 1) = true := hck
      have e1 := Nat.eq_of_beq_eq_true hck
      subst e1; exact pd_s_bastore hd hC hT hCon hK hRt hF
  | lastore  =>
      have hck : (Nat.beq ln 1) = true := hck
      have e1 := Nat.eq_of_beq_eq_true hck
      subst e1; exact pd_s_lastore hd hC hT hCon hK hRt hF
  | arraylength  =>
      have hck : (Nat.beq ln 1) = true := hck
      have e1 := Nat.eq_of_beq_eq_true hck
      subst e1; exact pd_s_arraylength hd hC hT hCon hK hRt hF
  | ifCond q off =>
      have hck : (Nat.beq ln 3 && decide ((pc : Int) + off = (k : Int))) = true := hck
      rw [Bool.and_eq_true] at hck
      obtain ⟨g1, f1⟩ := hck
      have e1 := Nat.eq_of_beq_eq_true g1
      have e2 := of_decide_eq_true f1
      subst e1
      match st, hF with
      | .inl (.inl a0) :: ts, hF =>
        cases q with
        | eq => exact pd_s_if_eq hd e2 hC hT hCon hK hRt hF
        | ne => exact pd_s_if_ne hd e2 hC hT hCon hK hRt hF
        | lt => exact pd_s_if_lt hd e2 hC hT hCon hK hRt hF
        | ge => exact pd_s_if_ge hd e2 hC hT hCon hK hRt hF
        | gt => exact pd_s_if_gt hd e2 hC hT hCon hK hRt hF
        | le => exact pd_s_if_le hd e2 hC hT hCon hK hRt hF
  | if_icmp q off =>
      have hck : (Nat.beq ln 3 && decide ((pc : Int) + off = (k : Int))) = true := hck
      rw [Bool.and_eq_true] at hck
      obtain ⟨g1, f1⟩ := hck
      have e1 := Nat.eq_of_beq_eq_true g1
      have e2 := of_decide_eq_true f1
      subst e1
      match st, hF with
      | .inl (.inl b0) :: .inl (.inl a0) :: ts, hF =>
        cases q with
        | eq => exact pd_s_icmp_eq hd e2 hC hT hCon hK hRt hF
        | ne => exact pd_s_icmp_ne hd e2 hC hT hCon hK hRt hF
        | lt => exact pd_s_icmp_lt hd e2 hC hT hCon hK hRt hF
        | ge => exact pd_s_icmp_ge hd e2 hC hT hCon hK hRt hF
        | gt => exact pd_s_icmp_gt hd e2 hC hT hCon hK hRt hF
        | le => exact pd_s_icmp_le hd e2 hC hT hCon hK hRt hF
  | goto off =>
      have hck : (Nat.beq ln 3 && decide ((pc : Int) + off = (k : Int))) = true := hck
      rw [Bool.and_eq_true] at hck
      obtain ⟨g1, f1⟩ := hck
      have e1 := Nat.eq_of_beq_eq_true g1
      have e2 := of_decide_eq_true f1
      subst e1; exact pd_s_goto hd e2 hC hT hCon hK hRt hF
  | tableswitch d0 lo hi offs =>
      have hck : (decide ((pc : Int) + d0 = (k : Int)) && pd_tb pc lo offs.toList tb && decide (hi = lo + offs.size - 1)) = true := hck
      rw [Bool.and_eq_true] at hck
      obtain ⟨g2, f2⟩ := hck
      rw [Bool.and_eq_true] at g2
      obtain ⟨g1, f1⟩ := g2
      have e1 := of_decide_eq_true g1
      have e2 := f1
      have e3 := of_decide_eq_true f2
      match st, hF with
      | .inl (.inl a0) :: ts, hF => exact pd_s_table hd e1 e2 e3 hC hT hCon hK hRt hF
  | lookupswitch d0 ps =>
      have hck : (decide ((pc : Int) + d0 = (k : Int)) && pd_lk pc ps.toList tb && (ps.toList.zip (ps.toList.drop 1)).all (fun q => decide (q.1.1 < q.2.1))) = true := hck
      rw [Bool.and_eq_true] at hck
      obtain ⟨g2, f2⟩ := hck
      rw [Bool.and_eq_true] at g2
      obtain ⟨g1, f1⟩ := g2
      have e1 := of_decide_eq_true g1
      have e2 := f1
      have e3 := f2
      match st, hF with
      | .inl (.inl a0) :: ts, hF => exact pd_s_lookup hd e1 e2 e3 hC hT hCon hK hRt hF
  | getfield a =>
      have hck : (Nat.beq ln 3 && Nat.beq (pd_fs (pd_oc mi) a).1 x && Nat.ble (x + 1) 10 && Nat.ble ((pd_fs (pd_oc mi) a).2 + 1) (vwCl.getD x (RL, TX0, 0)).2.2 && decide (pd_fkd x (pd_fs (pd_oc mi) a).2 = (k, y, z))) = true := hck
      rw [Bool.and_eq_true] at hck
      obtain ⟨g4, f4⟩ := hck
      rw [Bool.and_eq_true] at g4
      obtain ⟨g3, f3⟩ := g4
      rw [Bool.and_eq_true] at g3
      obtain ⟨g2, f2⟩ := g3
      rw [Bool.and_eq_true] at g2
      obtain ⟨g1, f1⟩ := g2
      have e1 := Nat.eq_of_beq_eq_true g1
      have e2 := Nat.eq_of_beq_eq_true f1
      have e3 := Nat.le_of_ble_eq_true f2
      have e4 := Nat.le_of_ble_eq_true f3
      have e5 := of_decide_eq_true f4
      subst e1; exact pd_s_getfield hd e2 e3 e4 e5 hC hT hCon hK hRt hF
  | putfield a =>
      have hck : (Nat.beq ln 3 && Nat.beq (pd_fs (pd_oc mi) a).1 x && Nat.ble (x + 1) 10 && Nat.ble ((pd_fs (pd_oc mi) a).2 + 1) (vwCl.getD x (RL, TX0, 0)).2.2 && decide (pd_fkd x (pd_fs (pd_oc mi) a).2 = (cond (Nat.beq k 5) 0 k, y, z)) && decide (((vwCl.getD x (RL, TX0, 0)).2.1 (pd_fs (pd_oc mi) a).2).2.2.2 = false) && decide (pd_ty x (pd_fs (pd_oc mi) a).2 = pd_pty k) && (!Nat.beq k 4 || (Nat.ble y 1 && Nat.beq z 2))) = true := hck
      rw [Bool.and_eq_true] at hck
      obtain ⟨g7, f7⟩ := hck
      rw [Bool.and_eq_true] at g7
      obtain ⟨g6, f6⟩ := g7
      rw [Bool.and_eq_true] at g6
      obtain ⟨g5, f5⟩ := g6
      rw [Bool.and_eq_true] at g5
      obtain ⟨g4, f4⟩ := g5
      rw [Bool.and_eq_true] at g4
      obtain ⟨g3, f3⟩ := g4
      rw [Bool.and_eq_true] at g3
      obtain ⟨g2, f2⟩ := g3
      rw [Bool.and_eq_true] at g2
      obtain ⟨g1, f1⟩ := g2
      have e1 := Nat.eq_of_beq_eq_true g1
      have e2 := Nat.eq_of_beq_eq_true f1
      have e3 := Nat.le_of_ble_eq_true f2
      have e4 := Nat.le_of_ble_eq_true f3
      have e5 := of_decide_eq_true f4
      have e6 := of_decide_eq_true f5
      have e7 := of_decide_eq_true f6
      have e8 := f7
      subst e1
      refine pd_s_putfield hd e2 e3 e4 e5 e6 e7 (fun hk => ?_) hC hT hCon hK hRt hF
      subst hk
      have e8 : (Nat.ble y 1 && Nat.beq z 2) = true := e8
      rw [Bool.and_eq_true] at e8
      exact ⟨Nat.le_of_ble_eq_true e8.1, Nat.eq_of_beq_eq_true e8.2⟩
  | invokevirtual a =>
      have hck : (Nat.beq ln 3 && pd_cl2 (pd_oc mi) a k 0 && pd_ce mi k x y (z % 256) 0 && Nat.beq (z / 256) (pd_oc k) && Nat.ble (pd_oc k + 1) 10) = true := hck
      rw [Bool.and_eq_true] at hck
      obtain ⟨g4, f4⟩ := hck
      rw [Bool.and_eq_true] at g4
      obtain ⟨g3, f3⟩ := g4
      rw [Bool.and_eq_true] at g3
      obtain ⟨g2, f2⟩ := g3
      rw [Bool.and_eq_true] at g2
      obtain ⟨g1, f1⟩ := g2
      have e1 := Nat.eq_of_beq_eq_true g1
      have e2 := f1
      have e3 := f2
      have e4 := Nat.eq_of_beq_eq_true f3
      have e5 := Nat.le_of_ble_eq_true f4
      subst e1
      obtain ⟨q1, q2, q3, q4, q6, q7⟩ := pd_ce_ok e3
      have e6 := pd_cl2_ok hT e2
      exact pd_s_virtual hd q1 q2 q3 q4 e4 e5 q6 q7 e6 hC hT hCon hK hRt hF
  | invokestatic a =>
      have hck : (Nat.beq ln 3 && (pd_cl2 (pd_oc mi) a k 0 || pd_cl2 (pd_oc mi) a k 1) && pd_ce mi k x y z 1) = true := hck
      rw [Bool.and_eq_true] at hck
      obtain ⟨g2, f2⟩ := hck
      rw [Bool.and_eq_true] at g2
      obtain ⟨g1, f1⟩ := g2
      have e1 := Nat.eq_of_beq_eq_true g1
      have e2 := f1
      have e3 := f2
      subst e1
      obtain ⟨q1, q2, q3, q4, q6, q7⟩ := pd_ce_ok e3
      rw [Bool.or_eq_true] at e2
      have e6 := e2.imp (fun h => pd_cl2_ok hT h) (fun h => pd_cl2_at h)
      exact pd_s_static hd q1 q2 q3 q4 q6 q7 e6 hC hT hCon hK hRt hF
  | ireturn  =>
      have hck : (Nat.beq ln 1 && (Nat.beq k 0 && decide (pd_rt mi = some .int) || Nat.beq k 1 && decide (pd_rt mi = some .boolean))) = true := hck
      rw [Bool.and_eq_true] at hck
      obtain ⟨g1, f1⟩ := hck
      have e1 := Nat.eq_of_beq_eq_true g1
      have e2 := f1
      subst e1
      refine pd_s_ireturn hd ?_ hC hT hCon hK hRt hF
      simp only [Bool.or_eq_true, Bool.and_eq_true, decide_eq_true_eq] at e2
      exact e2.imp (fun h => ⟨Nat.eq_of_beq_eq_true h.1, h.2⟩) (fun h => ⟨Nat.eq_of_beq_eq_true h.1, h.2⟩)
  | lreturn  =>
      have hck : (Nat.beq ln 1 && decide (pd_rt mi = some .long)) = true := hck
      rw [Bool.and_eq_true] at hck
      obtain ⟨g1, f1⟩ := hck
      have e1 := Nat.eq_of_beq_eq_true g1
      have e2 := of_decide_eq_true f1
      subst e1; exact pd_s_lreturn hd e2 hC hT hCon hK hRt hF
  | areturn  =>
      have hck : (Nat.beq ln 1 && decide (pd_rt mi = some (.object RX1))) = true := hck
      rw [Bool.and_eq_true] at hck
      obtain ⟨g1, f1⟩ := hck
      have e1 := Nat.eq_of_beq_eq_true g1
      have e2 := of_decide_eq_true f1
      subst e1; exact pd_s_areturn hd e2 hC hT hCon hK hRt hF
  | return_  =>
      have hck : (Nat.beq ln 1 && decide (pd_rt mi = none)) = true := hck
      rw [Bool.and_eq_true] at hck
      obtain ⟨g1, f1⟩ := hck
      have e1 := Nat.eq_of_beq_eq_true g1
      have e2 := of_decide_eq_true f1
      subst e1; exact pd_s_return hd e2 hC hT hCon hK hRt hF
  | _ => cases hF
theorem pd_step {cf : pd_C} (hm : cf.1 = mi) (hC : pd_Cx p R s m args c cells slots ad xs A b L mi H0) (hT : pd_TF) (hCon : pd_Con l ad D cA xs A b L n) (hK : ∀ c' : pd_C, c'.1 = mi → p4_ex pd_cd n c' = some r → pd_K p l e R s m args below meth c cells slots Q ad D cA xs A L mi H0 c') (hRt : pd_Rt p l e R s m args below meth c cells slots Q ad D cA xs A L mi H0 r) (hF : p4_ex pd_cd (n + 1) cf = some r) : pd_K p l e R s m args below meth c cells slots Q ad D cA xs A L mi H0 cf := by
  obtain ⟨m0, pc, ls, st, σ⟩ := cf
  have hm : m0 = mi := hm
  subst hm
  have hF : pd_F (p4_ex pd_cd n) (p4_ex pd_cd n) (match pd_cd m0 pc with | some op => p4_op m0 pc ls st σ op | none => pd_no) = some r := hF
  cases hop : pd_cd m0 pc with
  | none => rw [hop] at hF; cases hF
  | some op =>
    rw [hop] at hF
    exact pd_op_ok (hT.1 m0 pc op hC.2.2.2.2.2.2.2.2.2.2.2.2.1 hop) hC hT hCon hK hRt hF
theorem pd_walk {N : Nat} (hC : pd_Cx p R s m args c cells slots ad xs A b L mi H0) (hT : pd_TF) (hCon : ∀ j, j < N → pd_Con l ad D cA xs A b L j) (hRt : pd_Rt p l e R s m args below meth c cells slots Q ad D cA xs A L mi H0 r) : ∀ j, j ≤ N → ∀ c' : pd_C, c'.1 = mi → p4_ex pd_cd j c' = some r → pd_K p l e R s m args below meth c cells slots Q ad D cA xs A L mi H0 c' := by
  intro j
  induction j with
  | zero => intro _ c' _ h; cases h
  | succ j ih => exact fun hj c' hc h => pd_step hc hC hT (hCon j hj) (ih (Nat.le_of_succ_le hj)) hRt h
theorem pd_nth_none {n k : Nat} : pd_nth (pd_none n) k = none := by
  induction n generalizing k with
  | zero => rfl
  | succ n ih =>
    cases k with
    | zero => rfl
    | succ k => exact ih
theorem pd_nth_en {av : List pd_V} : ∀ {n k : Nat} {v : pd_V}, pd_nth (pd_en av n) k = some v → v ∈ av := by
  induction av with
  | nil => intro n k v h; rw [show pd_en [] n = pd_none n from rfl, pd_nth_none] at h; cases h
  | cons a t ih =>
    intro n k v h
    have h : pd_nth (cond (pd_two a) (some a :: none :: pd_en t (n - 2)) (some a :: pd_en t (n - 1))) k = some v := h
    cases ha : pd_two a with
    | true =>
      rw [ha, cond_true] at h
      match k, h with
      | 0, h => cases h; exact List.mem_cons_self
      | k + 2, h => exact List.mem_cons_of_mem _ (ih h)
    | false =>
      rw [ha, cond_false] at h
      match k, h with
      | 0, h => cases h; exact List.mem_cons_self
      | k + 1, h => exact List.mem_cons_of_mem _ (ih h)
/-- the ends give the contract's -/
theorem pd_ends (hC : pd_Cx p R s m args c 0 0 ad xs A b L mi s.heap) (hr : meth.sig.returnType = pd_rt mi) (hlocks : meth.locks = false) : pd_Rt p l e R s m args below meth c 0 0 (MQ below (pd_Qc ad D cA xs A L r) args s 0 0 A) ad D cA xs A L mi s.heap r := by
  intro ins pc lsM H locs hd hend hok hWd hS
  obtain ⟨σr, v⟩ := r
  match v, ins, hend with
  | some (.inl (.inl x)), .ireturn, hend =>
    rcases hend with h | ⟨h, hx⟩
    · exact W.iret (v := x) hC.1 hC.2.1 (by rw [hr]; exact h) (fun t ht hW => ⟨rfl, hok, by rw [ht]; exact pd_Wd.moved hW.alike hWd, hS.F ht⟩) hS.2.2 hd hlocks
    · exact W.zret (v := x) (ty := .boolean) hC.1 hC.2.1 (by rw [hr]; exact h) (pd_nb hx).1 (fun t ht hW => ⟨rfl, hok, by rw [ht]; exact pd_Wd.moved hW.alike hWd, hS.F ht⟩) hS.2.2 hd hlocks
  | some (.inl (.inr x)), .lreturn, hend => exact W.lret (v := x) hC.1 hC.2.1 (by rw [hr]; exact hend) (fun t ht hW => ⟨rfl, hok, by rw [ht]; exact pd_Wd.moved hW.alike hWd, hS.F ht⟩) hS.2.2 hd hlocks
  | some (.inr (.inr (t0, o))), .areturn, hend => exact W.aret (v := .ref (ad o)) (rt := .object RX1) hC.1 hC.2.1 (by rw [hr]; exact hend) (Or.inl ⟨_, rfl⟩) (Or.inr ⟨_, rfl⟩) (fun t ht hW => ⟨rfl, hok, by rw [ht]; exact pd_Wd.moved hW.alike hWd, hS.F ht⟩) hS.2.2 hd hlocks
  | none, .return_, hend => exact W.vret hC.1 hC.2.1 (by rw [hr]; exact hend) (fun t ht hW => ⟨rfl, hok, by rw [ht]; exact pd_Wd.moved hW.alike hWd, hS.F ht⟩) hS.2.2 hd hlocks
/-- every method's contract -/
theorem pd_con (hT : pd_TF) (hE : pd_E ad A b L) : ∀ N, pd_Con l ad D cA xs A b L N := by
  intro N
  induction N using Nat.strongRecOn with
  | ind N ih =>
    intro k av σ r hk hok hcats hr
    have W0 := hT.2.1 k hk
    refine pd_ofW (cc := pd_b k) (maxL := pd_ml k) (ret := pd_rt k) W0.2.2.2.2.2.1 rfl ?_
    intro p e s m args below meth c s₁ B hml hv
    obtain ⟨rfl, hWd, hX, hbl, hNW⟩ := hv
    have hts := atoms_spec (ws := pd_wd k) B.pre
    have hown : s.vm.findClass (pd_y k).cls = some m.cls := findClass_of_methodNamed B.named
    have hC : pd_Cx p (headSpec (pd_wd k) (pd_rm k)).room s m (av.map (pd_cv ad)).toArray c 0 0 ad xs A b L k s.heap :=
      ⟨B.exec, B.bytes, hml, by rw [← W0.2.2.2.2.1]; exact hown, fun w hw => hts w (List.mem_cons_of_mem _ hw), Nat.le_refl _, Nat.le_refl _, Nat.zero_le _, Nat.zero_le _, hE, hX, hbl, Nat.lt_of_lt_of_le hk (by decide), hNW⟩
    have hl := lv_entry (av.map (pd_cv ad)) (n := pd_ml k) (by rw [pd_sl_len]; exact hcats)
    rw [lg_entry_eq]
    generalize (lg_sl (av.map (pd_cv ad)) ++ List.replicate (pd_ml k - (lg_sl (av.map (pd_cv ad))).length) Slot.unset).toArray = lsM at hl ⊢
    have hK := pd_walk (p := p) (l := l) (e := e) (below := below) (meth := meth) (N := N) (D := D) (cA := cA) hC hT (fun j hj => ih j hj) (pd_ends (r := r) hC B.returns B.notSynchronized) N (Nat.le_refl _) (k, 0, pd_en av (pd_ml k), [], σ) rfl hr
    refine hK lsM s.heap [] ⟨?_, fun q v hv => hok v (pd_nth_en hv), fun v hv => absurd hv List.not_mem_nil, hWd, va_S.rf⟩
    unfold pd_lok
    rw [pd_ps_en]
    exact hl
end PDW
end
section
def pd_LP : List (List Nat) := [[107, 109, 111], [87, 89, 91, 93, 95, 97], [227, 229, 231, 233, 235, 237, 239, 241, 243, 245, 247, 249, 251, 253, 255, 257, 259, 261, 263], [152, 154], [179, 181], [53, 55, 57], [164], [129, 131, 133, 135, 137, 139, 141], [39, 41], [281, 283, 285, 287, 289, 291, 293, 295, 297, 299, 301, 303, 305, 307]]
theorem pd_LP_ok : (List.range 10).all (fun t => (List.range (pd_nf t)).all (fun k => decide (tables_1[(pd_LP.getD t []).getD k 0]? = some (u_lay (pd_cn t) ((vwCl.getD t (RL, TX0, 0)).2.1) k)))) = true := by decide +kernel
theorem pd_lay_good (C : String) (T : u_T) (k : Nat) : goodWord (u_lay C T k) = true := by
  unfold u_lay
  split <;> rfl
theorem pd_rng {P : Nat → Bool} {a n : Nat} (h : ((List.range n).map (fun i => i + a)).all P = true) {k : Nat} (h1 : a ≤ k) (h2 : k < a + n) : P k = true := by
  refine List.all_eq_true.mp h k (List.mem_map.mpr ⟨k - a, List.mem_range.mpr (by omega), by omega⟩)
theorem pd_rng0 {P : Nat → Bool} {n : Nat} (h : (List.range n).all P = true) {k : Nat} (h2 : k < n) : P k = true := List.all_eq_true.mp h k (List.mem_range.mpr h2)
theorem pd_ck_of {m i : Nat} {op : pd_O} (h : (List.range (pd_mx m + 1)).all (fun i => match pd_cd m i with | none => true | some op => pd_ck m i op) = true) (ho : pd_cd m i = some op) : pd_ck m i op = true := by
  have hi : i ≤ pd_mx m := by
    unfold pd_cd at ho
    cases hb : Nat.ble i (pd_mx m) with
    | true => exact Nat.le_of_ble_eq_true hb
    | false => rw [hb] at ho; cases ho
  have := pd_rng0 h (Nat.lt_succ_of_le hi)
  rw [ho] at this
  exact this
theorem pd_TF_code {m i : Nat} {op : pd_O} (hm : m < 90) (ho : pd_cd m i = some op) : pd_ck m i op = true := by
  rcases Nat.lt_or_ge m 20 with h0 | h0
  · exact pd_ck_of (pd_rng pd_ok0 (Nat.zero_le m) (by omega)) ho
  rcases Nat.lt_or_ge m 47 with h1 | h1
  · exact pd_ck_of (pd_rng pd_ok1 h0 (by omega)) ho
  rcases Nat.lt_or_ge m 80 with h2 | h2
  · exact pd_ck_of (pd_rng pd_ok2 h1 (by omega)) ho
  rcases Nat.lt_or_ge m 89 with h3 | h3
  · exact pd_ck_of (pd_rng pd_ok3 h2 (by omega)) ho
  have hm : m = 89 := by omega
  subst hm
  have hi : i ≤ 1076 := by
    unfold pd_cd at ho
    cases hb : Nat.ble i (pd_mx 89) with
    | true => exact Nat.le_of_ble_eq_true hb
    | false => rw [hb] at ho; cases ho
  have fin : (match pd_cd 89 i with | none => true | some op => pd_ck 89 i op) = true → pd_ck 89 i op = true := fun h => by rw [ho] at h; exact h
  apply fin
  rcases Nat.lt_or_ge i 48 with g0 | g0
  · exact pd_rng pd_okl0 (Nat.zero_le i) (by omega)
  rcases Nat.lt_or_ge i 96 with g1 | g1
  · exact pd_rng pd_okl1 g0 (by omega)
  rcases Nat.lt_or_ge i 144 with g2 | g2
  · exact pd_rng pd_okl2 g1 (by omega)
  rcases Nat.lt_or_ge i 192 with g3 | g3
  · exact pd_rng pd_okl3 g2 (by omega)
  rcases Nat.lt_or_ge i 240 with g4 | g4
  · exact pd_rng pd_okl4 g3 (by omega)
  rcases Nat.lt_or_ge i 288 with g5 | g5
  · exact pd_rng pd_okl5 g4 (by omega)
  rcases Nat.lt_or_ge i 336 with g6 | g6
  · exact pd_rng pd_okl6 g5 (by omega)
  rcases Nat.lt_or_ge i 384 with g7 | g7
  · exact pd_rng pd_okl7 g6 (by omega)
  rcases Nat.lt_or_ge i 432 with g8 | g8
  · exact pd_rng pd_okl8 g7 (by omega)
  rcases Nat.lt_or_ge i 480 with g9 | g9
  · exact pd_rng pd_okl9 g8 (by omega)
  rcases Nat.lt_or_ge i 528 with g10 | g10
  · exact pd_rng pd_okl10 g9 (by omega)
  rcases Nat.lt_or_ge i 576 with g11 | g11
  · exact pd_rng pd_okl11 g10 (by omega)
  rcases Nat.lt_or_ge i 624 with g12 | g12
  · exact pd_rng pd_okl12 g11 (by omega)
  rcases Nat.lt_or_ge i 672 with g13 | g13
  · exact pd_rng pd_okl13 g12 (by omega)
  rcases Nat.lt_or_ge i 720 with g14 | g14
  · exact pd_rng pd_okl14 g13 (by omega)
  rcases Nat.lt_or_ge i 768 with g15 | g15
  · exact pd_rng pd_okl15 g14 (by omega)
  rcases Nat.lt_or_ge i 816 with g16 | g16
  · exact pd_rng pd_okl16 g15 (by omega)
  rcases Nat.lt_or_ge i 864 with g17 | g17
  · exact pd_rng pd_okl17 g16 (by omega)
  rcases Nat.lt_or_ge i 912 with g18 | g18
  · exact pd_rng pd_okl18 g17 (by omega)
  rcases Nat.lt_or_ge i 960 with g19 | g19
  · exact pd_rng pd_okl19 g18 (by omega)
  rcases Nat.lt_or_ge i 1008 with g20 | g20
  · exact pd_rng pd_okl20 g19 (by omega)
  rcases Nat.lt_or_ge i 1056 with g21 | g21
  · exact pd_rng pd_okl21 g20 (by omega)
  exact pd_rng pd_okl22 g21 (by omega)
theorem pd_MC_all {m : Nat} (hm : m < 89) : tables_1[(pd_mt m).2.2.2.2]? = some (Cond.code (pd_y m) (pd_b m) (pd_ml m) (pd_rt m)) := by
  rcases Nat.lt_or_ge m 30 with h0 | h0
  · exact of_decide_eq_true (pd_rng pd_MC_ok0 (Nat.zero_le m) (by omega))
  rcases Nat.lt_or_ge m 60 with h1 | h1
  · exact of_decide_eq_true (pd_rng pd_MC_ok1 h0 (by omega))
  exact of_decide_eq_true (pd_rng pd_MC_ok2 h1 (by omega))
theorem pd_W_lw {i : Nat} {w : Jvm.Cond} (h : lw_tbl[i]? = some w) (g : goodWord w = true) : w ∈ pd_W := pd_W_in (List.mem_of_getElem? h) g
theorem pd_CW_all {k : Nat} (hk : k < 89) : pd_CW k := by
  have h1 := pd_rng0 pd_MT_ok hk
  have h2 := pd_rng0 pd_MY_ok hk
  simp only [Bool.and_eq_true, decide_eq_true_eq] at h1 h2
  obtain ⟨⟨a1, a2⟩, a3⟩ := h1
  obtain ⟨⟨⟨b1, b2⟩, b3⟩, b4⟩ := h2
  refine ⟨pd_W_tab (pd_MC_all hk) rfl, pd_W_tab a1 ?_, fun h0 => ?_, pd_W_tab a3 rfl, b1, b2, b3, b4⟩
  · cases Nat.beq (pd_mt k).1 1 <;> rfl
  · rw [h0] at a2
    have a2 : (false || decide (lw_tbl[(pd_mt k).2.2.1]? = some (Cond.selects (pd_y k).cls (pd_y k) (pd_y k)))) = true := a2
    rw [Bool.false_or, decide_eq_true_eq] at a2
    exact pd_W_lw a2 rfl
theorem pd_TF_ok : pd_TF := by
  refine ⟨fun m i op hm ho => pd_TF_code hm ho, fun k hk => pd_CW_all hk, fun e he => ?_, fun e he => ?_, fun e he => ?_, fun e he => ?_, fun t ht w hw => ?_⟩
  · exact pd_W_tab (of_decide_eq_true (List.all_eq_true.mp pd_FL_ok e he)) rfl
  · exact pd_W_tab (of_decide_eq_true (List.all_eq_true.mp pd_CI_ok e he)) rfl
  · exact pd_W_tab (of_decide_eq_true (List.all_eq_true.mp pd_CJ_ok e he)) rfl
  · intro h0
    have h1 := of_decide_eq_true (List.all_eq_true.mp pd_CL_ok e he)
    rw [h0] at h1
    exact pd_W_tab (w := Jvm.Cond.methodLink (pd_cn e.1) e.2.1 (pd_y e.2.2.1)) h1 rfl
  · obtain ⟨k, h1, rfl⟩ := List.mem_map.mp hw
    exact pd_W_tab (of_decide_eq_true (pd_rng0 (pd_rng0 pd_LP_ok ht) (List.mem_range.mp h1))) (pd_lay_good _ _ _)
end
section
/-! The machine over the things of all four does on one desk what the machine of one desk does. -/
/-- four desks (and the law's own, the fifth) side by side -/
def p4_jn (s : Nat → pd_H) : pd_H := (fun o => (s (o / 230)).1 (o % 230), fun o => (s (o / 230)).2.1 (o % 230), fun o => 230 * (o / 230) + (s (o / 230)).2.2 (o % 230))
def p4_pt (s : Nat → pd_H) (d : Nat) (S : pd_H) : Nat → pd_H := fun q => if q = d then S else s q
def p4_sh (d : Nat) : pd_V → pd_V
  | .inr (.inr (t, k)) => .inr (.inr (t, 230 * d + k))
  | .inr (.inl x) => .inr (.inl x)
  | .inl x => .inl x
def p4_eL (d : Nat) (ls : pd_L) : pd_L := ls.map (Option.map (p4_sh d))
def p4_eS (d : Nat) (st : List pd_V) : List pd_V := st.map (p4_sh d)
def p4_eC (s : Nat → pd_H) (d : Nat) (c : pd_C) : pd_C := (c.1, c.2.1, p4_eL d c.2.2.1, p4_eS d c.2.2.2.1, p4_jn (p4_pt s d c.2.2.2.2))
def p4_eR (s : Nat → pd_H) (d : Nat) (r : pd_R) : pd_R := (p4_jn (p4_pt s d r.1), r.2.map (p4_sh d))
def p4_gv (v : pd_V) : Prop := match v with
  | .inr (.inr (t, k)) => k < 230 ∧ pd_tag k = t
  | _ => True
def p4_gL (ls : pd_L) : Prop := ∀ o ∈ ls, ∀ v, o = some v → p4_gv v
def p4_gS (st : List pd_V) : Prop := ∀ v ∈ st, p4_gv v
def p4_gH (S : pd_H) : Prop := ∀ y, y < 2 → S.2.2 y < 230 ∧ pd_tag (S.2.2 y) = 2
def p4_gC (c : pd_C) : Prop := c.1 < 90 ∧ p4_gL c.2.2.1 ∧ p4_gS c.2.2.2.1 ∧ p4_gH c.2.2.2.2
def p4_gR (r : pd_R) : Prop := p4_gH r.1 ∧ ∀ v, r.2 = some v → p4_gv v
section SIM
variable {s : Nat → pd_H} {d m pc q k x y z n : Nat} {ls : pd_L} {st r : List pd_V} {S : pd_H} {v : pd_V}
theorem p4_ptd : p4_pt s d S d = S := if_pos rfl
theorem p4_jn1 (h : k < 230) : (p4_jn (p4_pt s d S)).1 (230 * d + k) = S.1 k := by
  show (p4_pt s d S ((230 * d + k) / 230)).1 ((230 * d + k) % 230) = _
  rw [show (230 * d + k) / 230 = d by omega, show (230 * d + k) % 230 = k by omega, p4_ptd]
theorem p4_jn2 (h : k < 230) : (p4_jn (p4_pt s d S)).2.1 (230 * d + k) = S.2.1 k := by
  show (p4_pt s d S ((230 * d + k) / 230)).2.1 ((230 * d + k) % 230) = _
  rw [show (230 * d + k) / 230 = d by omega, show (230 * d + k) % 230 = k by omega, p4_ptd]
theorem p4_jn3 (h : k < 230) : (p4_jn (p4_pt s d S)).2.2 (230 * d + k) = 230 * d + S.2.2 k := by
  show 230 * ((230 * d + k) / 230) + (p4_pt s d S ((230 * d + k) / 230)).2.2 ((230 * d + k) % 230) = _
  rw [show (230 * d + k) / 230 = d by omega, show (230 * d + k) % 230 = k by omega, p4_ptd]
theorem p4_bsd (h : k < 230) : p4_bs (230 * d + k) = 230 * d := by unfold p4_bs; omega
theorem p4_tagd (hd : d < 4) (h : k < 230) : p4_tag (230 * d + k) = pd_tag k := by
  rw [p4_tagL (by omega), show (230 * d + k) % 230 = k by omega]
theorem p4_lend (hd : d < 4) (h : k < 230) : p4_len (230 * d + k) = pd_len k := by
  rw [p4_lenL (by omega), show (230 * d + k) % 230 = k by omega]
theorem p4_at230 {o : Nat} (h : k < 230) : (o = 230 * d + k) ↔ (o / 230 = d ∧ o % 230 = k) := by omega
theorem p4_ptn {S' : pd_H} {o : Nat} (h : o ≠ d) : p4_pt s d S o = p4_pt s d S' o := by
  unfold p4_pt
  rw [if_neg h, if_neg h]
theorem p4_upI {i : Nat} {w : Int32} (h : k < 230) : pd_upI (p4_jn (p4_pt s d S)) (230 * d + k) i w = p4_jn (p4_pt s d (pd_upI S k i w)) := by
  refine Prod.ext (funext fun o => ?_) (Prod.ext (funext fun o => ?_) (funext fun o => ?_))
  · show (if o = 230 * d + k then upd ((p4_jn (p4_pt s d S)).1 (230 * d + k)) i w else (p4_jn (p4_pt s d S)).1 o) = (p4_pt s d (pd_upI S k i w) (o / 230)).1 (o % 230)
    by_cases hd : o / 230 = d
    · rw [hd, p4_ptd]
      show _ = (if o % 230 = k then upd (S.1 k) i w else S.1 (o % 230))
      by_cases hk : o % 230 = k
      · rw [if_pos ((p4_at230 h).mpr ⟨hd, hk⟩), if_pos hk, p4_jn1 h]
      · rw [if_neg (fun z => hk ((p4_at230 h).mp z).2), if_neg hk]
        show (p4_pt s d S (o / 230)).1 (o % 230) = _
        rw [hd, p4_ptd]
    · rw [if_neg (fun z => hd ((p4_at230 h).mp z).1), p4_ptn (S' := S) hd]
      rfl
  · show (p4_pt s d S (o / 230)).2.1 (o % 230) = (p4_pt s d (pd_upI S k i w) (o / 230)).2.1 (o % 230)
    unfold p4_pt
    split <;> rfl
  · show 230 * (o / 230) + (p4_pt s d S (o / 230)).2.2 (o % 230) = 230 * (o / 230) + (p4_pt s d (pd_upI S k i w) (o / 230)).2.2 (o % 230)
    unfold p4_pt
    split <;> rfl
theorem p4_upJ {i : Nat} {w : Int64} (h : k < 230) : pd_upJ (p4_jn (p4_pt s d S)) (230 * d + k) i w = p4_jn (p4_pt s d (pd_upJ S k i w)) := by
  refine Prod.ext (funext fun o => ?_) (Prod.ext (funext fun o => ?_) (funext fun o => ?_))
  · show (p4_pt s d S (o / 230)).1 (o % 230) = (p4_pt s d (pd_upJ S k i w) (o / 230)).1 (o % 230)
    unfold p4_pt
    split <;> rfl
  · show (if o = 230 * d + k then vp_updL ((p4_jn (p4_pt s d S)).2.1 (230 * d + k)) i w else (p4_jn (p4_pt s d S)).2.1 o) = (p4_pt s d (pd_upJ S k i w) (o / 230)).2.1 (o % 230)
    by_cases hd : o / 230 = d
    · rw [hd, p4_ptd]
      show _ = (if o % 230 = k then vp_updL (S.2.1 k) i w else S.2.1 (o % 230))
      by_cases hk : o % 230 = k
      · rw [if_pos ((p4_at230 h).mpr ⟨hd, hk⟩), if_pos hk, p4_jn2 h]
      · rw [if_neg (fun z => hk ((p4_at230 h).mp z).2), if_neg hk]
        show (p4_pt s d S (o / 230)).2.1 (o % 230) = _
        rw [hd, p4_ptd]
    · rw [if_neg (fun z => hd ((p4_at230 h).mp z).1), p4_ptn (S' := S) hd]
      rfl
  · show 230 * (o / 230) + (p4_pt s d S (o / 230)).2.2 (o % 230) = 230 * (o / 230) + (p4_pt s d (pd_upJ S k i w) (o / 230)).2.2 (o % 230)
    unfold p4_pt
    split <;> rfl
theorem p4_upR {w : Nat} (h : k < 230) : pd_upR (p4_jn (p4_pt s d S)) (230 * d + k) (230 * d + w) = p4_jn (p4_pt s d (pd_upR S k w)) := by
  refine Prod.ext (funext fun o => ?_) (Prod.ext (funext fun o => ?_) (funext fun o => ?_))
  · show (p4_pt s d S (o / 230)).1 (o % 230) = (p4_pt s d (pd_upR S k w) (o / 230)).1 (o % 230)
    unfold p4_pt
    split <;> rfl
  · show (p4_pt s d S (o / 230)).2.1 (o % 230) = (p4_pt s d (pd_upR S k w) (o / 230)).2.1 (o % 230)
    unfold p4_pt
    split <;> rfl
  · show (if o = 230 * d + k then 230 * d + w else (p4_jn (p4_pt s d S)).2.2 o) = 230 * (o / 230) + (p4_pt s d (pd_upR S k w) (o / 230)).2.2 (o % 230)
    by_cases hd : o / 230 = d
    · rw [hd, p4_ptd]
      show _ = 230 * d + (if o % 230 = k then w else S.2.2 (o % 230))
      by_cases hk : o % 230 = k
      · rw [if_pos ((p4_at230 h).mpr ⟨hd, hk⟩), if_pos hk]
      · rw [if_neg (fun z => hk ((p4_at230 h).mp z).2), if_neg hk]
        show 230 * (o / 230) + (p4_pt s d S (o / 230)).2.2 (o % 230) = _
        rw [hd, p4_ptd]
    · rw [if_neg (fun z => hd ((p4_at230 h).mp z).1), p4_ptn (S' := S) hd]
      rfl
/-- what the steps of the two are to each other -/
def p4_ss (s : Nat → pd_H) (d : Nat) (a b : pd_S) : Prop := match a with
  | .inl (.inl none) => True
  | .inl (.inl (some r)) => b = .inl (.inl (some (p4_eR s d r))) ∧ p4_gR r
  | .inl (.inr c) => b = .inl (.inr (p4_eC s d c)) ∧ p4_gC c
  | .inr (.inl (true, o1, _)) => ∃ o2, b = .inr (.inl (true, o1.map (p4_eC s d), o2)) ∧ ∀ c, o1 = some c → p4_gC c
  | .inr (.inl (false, _, o2)) => ∃ o1, b = .inr (.inl (false, o1, o2.map (p4_eC s d))) ∧ ∀ c, o2 = some c → p4_gC c
  | .inr (.inr (.inl (x, tb, c))) => b = .inr (.inr (.inl (x, tb, p4_eC s d c))) ∧ p4_gC c
  | .inr (.inr (.inr (cc, z, t, c))) => b = .inr (.inr (.inr (p4_eC s d cc, z, t, p4_eC s d c))) ∧ p4_gC cc ∧ p4_gC c
def p4_sim1 (s : Nat → pd_H) (d : Nat) (g g' : pd_C → Option pd_R) : Prop := ∀ c, p4_gC c → ∀ r, g c = some r → g' (p4_eC s d c) = some (p4_eR s d r) ∧ p4_gR r
section FS
variable {g g' h h' : pd_C → Option pd_R}
theorem p4_simO (H : p4_sim1 s d h h') {o : Option pd_C} (ho : ∀ c, o = some c → p4_gC c) {w : pd_R} (e : pd_ho h o = some w) : pd_ho h' (o.map (p4_eC s d)) = some (p4_eR s d w) ∧ p4_gR w := by
  cases o with
  | none => cases e
  | some c => exact H c (ho c rfl) w e
theorem p4_simW (H : p4_sim1 s d h h') {a : Int32} {tb : List (Int32 × Nat)} {c : pd_C} (hc : p4_gC c) {w : pd_R} (e : pd_sw h a tb c = some w) : pd_sw h' a tb (p4_eC s d c) = some (p4_eR s d w) ∧ p4_gR w := by
  induction tb with
  | nil => exact H c hc w e
  | cons p t ih =>
    unfold pd_sw at e ⊢
    cases hq : decide (a = p.1) with
    | true =>
      rw [hq] at e
      exact H (c.1, p.2, c.2.2) hc w e
    | false =>
      rw [hq] at e
      exact ih e
theorem p4_simL (G : p4_sim1 s d g g') (H : p4_sim1 s d h h') {cc c : pd_C} {t : Nat} (hcc : p4_gC cc) (hc : p4_gC c) {w : pd_R} (e : pd_cl h (g cc) z t c = some w) : pd_cl h' (g' (p4_eC s d cc)) z t (p4_eC s d c) = some (p4_eR s d w) ∧ p4_gR w := by
  obtain ⟨m, pc, ls, st, σ0⟩ := c
  unfold pd_cl at e
  dsimp only at e
  split at e
  · obtain ⟨σ, e1, e2⟩ := pd_bV_some e
    obtain ⟨f1, f2⟩ := G cc hcc _ e1
    rw [f1]
    exact H (m, pc, ls, st, σ) ⟨hc.1, hc.2.1, hc.2.2.1, f2.1⟩ w e2
  · obtain ⟨σ, a, e1, e2⟩ := pd_bI_some e
    obtain ⟨f1, f2⟩ := G cc hcc _ e1
    rw [f1]
    exact H (m, pc, ls, pd_i a :: st, σ) ⟨hc.1, hc.2.1, fun v hv => by rcases List.mem_cons.mp hv with q | q; · subst q; trivial
                                                                       · exact hc.2.2.1 v q, f2.1⟩ w e2
  · obtain ⟨σ, a, e1, e2⟩ := pd_bJ_some e
    obtain ⟨f1, f2⟩ := G cc hcc _ e1
    rw [f1]
    exact H (m, pc, ls, pd_j a :: st, σ) ⟨hc.1, hc.2.1, fun v hv => by rcases List.mem_cons.mp hv with q | q; · subst q; trivial
                                                                       · exact hc.2.2.1 v q, f2.1⟩ w e2
  · obtain ⟨σ, o, e1, e2⟩ := pd_bR_some e
    obtain ⟨f1, f2⟩ := G cc hcc _ e1
    rw [f1]
    have k1 := H (m, pc, ls, pd_r t o :: st, σ) ⟨hc.1, hc.2.1, fun v hv => by rcases List.mem_cons.mp hv with q | q; · subst q; exact f2.2 _ rfl
                                                                              · exact hc.2.2.1 v q, f2.1⟩ w e2
    unfold pd_cl
    dsimp only [p4_eC]
    split
    · contradiction
    · contradiction
    · contradiction
    · show pd_bR (some (p4_jn (p4_pt s d σ), some (pd_r t (230 * d + o)))) t _ = _ ∧ _
      rw [pd_bR_of]
      exact k1
theorem p4_simF (G : p4_sim1 s d g g') (H : p4_sim1 s d h h') {a b : pd_S} (hs : p4_ss s d a b) {w : pd_R} (e : pd_F g h a = some w) : pd_F g' h' b = some (p4_eR s d w) ∧ p4_gR w := by
  match a, hs, e with
  | .inl (.inl none), _, e => cases e
  | .inl (.inl (some p)), hs, e =>
    cases e
    rw [hs.1]
    exact ⟨rfl, hs.2⟩
  | .inl (.inr c), hs, e =>
    rw [hs.1]
    exact H c hs.2 w e
  | .inr (.inl (true, o1, _)), hs, e =>
    obtain ⟨o2, h1, h2⟩ := hs
    rw [h1]
    exact p4_simO H h2 e
  | .inr (.inl (false, _, o2)), hs, e =>
    obtain ⟨o1, h1, h2⟩ := hs
    rw [h1]
    exact p4_simO H h2 e
  | .inr (.inr (.inl (x, tb, c))), hs, e =>
    rw [hs.1]
    exact p4_simW H hs.2 e
  | .inr (.inr (.inr (cc, z, t, c))), hs, e =>
    rw [hs.1]
    exact p4_simL G H hs.2.1 hs.2.2 e
end FS
/-! what a step does to values and locals -/
theorem p4_gSt (h : p4_gS (v :: st)) : p4_gS st := fun w hw => h w (List.mem_cons_of_mem _ hw)
theorem p4_gSh (h : p4_gS (v :: st)) : p4_gv v := h v List.mem_cons_self
theorem p4_gSc (hv : p4_gv v) (h : p4_gS st) : p4_gS (v :: st) := fun w hw => by
  rcases List.mem_cons.mp hw with q | q
  · subst q; exact hv
  · exact h w q
theorem p4_twod : pd_two (p4_sh d v) = pd_two v := by
  rcases v with (x | x) | ((x | x) | ⟨t, o⟩) <;> rfl
theorem p4_is2d {o : Option pd_V} : pd_is2 (o.map (p4_sh d)) = pd_is2 o := by
  cases o with
  | none => rfl
  | some v => exact p4_twod
theorem p4_nthd : ∀ (ls : pd_L) (k : Nat), pd_nth (p4_eL d ls) k = (pd_nth ls k).map (p4_sh d)
  | [], _ => rfl
  | _ :: _, 0 => rfl
  | _ :: t, k + 1 => p4_nthd t k
theorem p4_set1d : ∀ (ls : pd_L) (k : Nat) (v : pd_V), pd_set1 (p4_eL d ls) k (p4_sh d v) = p4_eL d (pd_set1 ls k v)
  | [], _, _ => rfl
  | _ :: _, 0, _ => rfl
  | a :: t, 1, v => by
    show cond (pd_is2 (a.map (p4_sh d))) none (a.map (p4_sh d)) :: pd_set1 (p4_eL d t) 0 (p4_sh d v) = (cond (pd_is2 a) none a).map (p4_sh d) :: p4_eL d (pd_set1 t 0 v)
    rw [p4_is2d, p4_set1d t 0 v]
    cases pd_is2 a <;> rfl
  | a :: t, k + 2, v => congrArg (a.map (p4_sh d) :: ·) (p4_set1d t (k + 1) v)
theorem p4_clrd (ls : pd_L) : pd_clr (p4_eL d ls) = p4_eL d (pd_clr ls) := by cases ls <;> rfl
theorem p4_set2d : ∀ (ls : pd_L) (k : Nat) (v : pd_V), pd_set2 (p4_eL d ls) k (p4_sh d v) = p4_eL d (pd_set2 ls k v)
  | [], _, _ => rfl
  | _ :: t, 0, v => by
    show some (p4_sh d v) :: pd_clr (p4_eL d t) = some (p4_sh d v) :: p4_eL d (pd_clr t)
    rw [p4_clrd]
  | a :: t, 1, v => by
    show cond (pd_is2 (a.map (p4_sh d))) none (a.map (p4_sh d)) :: pd_set2 (p4_eL d t) 0 (p4_sh d v) = (cond (pd_is2 a) none a).map (p4_sh d) :: p4_eL d (pd_set2 t 0 v)
    rw [p4_is2d, p4_set2d t 0 v]
    cases pd_is2 a <;> rfl
  | a :: t, k + 2, v => congrArg (a.map (p4_sh d) :: ·) (p4_set2d t (k + 1) v)
theorem p4_noned : ∀ n, p4_eL d (pd_none n) = pd_none n
  | 0 => rfl
  | n + 1 => congrArg (none :: ·) (p4_noned n)
theorem p4_end : ∀ (av : List pd_V) (n : Nat), pd_en (p4_eS d av) n = p4_eL d (pd_en av n)
  | [], n => (p4_noned n).symm
  | v :: r, n => by
    show cond (pd_two (p4_sh d v)) (some (p4_sh d v) :: none :: pd_en (p4_eS d r) (n - 2)) (some (p4_sh d v) :: pd_en (p4_eS d r) (n - 1)) = p4_eL d (cond (pd_two v) _ _)
    rw [p4_twod, p4_end r, p4_end r]
    cases pd_two v <;> rfl
theorem p4_catsd : ∀ (st : List pd_V), pd_cats (p4_eS d st) = pd_cats st
  | [] => rfl
  | v :: r => by
    show cond (pd_two (p4_sh d v)) 2 1 + pd_cats (p4_eS d r) = cond (pd_two v) 2 1 + pd_cats r
    rw [p4_twod, p4_catsd r]
theorem p4_gLnth : ∀ {ls : pd_L} {k : Nat}, p4_gL ls → pd_nth ls k = some v → p4_gv v
  | [], _, _, h => by cases h
  | a :: _, 0, g, h => g a List.mem_cons_self v h
  | _ :: t, k + 1, g, h => p4_gLnth (ls := t) (k := k) (fun o ho => g o (List.mem_cons_of_mem _ ho)) h
theorem p4_gLc {o : Option pd_V} (ho : ∀ w, o = some w → p4_gv w) (h : p4_gL ls) : p4_gL (o :: ls) := fun p hp => by
  rcases List.mem_cons.mp hp with q | q
  · subst q; exact ho
  · exact h p q
theorem p4_gLt {o : Option pd_V} (h : p4_gL (o :: ls)) : p4_gL ls := fun p hp => h p (List.mem_cons_of_mem _ hp)
theorem p4_gLh {o : Option pd_V} (h : p4_gL (o :: ls)) : ∀ w, o = some w → p4_gv w := h o List.mem_cons_self
theorem p4_gcd {o : Option pd_V} {b : Bool} (h : ∀ w, o = some w → p4_gv w) : ∀ w, cond b none o = some w → p4_gv w := by
  cases b
  · exact h
  · intro w hw; cases hw
theorem p4_gL1 (hv : p4_gv v) : ∀ (ls : pd_L) (k : Nat), p4_gL ls → p4_gL (pd_set1 ls k v)
  | [], _, h => h
  | _ :: t, 0, h => p4_gLc (fun w hw => by cases hw; exact hv) (p4_gLt h)
  | a :: t, 1, h => p4_gLc (p4_gcd (p4_gLh h)) (p4_gL1 hv t 0 (p4_gLt h))
  | a :: t, k + 2, h => p4_gLc (p4_gLh h) (p4_gL1 hv t (k + 1) (p4_gLt h))
theorem p4_gL2 (hv : p4_gv v) : ∀ (ls : pd_L) (k : Nat), p4_gL ls → p4_gL (pd_set2 ls k v)
  | [], _, h => h
  | [_], 0, h => p4_gLc (fun w hw => by cases hw; exact hv) (p4_gLt h)
  | _ :: _ :: t, 0, h => p4_gLc (fun w hw => by cases hw; exact hv) (p4_gLc (fun w hw => by cases hw) (p4_gLt (p4_gLt h)))
  | a :: t, 1, h => p4_gLc (p4_gcd (p4_gLh h)) (p4_gL2 hv t 0 (p4_gLt h))
  | a :: t, k + 2, h => p4_gLc (p4_gLh h) (p4_gL2 hv t (k + 1) (p4_gLt h))
theorem p4_gLn : ∀ n, p4_gL (pd_none n)
  | 0 => fun o ho => absurd ho List.not_mem_nil
  | n + 1 => p4_gLc (fun w hw => by cases hw) (p4_gLn n)
theorem p4_gLe : ∀ (av : List pd_V) (n : Nat), p4_gS av → p4_gL (pd_en av n)
  | [], n, _ => p4_gLn n
  | v :: r, n, h => by
    unfold pd_en
    cases pd_two v with
    | true => exact p4_gLc (fun w hw => by cases hw; exact p4_gSh h) (p4_gLc (fun w hw => by cases hw) (p4_gLe r _ (p4_gSt h)))
    | false => exact p4_gLc (fun w hw => by cases hw; exact p4_gSh h) (p4_gLe r _ (p4_gSt h))
/-! one lemma for each kind of step -/
theorem p4_tcs {t o : Nat} (h : p4_gv (pd_r t o)) : o < 230 ∧ pd_tag o = t ∧ (t = 0 ∨ t = 1 ∨ t = 2 ∨ t = 3 ∨ t = 4 ∨ t = 5 ∨ t = 6 ∨ t = 7 ∨ t = 8 ∨ t = 9 ∨ t = 20 ∨ t = 21 ∨ t = 22 ∨ t = 23 ∨ t = 24) := by
  obtain ⟨h1, h2⟩ : o < 230 ∧ pd_tag o = t := h
  have f : ∀ j, j < 230 → pd_tag j < 10 ∨ (20 ≤ pd_tag j ∧ pd_tag j < 25) := by decide +kernel
  have := f o h1
  exact ⟨h1, h2, by omega⟩
theorem p4_f23 : ∀ j, j < 230 → pd_tag j = 23 → pd_len j = 150 := by decide +kernel
theorem p4_f24 : ∀ j, j < 230 → pd_tag j = 24 → pd_len j = 6 := by decide +kernel
theorem p4_fchg : ∀ i, i < 150 → 80 + i < 230 ∧ pd_tag (80 + i) = 1 := by decide +kernel
theorem p4_fseq : ∀ i, i < 6 → 20 + 2 * i < 230 ∧ pd_tag (20 + 2 * i) = 4 := by decide +kernel
theorem ss_push (h : p4_gC (m, q, ls, st, S)) (hv : p4_sh d v = v) (g : p4_gv v) : p4_ss s d (pd_go (m, pc, ls, v :: st, S)) (pd_go (m, pc, p4_eL d ls, v :: p4_eS d st, p4_jn (p4_pt s d S))) := by
  refine ⟨?_, h.1, h.2.1, p4_gSc g h.2.2.1, h.2.2.2⟩
  show _ = (Sum.inl (Sum.inr (m, pc, p4_eL d ls, p4_sh d v :: p4_eS d st, _)) : pd_S)
  rw [hv]
theorem ss_gd {b : Bool} {c : pd_C} (hc : b = false → p4_gC c) : p4_ss s d (pd_gd b c) (pd_gd b (p4_eC s d c)) := by
  cases b with
  | false => exact ⟨none, rfl, fun c' e => by cases e; exact hc rfl⟩
  | true => exact ⟨some (p4_eC s d c), rfl, fun c' e => by cases e⟩
theorem ss_cd {b : Bool} {c1 c2 : pd_C} (h1 : p4_gC c1) (h2 : p4_gC c2) : p4_ss s d (.inr (.inl (b, some c1, some c2))) (.inr (.inl (b, some (p4_eC s d c1), some (p4_eC s d c2)))) := by
  cases b with
  | false => exact ⟨_, rfl, fun c' e => by cases e; exact h2⟩
  | true => exact ⟨_, rfl, fun c' e => by cases e; exact h1⟩
theorem ss_br {cc : ClassFile.Cond} {a b : Int32} {c1 c2 : pd_C} (h1 : p4_gC c1) (h2 : p4_gC c2) : p4_ss s d (pd_br cc a b c1 c2) (pd_br cc a b (p4_eC s d c1) (p4_eC s d c2)) := by
  cases cc <;> first | exact ss_cd h1 h2 | exact ss_cd h2 h1

theorem ss_ii {f : Int32 → Int32 → Int32} (h : p4_gC (m, q, ls, st, S)) : p4_ss s d (pd_ii f m pc ls st S) (pd_ii f m pc (p4_eL d ls) (p4_eS d st) (p4_jn (p4_pt s d S))) := by
  rcases st with _ | ⟨(a | a) | ((a | a) | ⟨a, a'⟩), _ | ⟨(b | b) | ((b | b) | ⟨b, b'⟩), r⟩⟩ <;> first | exact trivial | exact ⟨rfl, h.1, h.2.1, p4_gSc trivial (p4_gSt (p4_gSt (h.2.2.1))), h.2.2.2⟩
theorem ss_jj {f : Int64 → Int64 → Int64} (h : p4_gC (m, q, ls, st, S)) : p4_ss s d (pd_jj f m pc ls st S) (pd_jj f m pc (p4_eL d ls) (p4_eS d st) (p4_jn (p4_pt s d S))) := by
  rcases st with _ | ⟨(a | a) | ((a | a) | ⟨a, a'⟩), _ | ⟨(b | b) | ((b | b) | ⟨b, b'⟩), r⟩⟩ <;> first | exact trivial | exact ⟨rfl, h.1, h.2.1, p4_gSc trivial (p4_gSt (p4_gSt (h.2.2.1))), h.2.2.2⟩
theorem ss_ji {f : Int64 → Int32 → Int64} (h : p4_gC (m, q, ls, st, S)) : p4_ss s d (pd_ji f m pc ls st S) (pd_ji f m pc (p4_eL d ls) (p4_eS d st) (p4_jn (p4_pt s d S))) := by
  rcases st with _ | ⟨(a | a) | ((a | a) | ⟨a, a'⟩), _ | ⟨(b | b) | ((b | b) | ⟨b, b'⟩), r⟩⟩ <;> first | exact trivial | exact ⟨rfl, h.1, h.2.1, p4_gSc trivial (p4_gSt (p4_gSt (h.2.2.1))), h.2.2.2⟩
theorem ss_cv1 {f : Int32 → Int32} (h : p4_gC (m, q, ls, st, S)) : p4_ss s d (pd_cv1 f m pc ls st S) (pd_cv1 f m pc (p4_eL d ls) (p4_eS d st) (p4_jn (p4_pt s d S))) := by
  rcases st with _ | ⟨(a | a) | ((a | a) | ⟨a, a'⟩), r⟩ <;> first | exact trivial | exact ⟨rfl, h.1, h.2.1, p4_gSc trivial (p4_gSt (h.2.2.1)), h.2.2.2⟩
theorem ss_ldi (h : p4_gC (m, q, ls, st, S)) : p4_ss s d (pd_ldi m pc ls st S k) (pd_ldi m pc (p4_eL d ls) (p4_eS d st) (p4_jn (p4_pt s d S)) k) := by
  unfold pd_ldi
  rw [p4_nthd]
  cases hq : pd_nth ls k with
  | none => exact trivial
  | some v =>
    have gv := p4_gLnth h.2.1 hq
    rcases v with (x | x) | ((x | x) | ⟨t, o⟩) <;> first | exact trivial | exact ⟨rfl, h.1, h.2.1, p4_gSc gv h.2.2.1, h.2.2.2⟩
theorem ss_ldj (h : p4_gC (m, q, ls, st, S)) : p4_ss s d (pd_ldj m pc ls st S k) (pd_ldj m pc (p4_eL d ls) (p4_eS d st) (p4_jn (p4_pt s d S)) k) := by
  unfold pd_ldj
  rw [p4_nthd]
  cases hq : pd_nth ls k with
  | none => exact trivial
  | some v =>
    have gv := p4_gLnth h.2.1 hq
    rcases v with (x | x) | ((x | x) | ⟨t, o⟩) <;> first | exact trivial | exact ⟨rfl, h.1, h.2.1, p4_gSc gv h.2.2.1, h.2.2.2⟩
theorem ss_lda (h : p4_gC (m, q, ls, st, S)) : p4_ss s d (pd_lda m pc ls st S k) (pd_lda m pc (p4_eL d ls) (p4_eS d st) (p4_jn (p4_pt s d S)) k) := by
  unfold pd_lda
  rw [p4_nthd]
  cases hq : pd_nth ls k with
  | none => exact trivial
  | some v =>
    have gv := p4_gLnth h.2.1 hq
    rcases v with (x | x) | ((x | x) | ⟨t, o⟩) <;> first | exact trivial | exact ⟨rfl, h.1, h.2.1, p4_gSc gv h.2.2.1, h.2.2.2⟩
theorem ss_sti (h : p4_gC (m, q, ls, st, S)) : p4_ss s d (pd_sti m pc ls st S k) (pd_sti m pc (p4_eL d ls) (p4_eS d st) (p4_jn (p4_pt s d S)) k) := by
  rcases st with _ | ⟨v, r⟩
  · exact trivial
  · have e := p4_set1d (d := d) ls k v
    have gl := p4_gL1 (p4_gSh h.2.2.1) ls k h.2.1
    rcases v with (x | x) | ((x | x) | ⟨t, o⟩) <;> first | exact trivial | (refine ⟨?_, h.1, gl, p4_gSt h.2.2.1, h.2.2.2⟩; exact congrArg (fun l => (Sum.inl (Sum.inr (m, pc, l, p4_eS d r, p4_jn (p4_pt s d S))) : pd_S)) e)
theorem ss_stj (h : p4_gC (m, q, ls, st, S)) : p4_ss s d (pd_stj m pc ls st S k) (pd_stj m pc (p4_eL d ls) (p4_eS d st) (p4_jn (p4_pt s d S)) k) := by
  rcases st with _ | ⟨v, r⟩
  · exact trivial
  · have e := p4_set2d (d := d) ls k v
    have gl := p4_gL2 (p4_gSh h.2.2.1) ls k h.2.1
    rcases v with (x | x) | ((x | x) | ⟨t, o⟩) <;> first | exact trivial | (refine ⟨?_, h.1, gl, p4_gSt h.2.2.1, h.2.2.2⟩; exact congrArg (fun l => (Sum.inl (Sum.inr (m, pc, l, p4_eS d r, p4_jn (p4_pt s d S))) : pd_S)) e)
theorem ss_sta (h : p4_gC (m, q, ls, st, S)) : p4_ss s d (pd_sta m pc ls st S k) (pd_sta m pc (p4_eL d ls) (p4_eS d st) (p4_jn (p4_pt s d S)) k) := by
  rcases st with _ | ⟨v, r⟩
  · exact trivial
  · have e := p4_set1d (d := d) ls k v
    have gl := p4_gL1 (p4_gSh h.2.2.1) ls k h.2.1
    rcases v with (x | x) | ((x | x) | ⟨t, o⟩) <;> first | exact trivial | (refine ⟨?_, h.1, gl, p4_gSt h.2.2.1, h.2.2.2⟩; exact congrArg (fun l => (Sum.inl (Sum.inr (m, pc, l, p4_eS d r, p4_jn (p4_pt s d S))) : pd_S)) e)
theorem ss_inc {w : Int32} (h : p4_gC (m, q, ls, st, S)) : p4_ss s d (pd_inc m pc ls st S k w) (pd_inc m pc (p4_eL d ls) (p4_eS d st) (p4_jn (p4_pt s d S)) k w) := by
  unfold pd_inc
  rw [p4_nthd]
  cases hq : pd_nth ls k with
  | none => exact trivial
  | some v =>
    rcases v with (x | x) | ((x | x) | ⟨t, o⟩) <;> first | exact trivial | (refine ⟨?_, h.1, p4_gL1 (v := pd_i (x + w)) trivial ls k h.2.1, h.2.2.1, h.2.2.2⟩; exact congrArg (fun l => (Sum.inl (Sum.inr (m, pc, l, p4_eS d st, p4_jn (p4_pt s d S))) : pd_S)) (p4_set1d (d := d) ls k (pd_i (x + w))))
theorem ss_gf (hx11 : x < 10) {s0 : Nat} (hs0 : s0 < pd_nf x) (hk : pd_fkd x s0 = (k, y, z)) (h : p4_gC (m, q, ls, st, S)) : p4_ss s d (pd_gf m pc ls st S k x y z) (p4_gf m pc (p4_eL d ls) (p4_eS d st) (p4_jn (p4_pt s d S)) k x y z) := by
  rcases st with _ | ⟨(v | v) | ((v | v) | ⟨t, o⟩), r⟩ <;> first | exact trivial | skip
  have gv := p4_gSh h.2.2.1
  obtain ⟨g1, g2⟩ : o < 230 ∧ pd_tag o = t := gv
  have hr := p4_gSt h.2.2.1
  show p4_ss s d (cond (Nat.beq t x) _ pd_no) (cond (Nat.beq t x) _ pd_no)
  cases h1 : Nat.beq t x with
  | false => exact trivial
  | true =>
    have := Nat.eq_of_beq_eq_true h1
    subst this
    rw [cond_true, cond_true]
    have hmx := pd_fk_max t hx11 _ hs0
    rw [hk] at hmx
    match k, hk, hmx with
    | 0, hk, _ =>
      refine ⟨?_, h.1, h.2.1, p4_gSc trivial hr, h.2.2.2⟩
      show (Sum.inl (Sum.inr (m, pc, p4_eL d ls, pd_i ((p4_jn (p4_pt s d S)).1 (230 * d + o) y) :: p4_eS d r, _)) : pd_S) = _
      rw [p4_jn1 g1]
      rfl
    | 1, hk, _ =>
      refine ⟨?_, h.1, h.2.1, p4_gSc trivial hr, h.2.2.2⟩
      show (Sum.inl (Sum.inr (m, pc, p4_eL d ls, pd_j ((p4_jn (p4_pt s d S)).2.1 (230 * d + o) y) :: p4_eS d r, _)) : pd_S) = _
      rw [p4_jn2 g1]
      rfl
    | 2, hk, _ =>
      have h5 := pd_fk_rel1 o g1 s0 (by rw [g2]; exact hs0) (by rw [g2]; exact hx11)
      rw [g2, hk] at h5
      have h6 := (h5 rfl).1
      refine ⟨?_, h.1, h.2.1, p4_gSc (v := pd_r z (o + y)) h6 hr, h.2.2.2⟩
      show (Sum.inl (Sum.inr (m, pc, p4_eL d ls, pd_r z (230 * d + o + y) :: p4_eS d r, _)) : pd_S) = _
      rw [Nat.add_assoc]
      rfl
    | 3, hk, _ =>
      have h5 := pd_fk_abs1 t hx11 _ hs0
      rw [hk] at h5
      have h6 := (h5 rfl).1
      refine ⟨?_, h.1, h.2.1, p4_gSc (v := pd_r z y) h6 hr, h.2.2.2⟩
      show (Sum.inl (Sum.inr (m, pc, p4_eL d ls, pd_r z (p4_bs (230 * d + o) + y) :: p4_eS d r, _)) : pd_S) = _
      rw [p4_bsd g1]
      rfl
    | 4, hk, hmx =>
      obtain ⟨e1, e2⟩ : y < 2 ∧ z = 2 := hmx.2 rfl
      subst e2
      refine ⟨?_, h.1, h.2.1, p4_gSc (v := pd_r 2 (S.2.2 y)) (h.2.2.2 y e1) hr, h.2.2.2⟩
      show (Sum.inl (Sum.inr (m, pc, p4_eL d ls, pd_r 2 ((p4_jn (p4_pt s d S)).2.2 (p4_bs (230 * d + o) + y)) :: p4_eS d r, _)) : pd_S) = _
      rw [p4_bsd g1, p4_jn3 (by omega)]
      rfl
    | k + 5, _, hmx => exact absurd hmx.1 (by show ¬ k + 5 ≤ 4; omega)
theorem p4_gHR {o2 : Nat} (h : p4_gH S) (h2 : o2 < 230 ∧ pd_tag o2 = 2) : p4_gH (pd_upR S y o2) := by
  intro y' hy'
  show (if y' = y then o2 else S.2.2 y') < 230 ∧ pd_tag (if y' = y then o2 else S.2.2 y') = 2
  by_cases e : y' = y
  · rw [if_pos e]; exact h2
  · rw [if_neg e]; exact h y' hy'
theorem ss_pf (h4 : k = 4 → y ≤ 1 ∧ z = 2) (h : p4_gC (m, q, ls, st, S)) : p4_ss s d (pd_pf m pc ls st S k x y z) (p4_pf m pc (p4_eL d ls) (p4_eS d st) (p4_jn (p4_pt s d S)) k x y z) := by
  rcases st with _ | ⟨(v | v) | ((v | v) | ⟨t2, o2⟩), _ | ⟨(w | w) | ((w | w) | ⟨t, o⟩), r⟩⟩ <;> first | exact trivial | skip
  · obtain ⟨g1, g2⟩ : o < 230 ∧ pd_tag o = t := p4_gSh (p4_gSt h.2.2.1)
    have hr := p4_gSt (p4_gSt h.2.2.1)
    show p4_ss s d (cond (Nat.beq t x) _ pd_no) (cond (Nat.beq t x) _ pd_no)
    cases h1 : Nat.beq t x with
    | false => exact trivial
    | true =>
      rw [cond_true, cond_true]
      rcases k with _ | _ | _ | _ | _ | _ | k <;> first | exact trivial | skip
      · refine ⟨?_, h.1, h.2.1, hr, h.2.2.2⟩
        show (Sum.inl (Sum.inr (m, pc, p4_eL d ls, p4_eS d r, pd_upI (p4_jn (p4_pt s d S)) (230 * d + o) y v)) : pd_S) = _
        rw [p4_upI g1]
        rfl
      · show p4_ss s d (.inr (.inl (decide (v = 0 ∨ v = 1), some (m, pc, ls, r, pd_upI S o y v), none))) (.inr (.inl (decide (v = 0 ∨ v = 1), some (m, pc, p4_eL d ls, p4_eS d r, pd_upI (p4_jn (p4_pt s d S)) (230 * d + o) y v), none)))
        rw [p4_upI g1]
        cases decide (v = 0 ∨ v = 1) with
        | true => exact ⟨none, rfl, fun c e => by cases e; exact ⟨h.1, h.2.1, hr, h.2.2.2⟩⟩
        | false => exact ⟨_, rfl, fun c e => by cases e⟩
  · obtain ⟨g1, g2⟩ : o < 230 ∧ pd_tag o = t := p4_gSh (p4_gSt h.2.2.1)
    have hr := p4_gSt (p4_gSt h.2.2.1)
    show p4_ss s d (cond (Nat.beq t x) _ pd_no) (cond (Nat.beq t x) _ pd_no)
    cases h1 : Nat.beq t x with
    | false => exact trivial
    | true =>
      rw [cond_true, cond_true]
      rcases k with _ | _ | k <;> first | exact trivial | skip
      refine ⟨?_, h.1, h.2.1, hr, h.2.2.2⟩
      show (Sum.inl (Sum.inr (m, pc, p4_eL d ls, p4_eS d r, pd_upJ (p4_jn (p4_pt s d S)) (230 * d + o) y v)) : pd_S) = _
      rw [p4_upJ g1]
      rfl
  · obtain ⟨g1, g2⟩ : o < 230 ∧ pd_tag o = t := p4_gSh (p4_gSt h.2.2.1)
    obtain ⟨g3, g4⟩ : o2 < 230 ∧ pd_tag o2 = t2 := p4_gSh h.2.2.1
    have hr := p4_gSt (p4_gSt h.2.2.1)
    show p4_ss s d (cond (Nat.beq t x) _ pd_no) (cond (Nat.beq t x) _ pd_no)
    cases h1 : Nat.beq t x with
    | false => exact trivial
    | true =>
      rw [cond_true, cond_true]
      cases h2 : Nat.beq t2 z with
      | false => exact trivial
      | true =>
        have e2 := Nat.eq_of_beq_eq_true h2
        rw [cond_true, cond_true]
        rcases k with _ | _ | _ | _ | _ | k <;> first | exact trivial | skip
        obtain ⟨e3, e4⟩ := h4 rfl
        refine ⟨?_, h.1, h.2.1, hr, p4_gHR h.2.2.2 ⟨g3, by omega⟩⟩
        show (Sum.inl (Sum.inr (m, pc, p4_eL d ls, p4_eS d r, pd_upR (p4_jn (p4_pt s d S)) (p4_bs (230 * d + o) + y) (230 * d + o2))) : pd_S) = _
        rw [p4_bsd g1, p4_upR (by omega)]
        rfl
theorem ss_ri (h : p4_gC (m, q, ls, st, S)) : p4_ss s d (pd_ri st S k) (pd_ri (p4_eS d st) (p4_jn (p4_pt s d S)) k) := by
  rcases st with _ | ⟨(v | v) | ((v | v) | ⟨t2, o2⟩), _ | ⟨w, r⟩⟩ <;> first | exact trivial | skip
  have g : p4_gR (S, some (pd_i v)) := ⟨h.2.2.2, fun w e => by cases e; exact trivial⟩
  cases k with
  | zero => exact ⟨rfl, g⟩
  | succ k =>
    show p4_ss s d (.inl (.inl (cond (decide (v = 0 ∨ v = 1)) (some (S, some (pd_i v))) none))) (.inl (.inl (cond (decide (v = 0 ∨ v = 1)) (some (p4_jn (p4_pt s d S), some (pd_i v))) none)))
    cases decide (v = 0 ∨ v = 1) with
    | true => exact ⟨rfl, g⟩
    | false => exact trivial
theorem p4_eSt (n : Nat) : (p4_eS d st).take n = p4_eS d (st.take n) := (List.map_take ..).symm
theorem p4_eSd (n : Nat) : (p4_eS d st).drop n = p4_eS d (st.drop n) := (List.map_drop ..).symm
theorem p4_eSr : (p4_eS d st).reverse = p4_eS d st.reverse := (List.map_reverse ..).symm
theorem ss_ca (hk : k < 90) (h : p4_gC (m, q, ls, st, S)) : p4_ss s d (pd_ca m pc ls st S k x y z) (pd_ca m pc (p4_eL d ls) (p4_eS d st) (p4_jn (p4_pt s d S)) k x y z) := by
  unfold pd_ca
  rw [p4_eSt, p4_eSd, p4_eSr, p4_catsd, p4_catsd, p4_end, show (p4_eS d st).length = st.length from List.length_map ..]
  cases Nat.ble x st.length with
  | false => exact trivial
  | true =>
    cases Nat.ble (pd_cats (st.drop x)) 8 with
    | false => exact trivial
    | true =>
      cases Nat.ble (pd_cats (st.take x)) y with
      | false => exact trivial
      | true => exact ⟨rfl, ⟨hk, p4_gLe _ _ (fun v hv => h.2.2.1 v (List.mem_of_mem_take (List.mem_reverse.mp hv))), fun v hv => absurd hv List.not_mem_nil, h.2.2.2⟩, ⟨h.1, h.2.1, fun v hv => h.2.2.1 v (List.mem_of_mem_drop hv), h.2.2.2⟩⟩
theorem ss_cav (hk : k < 90) (h : p4_gC (m, q, ls, st, S)) : p4_ss s d (pd_cav m pc ls st S k x y z) (pd_cav m pc (p4_eL d ls) (p4_eS d st) (p4_jn (p4_pt s d S)) k x y z) := by
  unfold pd_cav
  rw [p4_eSt, p4_eSr]
  rcases (st.take x).reverse with _ | ⟨(v | v) | ((v | v) | ⟨t, o⟩), r⟩ <;> first | exact trivial | skip
  show p4_ss s d (cond (Nat.beq t (z / 256)) _ pd_no) (cond (Nat.beq t (z / 256)) _ pd_no)
  cases Nat.beq t (z / 256) with
  | false => exact trivial
  | true => exact ss_ca hk h
theorem ss_ald (hd : d < 4) (h : p4_gC (m, q, ls, st, S)) : p4_ss s d (pd_ald m pc ls st S) (p4_ald m pc (p4_eL d ls) (p4_eS d st) (p4_jn (p4_pt s d S))) := by
  rcases st with _ | ⟨(i | i) | ((i | i) | ⟨i, i'⟩), _ | ⟨(w | w) | ((w | w) | ⟨t, o⟩), r⟩⟩ <;> first | exact trivial | skip
  obtain ⟨g1, g2, g3⟩ := p4_tcs (p4_gSh (p4_gSt h.2.2.1))
  have hr := p4_gSt (p4_gSt h.2.2.1)
  rcases g3 with rfl | rfl | rfl | rfl | rfl | rfl | rfl | rfl | rfl | rfl | rfl | rfl | rfl | rfl | rfl <;> first | exact trivial | skip
  show p4_ss s d (pd_gd _ (m, pc, ls, pd_i (S.1 o i.toNatClampNeg) :: r, S)) (pd_gd (pd_ob i (p4_len (230 * d + o))) (m, pc, p4_eL d ls, pd_i ((p4_jn (p4_pt s d S)).1 (230 * d + o) i.toNatClampNeg) :: p4_eS d r, p4_jn (p4_pt s d S)))
  rw [p4_lend hd g1, p4_jn1 g1]
  exact ss_gd (c := (m, pc, ls, pd_i (S.1 o i.toNatClampNeg) :: r, S)) (fun _ => ⟨h.1, h.2.1, p4_gSc trivial hr, h.2.2.2⟩)
theorem ss_bld (hd : d < 4) (h : p4_gC (m, q, ls, st, S)) : p4_ss s d (pd_bld m pc ls st S) (p4_bld m pc (p4_eL d ls) (p4_eS d st) (p4_jn (p4_pt s d S))) := by
  rcases st with _ | ⟨(i | i) | ((i | i) | ⟨i, i'⟩), _ | ⟨(w | w) | ((w | w) | ⟨t, o⟩), r⟩⟩ <;> first | exact trivial | skip
  obtain ⟨g1, g2, g3⟩ := p4_tcs (p4_gSh (p4_gSt h.2.2.1))
  have hr := p4_gSt (p4_gSt h.2.2.1)
  rcases g3 with rfl | rfl | rfl | rfl | rfl | rfl | rfl | rfl | rfl | rfl | rfl | rfl | rfl | rfl | rfl <;> first | exact trivial | skip
  show p4_ss s d (pd_gd _ (m, pc, ls, pd_i (S.1 o i.toNatClampNeg) :: r, S)) (pd_gd (pd_ob i (p4_len (230 * d + o))) (m, pc, p4_eL d ls, pd_i ((p4_jn (p4_pt s d S)).1 (230 * d + o) i.toNatClampNeg) :: p4_eS d r, p4_jn (p4_pt s d S)))
  rw [p4_lend hd g1, p4_jn1 g1]
  exact ss_gd (c := (m, pc, ls, pd_i (S.1 o i.toNatClampNeg) :: r, S)) (fun _ => ⟨h.1, h.2.1, p4_gSc trivial hr, h.2.2.2⟩)
theorem ss_lld (hd : d < 4) (h : p4_gC (m, q, ls, st, S)) : p4_ss s d (pd_lld m pc ls st S) (p4_lld m pc (p4_eL d ls) (p4_eS d st) (p4_jn (p4_pt s d S))) := by
  rcases st with _ | ⟨(i | i) | ((i | i) | ⟨i, i'⟩), _ | ⟨(w | w) | ((w | w) | ⟨t, o⟩), r⟩⟩ <;> first | exact trivial | skip
  obtain ⟨g1, g2, g3⟩ := p4_tcs (p4_gSh (p4_gSt h.2.2.1))
  have hr := p4_gSt (p4_gSt h.2.2.1)
  rcases g3 with rfl | rfl | rfl | rfl | rfl | rfl | rfl | rfl | rfl | rfl | rfl | rfl | rfl | rfl | rfl <;> first | exact trivial | skip
  show p4_ss s d (pd_gd _ (m, pc, ls, pd_j (S.2.1 o i.toNatClampNeg) :: r, S)) (pd_gd (pd_ob i (p4_len (230 * d + o))) (m, pc, p4_eL d ls, pd_j ((p4_jn (p4_pt s d S)).2.1 (230 * d + o) i.toNatClampNeg) :: p4_eS d r, p4_jn (p4_pt s d S)))
  rw [p4_lend hd g1, p4_jn2 g1]
  exact ss_gd (c := (m, pc, ls, pd_j (S.2.1 o i.toNatClampNeg) :: r, S)) (fun _ => ⟨h.1, h.2.1, p4_gSc trivial hr, h.2.2.2⟩)
theorem p4_obN {i : Int32} (h : pd_ob i n = false) : i.toNatClampNeg < n := Nat.not_le.mp fun w => of_decide_eq_false h (Or.inr w)
theorem ss_qld (hd : d < 4) (h : p4_gC (m, q, ls, st, S)) : p4_ss s d (pd_qld m pc ls st S) (p4_qld m pc (p4_eL d ls) (p4_eS d st) (p4_jn (p4_pt s d S))) := by
  rcases st with _ | ⟨(i | i) | ((i | i) | ⟨i, i'⟩), _ | ⟨(w | w) | ((w | w) | ⟨t, o⟩), r⟩⟩ <;> first | exact trivial | skip
  obtain ⟨g1, g2, g3⟩ := p4_tcs (p4_gSh (p4_gSt h.2.2.1))
  have hr := p4_gSt (p4_gSt h.2.2.1)
  rcases g3 with rfl | rfl | rfl | rfl | rfl | rfl | rfl | rfl | rfl | rfl | rfl | rfl | rfl | rfl | rfl <;> first | exact trivial | skip
  · show p4_ss s d (pd_gd _ (m, pc, ls, pd_r 1 (80 + i.toNatClampNeg) :: r, S)) (pd_gd (pd_ob i (p4_len (230 * d + o))) (m, pc, p4_eL d ls, pd_r 1 (p4_bs (230 * d + o) + 80 + i.toNatClampNeg) :: p4_eS d r, p4_jn (p4_pt s d S)))
    rw [p4_lend hd g1, p4_bsd g1, Nat.add_assoc]
    refine ss_gd (c := (m, pc, ls, pd_r 1 (80 + i.toNatClampNeg) :: r, S)) (fun e => ⟨h.1, h.2.1, p4_gSc (v := pd_r 1 (80 + i.toNatClampNeg)) (p4_fchg _ ?_) hr, h.2.2.2⟩)
    have := p4_obN e
    rwa [p4_f23 o g1 g2] at this
  · show p4_ss s d (pd_gd _ (m, pc, ls, pd_r 4 (20 + 2 * i.toNatClampNeg) :: r, S)) (pd_gd (pd_ob i (p4_len (230 * d + o))) (m, pc, p4_eL d ls, pd_r 4 (p4_bs (230 * d + o) + 20 + 2 * i.toNatClampNeg) :: p4_eS d r, p4_jn (p4_pt s d S)))
    rw [p4_lend hd g1, p4_bsd g1, Nat.add_assoc]
    refine ss_gd (c := (m, pc, ls, pd_r 4 (20 + 2 * i.toNatClampNeg) :: r, S)) (fun e => ⟨h.1, h.2.1, p4_gSc (v := pd_r 4 (20 + 2 * i.toNatClampNeg)) (p4_fseq _ ?_) hr, h.2.2.2⟩)
    have := p4_obN e
    rwa [p4_f24 o g1 g2] at this
theorem ss_ast (hd : d < 4) (h : p4_gC (m, q, ls, st, S)) : p4_ss s d (pd_ast m pc ls st S) (p4_ast m pc (p4_eL d ls) (p4_eS d st) (p4_jn (p4_pt s d S))) := by
  rcases st with _ | ⟨(v | v) | ((v | v) | ⟨v, v'⟩), _ | ⟨(i | i) | ((i | i) | ⟨i, i'⟩), _ | ⟨(w | w) | ((w | w) | ⟨t, o⟩), r⟩⟩⟩ <;> first | exact trivial | skip
  obtain ⟨g1, g2, g3⟩ := p4_tcs (p4_gSh (p4_gSt (p4_gSt h.2.2.1)))
  have hr := p4_gSt (p4_gSt (p4_gSt h.2.2.1))
  rcases g3 with rfl | rfl | rfl | rfl | rfl | rfl | rfl | rfl | rfl | rfl | rfl | rfl | rfl | rfl | rfl <;> first | exact trivial | skip
  show p4_ss s d (pd_gd _ (m, pc, ls, r, pd_upI S o i.toNatClampNeg v)) (pd_gd (pd_ob i (p4_len (230 * d + o))) (m, pc, p4_eL d ls, p4_eS d r, pd_upI (p4_jn (p4_pt s d S)) (230 * d + o) i.toNatClampNeg v))
  rw [p4_lend hd g1, p4_upI g1]
  exact ss_gd (c := (m, pc, ls, r, pd_upI S o i.toNatClampNeg v)) (fun _ => ⟨h.1, h.2.1, hr, h.2.2.2⟩)
theorem ss_bst (hd : d < 4) (h : p4_gC (m, q, ls, st, S)) : p4_ss s d (pd_bst m pc ls st S) (p4_bst m pc (p4_eL d ls) (p4_eS d st) (p4_jn (p4_pt s d S))) := by
  rcases st with _ | ⟨(v | v) | ((v | v) | ⟨v, v'⟩), _ | ⟨(i | i) | ((i | i) | ⟨i, i'⟩), _ | ⟨(w | w) | ((w | w) | ⟨t, o⟩), r⟩⟩⟩ <;> first | exact trivial | skip
  obtain ⟨g1, g2, g3⟩ := p4_tcs (p4_gSh (p4_gSt (p4_gSt h.2.2.1)))
  have hr := p4_gSt (p4_gSt (p4_gSt h.2.2.1))
  rcases g3 with rfl | rfl | rfl | rfl | rfl | rfl | rfl | rfl | rfl | rfl | rfl | rfl | rfl | rfl | rfl <;> first | exact trivial | skip
  show p4_ss s d (pd_gd _ (m, pc, ls, r, pd_upI S o i.toNatClampNeg (vp_nar .boolean v))) (pd_gd (pd_ob i (p4_len (230 * d + o))) (m, pc, p4_eL d ls, p4_eS d r, pd_upI (p4_jn (p4_pt s d S)) (230 * d + o) i.toNatClampNeg (vp_nar .boolean v)))
  rw [p4_lend hd g1, p4_upI g1]
  exact ss_gd (c := (m, pc, ls, r, pd_upI S o i.toNatClampNeg (vp_nar .boolean v))) (fun _ => ⟨h.1, h.2.1, hr, h.2.2.2⟩)
theorem ss_lst (hd : d < 4) (h : p4_gC (m, q, ls, st, S)) : p4_ss s d (pd_lst m pc ls st S) (p4_lst m pc (p4_eL d ls) (p4_eS d st) (p4_jn (p4_pt s d S))) := by
  rcases st with _ | ⟨(v | v) | ((v | v) | ⟨v, v'⟩), _ | ⟨(i | i) | ((i | i) | ⟨i, i'⟩), _ | ⟨(w | w) | ((w | w) | ⟨t, o⟩), r⟩⟩⟩ <;> first | exact trivial | skip
  obtain ⟨g1, g2, g3⟩ := p4_tcs (p4_gSh (p4_gSt (p4_gSt h.2.2.1)))
  have hr := p4_gSt (p4_gSt (p4_gSt h.2.2.1))
  rcases g3 with rfl | rfl | rfl | rfl | rfl | rfl | rfl | rfl | rfl | rfl | rfl | rfl | rfl | rfl | rfl <;> first | exact trivial | skip
  show p4_ss s d (pd_gd _ (m, pc, ls, r, pd_upJ S o i.toNatClampNeg v)) (pd_gd (pd_ob i (p4_len (230 * d + o))) (m, pc, p4_eL d ls, p4_eS d r, pd_upJ (p4_jn (p4_pt s d S)) (230 * d + o) i.toNatClampNeg v))
  rw [p4_lend hd g1, p4_upJ g1]
  exact ss_gd (c := (m, pc, ls, r, pd_upJ S o i.toNatClampNeg v)) (fun _ => ⟨h.1, h.2.1, hr, h.2.2.2⟩)
theorem ss_aln (hd : d < 4) (h : p4_gC (m, q, ls, st, S)) : p4_ss s d (pd_aln m pc ls st S) (p4_aln m pc (p4_eL d ls) (p4_eS d st) (p4_jn (p4_pt s d S))) := by
  rcases st with _ | ⟨(w | w) | ((w | w) | ⟨t, o⟩), r⟩ <;> first | exact trivial | skip
  obtain ⟨g1, g2, g3⟩ := p4_tcs (p4_gSh h.2.2.1)
  have hr := p4_gSt h.2.2.1
  have e : (Sum.inl (Sum.inr (m, pc, p4_eL d ls, pd_i (Int32.ofNat (p4_len (230 * d + o))) :: p4_eS d r, p4_jn (p4_pt s d S))) : pd_S) = Sum.inl (Sum.inr (m, pc, p4_eL d ls, pd_i (Int32.ofNat (pd_len o)) :: p4_eS d r, p4_jn (p4_pt s d S))) := by rw [p4_lend hd g1]
  rcases g3 with rfl | rfl | rfl | rfl | rfl | rfl | rfl | rfl | rfl | rfl | rfl | rfl | rfl | rfl | rfl <;> first | exact trivial | exact ⟨e, h.1, h.2.1, p4_gSc trivial hr, h.2.2.2⟩
set_option maxHeartbeats 4000000 in
theorem ss_op (hd : d < 4) {op : pd_O} (hck : pd_ck m q op = true) (h : p4_gC (m, q, ls, st, S)) : p4_ss s d (pd_op m q ls st S op) (p4_op m q (p4_eL d ls) (p4_eS d st) (p4_jn (p4_pt s d S)) op) := by
  obtain ⟨i, n, ⟨k, x, y, z⟩, v, w, tb⟩ := op
  unfold pd_ck at hck
  rw [Bool.and_eq_true] at hck
  obtain ⟨-, hck⟩ := hck
  cases i with
  | iconst a =>
    exact ss_push h rfl trivial
  | bipush a =>
    exact ss_push h rfl trivial
  | sipush a =>
    exact ss_push h rfl trivial
  | ldc a =>
    exact ss_push h rfl trivial
  | ldc_w a =>
    exact ss_push h rfl trivial
  | lconst a =>
    exact ss_push h rfl trivial
  | ldc2_w a =>
    exact ss_push h rfl trivial
  | iload a =>
    exact ss_ldi h
  | iload_n a =>
    exact ss_ldi h
  | lload a =>
    exact ss_ldj h
  | lload_n a =>
    exact ss_ldj h
  | aload a =>
    exact ss_lda h
  | aload_n a =>
    exact ss_lda h
  | istore a =>
    exact ss_sti h
  | istore_n a =>
    exact ss_sti h
  | lstore a =>
    exact ss_stj h
  | lstore_n a =>
    exact ss_stj h
  | astore a =>
    exact ss_sta h
  | astore_n a =>
    exact ss_sta h
  | iinc a b =>
    exact ss_inc h
  | dup =>
    rcases st with _ | ⟨a, r⟩
    · exact trivial
    · show p4_ss s d (cond (pd_two a) pd_no _) (cond (pd_two (p4_sh d a)) pd_no _)
      rw [p4_twod]
      cases pd_two a with
      | true => exact trivial
      | false => exact ⟨rfl, h.1, h.2.1, p4_gSc (p4_gSh h.2.2.1) h.2.2.1, h.2.2.2⟩
  | dup2 =>
    rcases st with _ | ⟨a, _ | ⟨b, r⟩⟩
    · exact trivial
    · exact trivial
    · show p4_ss s d (cond (pd_two a) pd_no (cond (pd_two b) pd_no _)) (cond (pd_two (p4_sh d a)) pd_no (cond (pd_two (p4_sh d b)) pd_no _))
      rw [p4_twod, p4_twod]
      cases pd_two a with
      | true => exact trivial
      | false =>
        cases pd_two b with
        | true => exact trivial
        | false => exact ⟨rfl, h.1, h.2.1, p4_gSc (p4_gSh h.2.2.1) (p4_gSc (p4_gSh (p4_gSt h.2.2.1)) h.2.2.1), h.2.2.2⟩
  | pop =>
    rcases st with _ | ⟨a, r⟩
    · exact trivial
    · show p4_ss s d (cond (pd_two a) pd_no _) (cond (pd_two (p4_sh d a)) pd_no _)
      rw [p4_twod]
      cases pd_two a with
      | true => exact trivial
      | false => exact ⟨rfl, h.1, h.2.1, p4_gSt h.2.2.1, h.2.2.2⟩
  | iadd =>
    exact ss_ii h
  | isub =>
    exact ss_ii h
  | imul =>
    exact ss_ii h
  | iand =>
    exact ss_ii h
  | ior =>
    exact ss_ii h
  | ishl =>
    exact ss_ii h
  | ishr =>
    exact ss_ii h
  | iushr =>
    exact ss_ii h
  | ladd =>
    exact ss_jj h
  | lsub =>
    exact ss_jj h
  | lmul =>
    exact ss_jj h
  | land =>
    exact ss_jj h
  | lor =>
    exact ss_jj h
  | lshl =>
    exact ss_ji h
  | lshr =>
    exact ss_ji h
  | idiv =>
    rcases st with _ | ⟨(a | a) | ((a | a) | ⟨a, a'⟩), _ | ⟨(b | b) | ((b | b) | ⟨b, b'⟩), r⟩⟩ <;> first | exact trivial | exact ss_gd (fun _ => ⟨h.1, h.2.1, p4_gSc trivial (p4_gSt (p4_gSt h.2.2.1)), h.2.2.2⟩)
  | irem =>
    rcases st with _ | ⟨(a | a) | ((a | a) | ⟨a, a'⟩), _ | ⟨(b | b) | ((b | b) | ⟨b, b'⟩), r⟩⟩ <;> first | exact trivial | exact ss_gd (fun _ => ⟨h.1, h.2.1, p4_gSc trivial (p4_gSt (p4_gSt h.2.2.1)), h.2.2.2⟩)
  | ldiv =>
    rcases st with _ | ⟨(a | a) | ((a | a) | ⟨a, a'⟩), _ | ⟨(b | b) | ((b | b) | ⟨b, b'⟩), r⟩⟩ <;> first | exact trivial | exact ss_gd (fun _ => ⟨h.1, h.2.1, p4_gSc trivial (p4_gSt (p4_gSt h.2.2.1)), h.2.2.2⟩)
  | lrem =>
    rcases st with _ | ⟨(a | a) | ((a | a) | ⟨a, a'⟩), _ | ⟨(b | b) | ((b | b) | ⟨b, b'⟩), r⟩⟩ <;> first | exact trivial | exact ss_gd (fun _ => ⟨h.1, h.2.1, p4_gSc trivial (p4_gSt (p4_gSt h.2.2.1)), h.2.2.2⟩)
  | lcmp =>
    rcases st with _ | ⟨(a | a) | ((a | a) | ⟨a, a'⟩), _ | ⟨(b | b) | ((b | b) | ⟨b, b'⟩), r⟩⟩ <;> first | exact trivial | exact ⟨rfl, h.1, h.2.1, p4_gSc trivial (p4_gSt (p4_gSt h.2.2.1)), h.2.2.2⟩
  | lneg =>
    rcases st with _ | ⟨(a | a) | ((a | a) | ⟨a, a'⟩), r⟩ <;> first | exact trivial | exact ⟨rfl, h.1, h.2.1, p4_gSc trivial (p4_gSt h.2.2.1), h.2.2.2⟩
  | i2l =>
    rcases st with _ | ⟨(a | a) | ((a | a) | ⟨a, a'⟩), r⟩ <;> first | exact trivial | exact ⟨rfl, h.1, h.2.1, p4_gSc trivial (p4_gSt h.2.2.1), h.2.2.2⟩
  | l2i =>
    rcases st with _ | ⟨(a | a) | ((a | a) | ⟨a, a'⟩), r⟩ <;> first | exact trivial | exact ⟨rfl, h.1, h.2.1, p4_gSc trivial (p4_gSt h.2.2.1), h.2.2.2⟩
  | i2f =>
    rcases st with _ | ⟨(a | a) | ((a | a) | ⟨a, a'⟩), r⟩ <;> first | exact trivial | exact ⟨rfl, h.1, h.2.1, p4_gSc trivial (p4_gSt h.2.2.1), h.2.2.2⟩
  | l2f =>
    rcases st with _ | ⟨(a | a) | ((a | a) | ⟨a, a'⟩), r⟩ <;> first | exact trivial | exact ⟨rfl, h.1, h.2.1, p4_gSc trivial (p4_gSt h.2.2.1), h.2.2.2⟩
  | f2l =>
    rcases st with _ | ⟨(a | a) | ((a | a) | ⟨a, a'⟩), r⟩ <;> first | exact trivial | exact ⟨rfl, h.1, h.2.1, p4_gSc trivial (p4_gSt h.2.2.1), h.2.2.2⟩
  | l2d =>
    rcases st with _ | ⟨(a | a) | ((a | a) | ⟨a, a'⟩), r⟩ <;> first | exact trivial | exact ⟨rfl, h.1, h.2.1, p4_gSc trivial (p4_gSt h.2.2.1), h.2.2.2⟩
  | d2l =>
    rcases st with _ | ⟨(a | a) | ((a | a) | ⟨a, a'⟩), r⟩ <;> first | exact trivial | exact ⟨rfl, h.1, h.2.1, p4_gSc trivial (p4_gSt h.2.2.1), h.2.2.2⟩
  | i2b =>
    exact ss_cv1 h
  | i2c =>
    exact ss_cv1 h
  | i2s =>
    exact ss_cv1 h
  | ifCond cc a =>
    rcases st with _ | ⟨(w | w) | ((w | w) | ⟨a, a'⟩), r⟩ <;> first | exact trivial | exact ss_br (c1 := (m, k, ls, r, S)) (c2 := (m, q + n, ls, r, S)) ⟨h.1, h.2.1, p4_gSt h.2.2.1, h.2.2.2⟩ ⟨h.1, h.2.1, p4_gSt h.2.2.1, h.2.2.2⟩
  | if_icmp cc a =>
    rcases st with _ | ⟨(w | w) | ((w | w) | ⟨a, a'⟩), _ | ⟨(b | b) | ((b | b) | ⟨b, b'⟩), r⟩⟩ <;> first | exact trivial | exact ss_br (c1 := (m, k, ls, r, S)) (c2 := (m, q + n, ls, r, S)) ⟨h.1, h.2.1, p4_gSt (p4_gSt h.2.2.1), h.2.2.2⟩ ⟨h.1, h.2.1, p4_gSt (p4_gSt h.2.2.1), h.2.2.2⟩
  | goto a =>
    exact ⟨rfl, h.1, h.2.1, h.2.2.1, h.2.2.2⟩
  | tableswitch a b c e =>
    rcases st with _ | ⟨(w | w) | ((w | w) | ⟨a, a'⟩), r⟩ <;> first | exact trivial | exact ⟨rfl, h.1, h.2.1, p4_gSt h.2.2.1, h.2.2.2⟩
  | lookupswitch a b =>
    rcases st with _ | ⟨(w | w) | ((w | w) | ⟨a, a'⟩), r⟩ <;> first | exact trivial | exact ⟨rfl, h.1, h.2.1, p4_gSt h.2.2.1, h.2.2.2⟩
  | getfield a =>
    have hck : (Nat.beq n 3 && Nat.beq (pd_fs (pd_oc m) a).1 x && Nat.ble (x + 1) 10 && Nat.ble ((pd_fs (pd_oc m) a).2 + 1) (vwCl.getD x (RL, TX0, 0)).2.2 && decide (pd_fkd x (pd_fs (pd_oc m) a).2 = (k, y, z))) = true := hck
    simp only [Bool.and_eq_true] at hck
    exact ss_gf (Nat.le_of_ble_eq_true hck.1.1.2) (Nat.le_of_ble_eq_true hck.1.2) (of_decide_eq_true hck.2) h
  | putfield a =>
    have hck : (Nat.beq n 3 && Nat.beq (pd_fs (pd_oc m) a).1 x && Nat.ble (x + 1) 10 && Nat.ble ((pd_fs (pd_oc m) a).2 + 1) (vwCl.getD x (RL, TX0, 0)).2.2 && decide (pd_fkd x (pd_fs (pd_oc m) a).2 = (cond (Nat.beq k 5) 0 k, y, z)) && decide (((vwCl.getD x (RL, TX0, 0)).2.1 (pd_fs (pd_oc m) a).2).2.2.2 = false) && decide (pd_ty x (pd_fs (pd_oc m) a).2 = pd_pty k) && (!Nat.beq k 4 || (Nat.ble y 1 && Nat.beq z 2))) = true := hck
    rw [Bool.and_eq_true] at hck
    obtain ⟨-, e8⟩ := hck
    refine ss_pf (fun hk => ?_) h
    subst hk
    have e8 : (Nat.ble y 1 && Nat.beq z 2) = true := e8
    rw [Bool.and_eq_true] at e8
    exact ⟨Nat.le_of_ble_eq_true e8.1, Nat.eq_of_beq_eq_true e8.2⟩
  | iaload =>
    exact ss_ald hd h
  | baload =>
    exact ss_bld hd h
  | laload =>
    exact ss_lld hd h
  | aaload =>
    exact ss_qld hd h
  | iastore =>
    exact ss_ast hd h
  | bastore =>
    exact ss_bst hd h
  | lastore =>
    exact ss_lst hd h
  | arraylength =>
    exact ss_aln hd h
  | invokevirtual a =>
    have hck : (Nat.beq n 3 && pd_cl2 (pd_oc m) a k 0 && pd_ce m k x y (z % 256) 0 && Nat.beq (z / 256) (pd_oc k) && Nat.ble (pd_oc k + 1) 10) = true := hck
    simp only [Bool.and_eq_true] at hck
    have := (pd_ce_ok hck.1.1.2).1
    exact ss_cav (by omega) h
  | invokestatic a =>
    have hck : (Nat.beq n 3 && (pd_cl2 (pd_oc m) a k 0 || pd_cl2 (pd_oc m) a k 1) && pd_ce m k x y z 1) = true := hck
    rw [Bool.and_eq_true] at hck
    have := (pd_ce_ok hck.2).1
    exact ss_ca (by omega) h
  | ireturn =>
    exact ss_ri h
  | lreturn =>
    rcases st with _ | ⟨(v | v) | ((v | v) | ⟨t2, o2⟩), _ | ⟨w, r⟩⟩ <;> first | exact trivial | exact ⟨rfl, h.2.2.2, fun w e => by cases e; exact trivial⟩
  | areturn =>
    rcases st with _ | ⟨(v | v) | ((v | v) | ⟨t2, o2⟩), _ | ⟨w, r⟩⟩ <;> first | exact trivial | exact ⟨rfl, h.2.2.2, fun w e => by cases e; exact p4_gSh h.2.2.1⟩
  | return_ =>
    rcases st with _ | ⟨w, r⟩ <;> first | exact trivial | exact ⟨rfl, h.2.2.2, fun w e => by cases e⟩
  | _ => exact trivial
theorem ss_st (hT : pd_TF) (hd : d < 4) {c : pd_C} (h : p4_gC c) : p4_ss s d (pd_st pd_cd c) (p4_st pd_cd (p4_eC s d c)) := by
  obtain ⟨m, q, ls, st, S⟩ := c
  show p4_ss s d (match pd_cd m q with | some op => pd_op m q ls st S op | none => pd_no) (match pd_cd m q with | some op => p4_op m q (p4_eL d ls) (p4_eS d st) (p4_jn (p4_pt s d S)) op | none => pd_no)
  cases ho : pd_cd m q with
  | none => exact trivial
  | some op => exact ss_op hd (hT.1 m q op h.1 ho) h
/-- what one desk's machine comes to, the machine of all comes to on that desk -/
theorem p4_sim (hT : pd_TF) (hd : d < 4) : ∀ n, p4_sim1 s d (pd_ex pd_cd n) (p4_ex pd_cd n)
  | 0 => fun c _ w e => by cases e
  | n + 1 => fun c h w e => p4_simF (p4_sim hT hd n) (p4_sim hT hd n) (ss_st hT hd h) e
theorem p4_run_on (hT : pd_TF) (hd : d < 4) {c : pd_C} (h : p4_gC c) {w : pd_R} (e : pd_run pd_cd c = some w) : p4_run pd_cd (p4_eC s d c) = some (p4_eR s d w) ∧ p4_gR w := by
  obtain ⟨n, hn⟩ := pd_run_iff.mp e
  obtain ⟨e1, e2⟩ := p4_sim (s := s) hT hd n c h w hn
  exact ⟨p4_run_iff.mpr ⟨n, e1⟩, e2⟩
end SIM
end
