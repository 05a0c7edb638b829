section
-- ===== PART A: goes FIRST, ahead of the names: the tables' words, and 'selects' of the private methods out of them =====
/-- a private method of a class that the tables say can be made, by its rows of tables_1 -/
def lw_okq (q : MethodName × Nat) : Prop := (q.1.cls ≠ "java/lang/invoke/MethodHandle" ∧ q.1.cls ≠ "java/lang/invoke/VarHandle") ∧ Cond.instantiable q.1.cls q.2 ∈ tables_1 ∧ Cond.privateMethod q.1 ∈ tables_1 ∧ Cond.instanceMethod q.1 ∈ tables_1
theorem lw_p0 : lw_okq (⟨"BoxStage", "findExits", "(II)V"⟩, 12) := ⟨⟨by decide +kernel, by decide +kernel⟩, List.mem_of_getElem? (i := 15) (by decide +kernel), List.mem_of_getElem? (i := 593) (by decide +kernel), List.mem_of_getElem? (i := 594) (by decide +kernel)⟩
theorem lw_p1 : lw_okq (⟨"BoxStage", "howManyNearer", "(I)I"⟩, 12) := ⟨⟨by decide +kernel, by decide +kernel⟩, List.mem_of_getElem? (i := 15) (by decide +kernel), List.mem_of_getElem? (i := 605) (by decide +kernel), List.mem_of_getElem? (i := 606) (by decide +kernel)⟩
theorem lw_p2 : lw_okq (⟨"BoxStageModel", "meets", "(I[I)I"⟩, 22) := ⟨⟨by decide +kernel, by decide +kernel⟩, List.mem_of_getElem? (i := 625) (by decide +kernel), List.mem_of_getElem? (i := 708) (by decide +kernel), List.mem_of_getElem? (i := 709) (by decide +kernel)⟩
theorem lw_p3 : lw_okq (⟨"BoxStageModel", "isThere", "(I)Z"⟩, 22) := ⟨⟨by decide +kernel, by decide +kernel⟩, List.mem_of_getElem? (i := 625) (by decide +kernel), List.mem_of_getElem? (i := 712) (by decide +kernel), List.mem_of_getElem? (i := 713) (by decide +kernel)⟩
theorem lw_p4 : lw_okq (⟨"BoxStageModel", "goes", "(II)Z"⟩, 22) := ⟨⟨by decide +kernel, by decide +kernel⟩, List.mem_of_getElem? (i := 625) (by decide +kernel), List.mem_of_getElem? (i := 733) (by decide +kernel), List.mem_of_getElem? (i := 734) (by decide +kernel)⟩
theorem lw_p5 : lw_okq (⟨"BoxStageModel", "begin", "()V"⟩, 22) := ⟨⟨by decide +kernel, by decide +kernel⟩, List.mem_of_getElem? (i := 625) (by decide +kernel), List.mem_of_getElem? (i := 746) (by decide +kernel), List.mem_of_getElem? (i := 747) (by decide +kernel)⟩
theorem lw_p6 : lw_okq (⟨"BoxStageModel", "gather", "(II)V"⟩, 22) := ⟨⟨by decide +kernel, by decide +kernel⟩, List.mem_of_getElem? (i := 625) (by decide +kernel), List.mem_of_getElem? (i := 750) (by decide +kernel), List.mem_of_getElem? (i := 751) (by decide +kernel)⟩
theorem lw_p7 : lw_okq (⟨"BoxStageModel", "pairs", "()V"⟩, 22) := ⟨⟨by decide +kernel, by decide +kernel⟩, List.mem_of_getElem? (i := 625) (by decide +kernel), List.mem_of_getElem? (i := 766) (by decide +kernel), List.mem_of_getElem? (i := 767) (by decide +kernel)⟩
theorem lw_p8 : lw_okq (⟨"BoxStageModel", "with", "(I)V"⟩, 22) := ⟨⟨by decide +kernel, by decide +kernel⟩, List.mem_of_getElem? (i := 625) (by decide +kernel), List.mem_of_getElem? (i := 770) (by decide +kernel), List.mem_of_getElem? (i := 771) (by decide +kernel)⟩
theorem lw_p9 : lw_okq (⟨"BoxStageModel", "free", "()I"⟩, 22) := ⟨⟨by decide +kernel, by decide +kernel⟩, List.mem_of_getElem? (i := 625) (by decide +kernel), List.mem_of_getElem? (i := 774) (by decide +kernel), List.mem_of_getElem? (i := 775) (by decide +kernel)⟩
theorem lw_p10 : lw_okq (⟨"BoxStageModel", "isFree", "(I)Z"⟩, 22) := ⟨⟨by decide +kernel, by decide +kernel⟩, List.mem_of_getElem? (i := 625) (by decide +kernel), List.mem_of_getElem? (i := 778) (by decide +kernel), List.mem_of_getElem? (i := 779) (by decide +kernel)⟩
theorem lw_p11 : lw_okq (⟨"BoxStageModel", "isLeft", "(I)Z"⟩, 22) := ⟨⟨by decide +kernel, by decide +kernel⟩, List.mem_of_getElem? (i := 625) (by decide +kernel), List.mem_of_getElem? (i := 782) (by decide +kernel), List.mem_of_getElem? (i := 783) (by decide +kernel)⟩
theorem lw_p12 : lw_okq (⟨"BoxStageModel", "cut", "()V"⟩, 22) := ⟨⟨by decide +kernel, by decide +kernel⟩, List.mem_of_getElem? (i := 625) (by decide +kernel), List.mem_of_getElem? (i := 786) (by decide +kernel), List.mem_of_getElem? (i := 787) (by decide +kernel)⟩
theorem lw_p13 : lw_okq (⟨"BoxStageModel", "close", "()V"⟩, 22) := ⟨⟨by decide +kernel, by decide +kernel⟩, List.mem_of_getElem? (i := 625) (by decide +kernel), List.mem_of_getElem? (i := 790) (by decide +kernel), List.mem_of_getElem? (i := 791) (by decide +kernel)⟩
theorem lw_p14 : lw_okq (⟨"BoxStageModel", "plane", "(II)I"⟩, 22) := ⟨⟨by decide +kernel, by decide +kernel⟩, List.mem_of_getElem? (i := 625) (by decide +kernel), List.mem_of_getElem? (i := 794) (by decide +kernel), List.mem_of_getElem? (i := 795) (by decide +kernel)⟩
theorem lw_p15 : lw_okq (⟨"BoxStageModel", "isTangled", "(II)Z"⟩, 22) := ⟨⟨by decide +kernel, by decide +kernel⟩, List.mem_of_getElem? (i := 625) (by decide +kernel), List.mem_of_getElem? (i := 798) (by decide +kernel), List.mem_of_getElem? (i := 799) (by decide +kernel)⟩
def lw_privs_1 : List (MethodName × Nat) := [(⟨"BoxStage", "findExits", "(II)V"⟩, 12), (⟨"BoxStage", "howManyNearer", "(I)I"⟩, 12), (⟨"BoxStageModel", "meets", "(I[I)I"⟩, 22), (⟨"BoxStageModel", "isThere", "(I)Z"⟩, 22), (⟨"BoxStageModel", "goes", "(II)Z"⟩, 22), (⟨"BoxStageModel", "begin", "()V"⟩, 22), (⟨"BoxStageModel", "gather", "(II)V"⟩, 22), (⟨"BoxStageModel", "pairs", "()V"⟩, 22), (⟨"BoxStageModel", "with", "(I)V"⟩, 22), (⟨"BoxStageModel", "free", "()I"⟩, 22), (⟨"BoxStageModel", "isFree", "(I)Z"⟩, 22), (⟨"BoxStageModel", "isLeft", "(I)Z"⟩, 22), (⟨"BoxStageModel", "cut", "()V"⟩, 22), (⟨"BoxStageModel", "close", "()V"⟩, 22), (⟨"BoxStageModel", "plane", "(II)I"⟩, 22), (⟨"BoxStageModel", "isTangled", "(II)Z"⟩, 22)]
theorem lw_r1 : ∀ q ∈ lw_privs_1, lw_okq q := List.forall_mem_cons.mpr ⟨lw_p0, List.forall_mem_cons.mpr ⟨lw_p1, List.forall_mem_cons.mpr ⟨lw_p2, List.forall_mem_cons.mpr ⟨lw_p3, List.forall_mem_cons.mpr ⟨lw_p4, List.forall_mem_cons.mpr ⟨lw_p5, List.forall_mem_cons.mpr ⟨lw_p6, List.forall_mem_cons.mpr ⟨lw_p7, List.forall_mem_cons.mpr ⟨lw_p8, List.forall_mem_cons.mpr ⟨lw_p9, List.forall_mem_cons.mpr ⟨lw_p10, List.forall_mem_cons.mpr ⟨lw_p11, List.forall_mem_cons.mpr ⟨lw_p12, List.forall_mem_cons.mpr ⟨lw_p13, List.forall_mem_cons.mpr ⟨lw_p14, List.forall_mem_cons.mpr ⟨lw_p15, fun _ h => absurd h List.not_mem_nil⟩⟩⟩⟩⟩⟩⟩⟩⟩⟩⟩⟩⟩⟩⟩⟩
theorem lw_p16 : lw_okq (⟨"BoxStageModel", "isCut", "(I)Z"⟩, 22) := ⟨⟨by decide +kernel, by decide +kernel⟩, List.mem_of_getElem? (i := 625) (by decide +kernel), List.mem_of_getElem? (i := 802) (by decide +kernel), List.mem_of_getElem? (i := 803) (by decide +kernel)⟩
theorem lw_p17 : lw_okq (⟨"BoxStageModel", "paintAll", "()V"⟩, 22) := ⟨⟨by decide +kernel, by decide +kernel⟩, List.mem_of_getElem? (i := 625) (by decide +kernel), List.mem_of_getElem? (i := 806) (by decide +kernel), List.mem_of_getElem? (i := 807) (by decide +kernel)⟩
theorem lw_p18 : lw_okq (⟨"BoxStageModel", "exitOf", "(II)I"⟩, 22) := ⟨⟨by decide +kernel, by decide +kernel⟩, List.mem_of_getElem? (i := 625) (by decide +kernel), List.mem_of_getElem? (i := 810) (by decide +kernel), List.mem_of_getElem? (i := 811) (by decide +kernel)⟩
theorem lw_p19 : lw_okq (⟨"BoxStageModel", "inkOf", "(III)I"⟩, 22) := ⟨⟨by decide +kernel, by decide +kernel⟩, List.mem_of_getElem? (i := 625) (by decide +kernel), List.mem_of_getElem? (i := 814) (by decide +kernel), List.mem_of_getElem? (i := 815) (by decide +kernel)⟩
theorem lw_p20 : lw_okq (⟨"BoxStageModel", "faceOf", "(III)I"⟩, 22) := ⟨⟨by decide +kernel, by decide +kernel⟩, List.mem_of_getElem? (i := 625) (by decide +kernel), List.mem_of_getElem? (i := 818) (by decide +kernel), List.mem_of_getElem? (i := 819) (by decide +kernel)⟩
def lw_privs_2 : List (MethodName × Nat) := [(⟨"BoxStageModel", "isCut", "(I)Z"⟩, 22), (⟨"BoxStageModel", "paintAll", "()V"⟩, 22), (⟨"BoxStageModel", "exitOf", "(II)I"⟩, 22), (⟨"BoxStageModel", "inkOf", "(III)I"⟩, 22), (⟨"BoxStageModel", "faceOf", "(III)I"⟩, 22)]
theorem lw_r2 : ∀ q ∈ lw_privs_2, lw_okq q := List.forall_mem_cons.mpr ⟨lw_p16, List.forall_mem_cons.mpr ⟨lw_p17, List.forall_mem_cons.mpr ⟨lw_p18, List.forall_mem_cons.mpr ⟨lw_p19, List.forall_mem_cons.mpr ⟨lw_p20, fun _ h => absurd h List.not_mem_nil⟩⟩⟩⟩⟩
def lw_privs : List (MethodName × Nat) := lw_privs_1 ++ (lw_privs_2)
def lw_tbl : List Cond := k2_sels lw_privs ++ tables_1
theorem lw_privs_ok : ∀ q ∈ lw_privs, lw_okq q := by
  show ∀ q ∈ lw_privs_1 ++ (lw_privs_2), lw_okq q
  exact List.forall_mem_append.mpr ⟨lw_r1, lw_r2⟩
end
section
def RX0 : String := "BoxStage$Numbers"
def TX0 : u_T := fun k => match k with
  | 0 => ("BoxStage$Numbers", "low", "J", false)
  | _ => ("BoxStage$Numbers", "high", "J", false)
def tyX0 : Nat → FieldType := fun k => match k with
  | 0 => .long
  | _ => .long
theorem nmX0 : ∀ a, a < 2 → ∀ b, b < 2 → a ≠ b → (TX0 a).2.1 ≠ (TX0 b).2.1 := by decide +kernel
theorem tyX0_ok : ∀ k, k < 2 → parseFieldDescriptor (TX0 k).2.2.1 = some (tyX0 k) := by decide +kernel
abbrev cX0_init : ByteArray := prog_2_method_1_code
def yX0_init : MethodName := ⟨RX0, "<init>", "()V"⟩
abbrev cX0_clear : ByteArray := prog_2_method_2_code
def yX0_clear : MethodName := ⟨RX0, "clear", "()V"⟩
abbrev cX0_copyFrom : ByteArray := prog_2_method_3_code
def yX0_copyFrom : MethodName := ⟨RX0, "copyFrom", "(LBoxStage$Numbers;)V"⟩
abbrev cX0_add : ByteArray := prog_2_method_4_code
def yX0_add : MethodName := ⟨RX0, "add", "(I)V"⟩
abbrev cX0_remove : ByteArray := prog_2_method_5_code
def yX0_remove : MethodName := ⟨RX0, "remove", "(I)V"⟩
abbrev cX0_has : ByteArray := prog_2_method_6_code
def yX0_has : MethodName := ⟨RX0, "has", "(I)Z"⟩
abbrev cX0_addAll : ByteArray := prog_2_method_7_code
def yX0_addAll : MethodName := ⟨RX0, "addAll", "(LBoxStage$Numbers;)V"⟩
abbrev cX0_removeAll : ByteArray := prog_2_method_8_code
def yX0_removeAll : MethodName := ⟨RX0, "removeAll", "(LBoxStage$Numbers;)V"⟩
abbrev cX0_keepThoseIn : ByteArray := prog_2_method_9_code
def yX0_keepThoseIn : MethodName := ⟨RX0, "keepThoseIn", "(LBoxStage$Numbers;)V"⟩
abbrev cX0_meets : ByteArray := prog_2_method_10_code
def yX0_meets : MethodName := ⟨RX0, "meets", "(LBoxStage$Numbers;)Z"⟩
abbrev cX0_isEmpty : ByteArray := prog_2_method_11_code
def yX0_isEmpty : MethodName := ⟨RX0, "isEmpty", "()Z"⟩
abbrev cX0_size : ByteArray := prog_2_method_12_code
def yX0_size : MethodName := ⟨RX0, "size", "()I"⟩
abbrev cX0_lowest : ByteArray := prog_2_method_13_code
def yX0_lowest : MethodName := ⟨RX0, "lowest", "()I"⟩
def RX1 : String := "BoxStage$Outline"
def TX1 : u_T := fun k => match k with
  | 0 => ("BoxStage$Outline", "leastXz", "I", false)
  | 1 => ("BoxStage$Outline", "mostXz", "I", false)
  | 2 => ("BoxStage$Outline", "leastYz", "I", false)
  | 3 => ("BoxStage$Outline", "mostYz", "I", false)
  | 4 => ("BoxStage$Outline", "firstI", "I", false)
  | _ => ("BoxStage$Outline", "lastI", "I", false)
def tyX1 : Nat → FieldType := fun k => match k with
  | 0 => .int
  | 1 => .int
  | 2 => .int
  | 3 => .int
  | 4 => .int
  | _ => .int
theorem nmX1 : ∀ a, a < 6 → ∀ b, b < 6 → a ≠ b → (TX1 a).2.1 ≠ (TX1 b).2.1 := by decide +kernel
theorem tyX1_ok : ∀ k, k < 6 → parseFieldDescriptor (TX1 k).2.2.1 = some (tyX1 k) := by decide +kernel
abbrev cX1_init : ByteArray := prog_3_method_1_code
def yX1_init : MethodName := ⟨RX1, "<init>", "()V"⟩
abbrev cX1_setTo : ByteArray := prog_3_method_2_code
def yX1_setTo : MethodName := ⟨RX1, "setTo", "([II)V"⟩
abbrev cX1_meet : ByteArray := prog_3_method_3_code
def yX1_meet : MethodName := ⟨RX1, "meet", "(LBoxStage$Outline;)V"⟩
abbrev cX1_firstJ : ByteArray := prog_3_method_4_code
def yX1_firstJ : MethodName := ⟨RX1, "firstJ", "(I)I"⟩
abbrev cX1_lastJ : ByteArray := prog_3_method_5_code
def yX1_lastJ : MethodName := ⟨RX1, "lastJ", "(I)I"⟩
abbrev cX1_howManyPixels : ByteArray := prog_3_method_6_code
def yX1_howManyPixels : MethodName := ⟨RX1, "howManyPixels", "()I"⟩
def RX2 : String := "BoxStage$Picture"
def TX2 : u_T := fun k => match k with
  | 0 => ("BoxStage$Picture", "cells", "[I", false)
  | 1 => ("BoxStage$Picture", "earlierCells", "[I", false)
  | 2 => ("BoxStage$Picture", "pixelsOfBox", "[I", true)
  | 3 => ("BoxStage$Picture", "differences", "[I", true)
  | 4 => ("BoxStage$Picture", "pixelsWithBox", "I", false)
  | 5 => ("BoxStage$Picture", "laidInAll", "I", false)
  | 6 => ("BoxStage$Picture", "ray", "LBoxStage$Ray;", true)
  | _ => ("BoxStage$Picture", "outline", "LBoxStage$Outline;", true)
def tyX2 : Nat → FieldType := fun k => match k with
  | 0 => .array .int
  | 1 => .array .int
  | 2 => .array .int
  | 3 => .array .int
  | 4 => .int
  | 5 => .int
  | 6 => .object "BoxStage$Ray"
  | _ => .object "BoxStage$Outline"
theorem nmX2 : ∀ a, a < 8 → ∀ b, b < 8 → a ≠ b → (TX2 a).2.1 ≠ (TX2 b).2.1 := by decide +kernel
theorem tyX2_ok : ∀ k, k < 8 → parseFieldDescriptor (TX2 k).2.2.1 = some (tyX2 k) := by decide +kernel
abbrev cX2_init : ByteArray := prog_4_method_1_code
def yX2_init : MethodName := ⟨RX2, "<init>", "()V"⟩
abbrev cX2_cellOf : ByteArray := prog_4_method_2_code
def yX2_cellOf : MethodName := ⟨RX2, "cellOf", "(II)I"⟩
abbrev cX2_hasBox : ByteArray := prog_4_method_3_code
def yX2_hasBox : MethodName := ⟨RX2, "hasBox", "(I)Z"⟩
abbrev cX2_boxOf : ByteArray := prog_4_method_4_code
def yX2_boxOf : MethodName := ⟨RX2, "boxOf", "(I)I"⟩
abbrev cX2_faceOf : ByteArray := prog_4_method_5_code
def yX2_faceOf : MethodName := ⟨RX2, "faceOf", "(I)I"⟩
abbrev cX2_paintOf : ByteArray := prog_4_method_6_code
def yX2_paintOf : MethodName := ⟨RX2, "paintOf", "(I)I"⟩
abbrev cX2_laidOf : ByteArray := prog_4_method_7_code
def yX2_laidOf : MethodName := ⟨RX2, "laidOf", "(I)I"⟩
abbrev cX2_lookOf : ByteArray := prog_4_method_8_code
def yX2_lookOf : MethodName := ⟨RX2, "lookOf", "(IIII)I"⟩
abbrev cX2_show : ByteArray := prog_4_method_9_code
def yX2_show : MethodName := ⟨RX2, "show", "(LBoxStage$Scene;LBoxStage$Pieces;)V"⟩
abbrev cX2_lay : ByteArray := prog_4_method_10_code
def yX2_lay : MethodName := ⟨RX2, "lay", "(LBoxStage$Scene;LBoxStage$Pieces;I)V"⟩
abbrev cX2_layInk : ByteArray := prog_4_method_11_code
def yX2_layInk : MethodName := ⟨RX2, "layInk", "(LBoxStage$Scene;LBoxStage$Pieces;III)V"⟩
abbrev cX2_countAll : ByteArray := prog_4_method_12_code
def yX2_countAll : MethodName := ⟨RX2, "countAll", "()V"⟩
abbrev cX2_addDifference : ByteArray := prog_4_method_13_code
def yX2_addDifference : MethodName := ⟨RX2, "addDifference", "(II)V"⟩
def RX3 : String := "BoxStage$Pieces"
def TX3 : u_T := fun k => match k with
  | 0 => ("BoxStage$Pieces", "ends", "[I", true)
  | 1 => ("BoxStage$Pieces", "owners", "[I", true)
  | 2 => ("BoxStage$Pieces", "order", "[I", true)
  | 3 => ("BoxStage$Pieces", "ordered", "I", false)
  | 4 => ("BoxStage$Pieces", "count", "I", false)
  | 5 => ("BoxStage$Pieces", "nextNumber", "I", false)
  | 6 => ("BoxStage$Pieces", "left", "LBoxStage$Numbers;", true)
  | 7 => ("BoxStage$Pieces", "below", "[LBoxStage$Numbers;", true)
  | 8 => ("BoxStage$Pieces", "above", "[LBoxStage$Numbers;", true)
  | 9 => ("BoxStage$Pieces", "tangle", "LBoxStage$Numbers;", true)
  | 10 => ("BoxStage$Pieces", "backwards", "LBoxStage$Numbers;", true)
  | _ => ("BoxStage$Pieces", "toFollow", "LBoxStage$Numbers;", true)
def tyX3 : Nat → FieldType := fun k => match k with
  | 0 => .array .int
  | 1 => .array .int
  | 2 => .array .int
  | 3 => .int
  | 4 => .int
  | 5 => .int
  | 6 => .object "BoxStage$Numbers"
  | 7 => .array (.object "BoxStage$Numbers")
  | 8 => .array (.object "BoxStage$Numbers")
  | 9 => .object "BoxStage$Numbers"
  | 10 => .object "BoxStage$Numbers"
  | _ => .object "BoxStage$Numbers"
theorem nmX3 : ∀ a, a < 12 → ∀ b, b < 12 → a ≠ b → (TX3 a).2.1 ≠ (TX3 b).2.1 := by decide +kernel
theorem tyX3_ok : ∀ k, k < 12 → parseFieldDescriptor (TX3 k).2.2.1 = some (tyX3 k) := by decide +kernel
abbrev cX3_init : ByteArray := prog_5_method_1_code
def yX3_init : MethodName := ⟨RX3, "<init>", "()V"⟩
abbrev cX3_load : ByteArray := prog_5_method_2_code
def yX3_load : MethodName := ⟨RX3, "load", "(LBoxStage$Scene;)V"⟩
abbrev cX3_bringIn : ByteArray := prog_5_method_3_code
def yX3_bringIn : MethodName := ⟨RX3, "bringIn", "(I)V"⟩
abbrev cX3_relate : ByteArray := prog_5_method_4_code
def yX3_relate : MethodName := ⟨RX3, "relate", "(II)V"⟩
abbrev cX3_haveCommonPixel : ByteArray := prog_5_method_5_code
def yX3_haveCommonPixel : MethodName := ⟨RX3, "haveCommonPixel", "(II)Z"⟩
abbrev cX3_overlapBetween : ByteArray := prog_5_method_6_code
def yX3_overlapBetween : MethodName := ⟨RX3, "overlapBetween", "(IIII)Z"⟩
abbrev cX3_putInOrder : ByteArray := prog_5_method_7_code
def yX3_putInOrder : MethodName := ⟨RX3, "putInOrder", "()Z"⟩
abbrev cX3_lowestFree : ByteArray := prog_5_method_8_code
def yX3_lowestFree : MethodName := ⟨RX3, "lowestFree", "()I"⟩
abbrev cX3_cutOne : ByteArray := prog_5_method_9_code
def yX3_cutOne : MethodName := ⟨RX3, "cutOne", "()Z"⟩
abbrev cX3_findTangle : ByteArray := prog_5_method_10_code
def yX3_findTangle : MethodName := ⟨RX3, "findTangle", "(I)V"⟩
abbrev cX3_follow : ByteArray := prog_5_method_11_code
def yX3_follow : MethodName := ⟨RX3, "follow", "([LBoxStage$Numbers;ILBoxStage$Numbers;)V"⟩
abbrev cX3_lowestPlane : ByteArray := prog_5_method_12_code
def yX3_lowestPlane : MethodName := ⟨RX3, "lowestPlane", "(II)I"⟩
abbrev cX3_cut : ByteArray := prog_5_method_13_code
def yX3_cut : MethodName := ⟨RX3, "cut", "(III)V"⟩
abbrev cX3_cuts : ByteArray := prog_5_method_14_code
def yX3_cuts : MethodName := ⟨RX3, "cuts", "()I"⟩
abbrev cX3_boxesCut : ByteArray := prog_5_method_15_code
def yX3_boxesCut : MethodName := ⟨RX3, "boxesCut", "()I"⟩
def RX4 : String := "BoxStage$Ray"
def TX4 : u_T := fun k => match k with
  | 0 => ("BoxStage$Ray", "a", "I", false)
  | 1 => ("BoxStage$Ray", "b", "I", false)
  | 2 => ("BoxStage$Ray", "exit", "I", false)
  | _ => ("BoxStage$Ray", "face", "I", false)
def tyX4 : Nat → FieldType := fun k => match k with
  | 0 => .int
  | 1 => .int
  | 2 => .int
  | _ => .int
theorem nmX4 : ∀ a, a < 4 → ∀ b, b < 4 → a ≠ b → (TX4 a).2.1 ≠ (TX4 b).2.1 := by decide +kernel
theorem tyX4_ok : ∀ k, k < 4 → parseFieldDescriptor (TX4 k).2.2.1 = some (tyX4 k) := by decide +kernel
abbrev cX4_init : ByteArray := prog_6_method_1_code
def yX4_init : MethodName := ⟨RX4, "<init>", "()V"⟩
abbrev cX4_aim : ByteArray := prog_6_method_2_code
def yX4_aim : MethodName := ⟨RX4, "aim", "(II)V"⟩
abbrev cX4_hits : ByteArray := prog_6_method_3_code
def yX4_hits : MethodName := ⟨RX4, "hits", "([II)Z"⟩
abbrev cX4_leave : ByteArray := prog_6_method_4_code
def yX4_leave : MethodName := ⟨RX4, "leave", "([II)V"⟩
abbrev cX4_spotRow : ByteArray := prog_6_method_5_code
def yX4_spotRow : MethodName := ⟨RX4, "spotRow", "()I"⟩
abbrev cX4_spotPlace : ByteArray := prog_6_method_6_code
def yX4_spotPlace : MethodName := ⟨RX4, "spotPlace", "()I"⟩
abbrev cX4_wholeInSprite : ByteArray := prog_6_method_7_code
def yX4_wholeInSprite : MethodName := ⟨RX4, "wholeInSprite", "(I)I"⟩
def RX5 : String := "BoxStage$Scene"
def TX5 : u_T := fun k => match k with
  | 0 => ("BoxStage$Scene", "there", "I", false)
  | 1 => ("BoxStage$Scene", "ends", "[I", true)
  | 2 => ("BoxStage$Scene", "looks", "[I", true)
  | 3 => ("BoxStage$Scene", "rows", "[I", true)
  | _ => ("BoxStage$Scene", "trial", "[I", true)
def tyX5 : Nat → FieldType := fun k => match k with
  | 0 => .int
  | 1 => .array .int
  | 2 => .array .int
  | 3 => .array .int
  | _ => .array .int
theorem nmX5 : ∀ a, a < 5 → ∀ b, b < 5 → a ≠ b → (TX5 a).2.1 ≠ (TX5 b).2.1 := by decide +kernel
theorem tyX5_ok : ∀ k, k < 5 → parseFieldDescriptor (TX5 k).2.2.1 = some (tyX5 k) := by decide +kernel
abbrev cX5_init : ByteArray := prog_7_method_1_code
def yX5_init : MethodName := ⟨RX5, "<init>", "()V"⟩
abbrev cX5_copyFrom : ByteArray := prog_7_method_2_code
def yX5_copyFrom : MethodName := ⟨RX5, "copyFrom", "(LBoxStage$Scene;)V"⟩
abbrev cX5_has : ByteArray := prog_7_method_3_code
def yX5_has : MethodName := ⟨RX5, "has", "(I)Z"⟩
abbrev cX5_takeAway : ByteArray := prog_7_method_4_code
def yX5_takeAway : MethodName := ⟨RX5, "takeAway", "(I)V"⟩
abbrev cX5_howMany : ByteArray := prog_7_method_5_code
def yX5_howMany : MethodName := ⟨RX5, "howMany", "()I"⟩
abbrev cX5_setLooks : ByteArray := prog_7_method_6_code
def yX5_setLooks : MethodName := ⟨RX5, "setLooks", "(IIIII)V"⟩
abbrev cX5_tryAlong : ByteArray := prog_7_method_7_code
def yX5_tryAlong : MethodName := ⟨RX5, "tryAlong", "(III)V"⟩
abbrev cX5_settle : ByteArray := prog_7_method_8_code
def yX5_settle : MethodName := ⟨RX5, "settle", "(I)V"⟩
abbrev cX5_lowestInTheWay : ByteArray := prog_7_method_9_code
def yX5_lowestInTheWay : MethodName := ⟨RX5, "lowestInTheWay", "(I)I"⟩
abbrev cX5_sharesRoom : ByteArray := prog_7_method_10_code
def yX5_sharesRoom : MethodName := ⟨RX5, "sharesRoom", "(I)Z"⟩
abbrev cX5_go : ByteArray := prog_7_method_11_code
def yX5_go : MethodName := ⟨RX5, "go", "(IIII)I"⟩
abbrev cX5_inkAt : ByteArray := prog_7_method_12_code
def yX5_inkAt : MethodName := ⟨RX5, "inkAt", "(ILBoxStage$Ray;)I"⟩
def RX6 : String := "BoxStage"
def TX6 : u_T := fun k => match k with
  | 0 => ("BoxStage", "scene", "LBoxStage$Scene;", true)
  | 1 => ("BoxStage", "kept", "[LBoxStage$Scene;", true)
  | 2 => ("BoxStage", "isKept", "[Z", true)
  | 3 => ("BoxStage", "picture", "LBoxStage$Picture;", true)
  | 4 => ("BoxStage", "ray", "LBoxStage$Ray;", true)
  | 5 => ("BoxStage", "outline", "LBoxStage$Outline;", true)
  | 6 => ("BoxStage", "otherOutline", "LBoxStage$Outline;", true)
  | 7 => ("BoxStage", "exits", "[I", true)
  | 8 => ("BoxStage", "heights", "[I", true)
  | 9 => ("BoxStage", "shown", "LBoxStage$Pieces;", false)
  | 10 => ("BoxStage", "spare", "LBoxStage$Pieces;", false)
  | _ => ("BoxStage", "drawings", "I", false)
def tyX6 : Nat → FieldType := fun k => match k with
  | 0 => .object "BoxStage$Scene"
  | 1 => .array (.object "BoxStage$Scene")
  | 2 => .array .boolean
  | 3 => .object "BoxStage$Picture"
  | 4 => .object "BoxStage$Ray"
  | 5 => .object "BoxStage$Outline"
  | 6 => .object "BoxStage$Outline"
  | 7 => .array .int
  | 8 => .array .int
  | 9 => .object "BoxStage$Pieces"
  | 10 => .object "BoxStage$Pieces"
  | _ => .int
theorem nmX6 : ∀ a, a < 12 → ∀ b, b < 12 → a ≠ b → (TX6 a).2.1 ≠ (TX6 b).2.1 := by decide +kernel
theorem tyX6_ok : ∀ k, k < 12 → parseFieldDescriptor (TX6 k).2.2.1 = some (tyX6 k) := by decide +kernel
abbrev cX6_init : ByteArray := prog_1_method_1_code
def yX6_init : MethodName := ⟨RX6, "<init>", "()V"⟩
abbrev cX6_place : ByteArray := prog_1_method_2_code
def yX6_place : MethodName := ⟨RX6, "place", "(IIIIIII)I"⟩
abbrev cX6_lift : ByteArray := prog_1_method_3_code
def yX6_lift : MethodName := ⟨RX6, "lift", "(I)Z"⟩
abbrev cX6_paint : ByteArray := prog_1_method_4_code
def yX6_paint : MethodName := ⟨RX6, "paint", "(IIIII)Z"⟩
abbrev cX6_ink : ByteArray := prog_1_method_5_code
def yX6_ink : MethodName := ⟨RX6, "ink", "(III)Z"⟩
abbrev cX6_slide : ByteArray := prog_1_method_6_code
def yX6_slide : MethodName := ⟨RX6, "slide", "(III)I"⟩
abbrev cX6_drop : ByteArray := prog_1_method_7_code
def yX6_drop : MethodName := ⟨RX6, "drop", "()I"⟩
abbrev cX6_draw : ByteArray := prog_1_method_8_code
def yX6_draw : MethodName := ⟨RX6, "draw", "()I"⟩
abbrev cX6_piece : ByteArray := prog_1_method_9_code
def yX6_piece : MethodName := ⟨RX6, "piece", "(II)I"⟩
abbrev cX6_pixel : ByteArray := prog_1_method_10_code
def yX6_pixel : MethodName := ⟨RX6, "pixel", "(III)I"⟩
abbrev cX6_seen : ByteArray := prog_1_method_11_code
def yX6_seen : MethodName := ⟨RX6, "seen", "(I)I"⟩
abbrev cX6_changed : ByteArray := prog_1_method_12_code
def yX6_changed : MethodName := ⟨RX6, "changed", "(I)I"⟩
abbrev cX6_count : ByteArray := prog_1_method_13_code
def yX6_count : MethodName := ⟨RX6, "count", "(I)I"⟩
abbrev cX6_covers : ByteArray := prog_1_method_14_code
def yX6_covers : MethodName := ⟨RX6, "covers", "(II)I"⟩
abbrev cX6_tangled : ByteArray := prog_1_method_15_code
def yX6_tangled : MethodName := ⟨RX6, "tangled", "(I)I"⟩
abbrev cX6_under : ByteArray := prog_1_method_16_code
def yX6_under : MethodName := ⟨RX6, "under", "(III)I"⟩
abbrev cX6_box : ByteArray := prog_1_method_17_code
def yX6_box : MethodName := ⟨RX6, "box", "(II)I"⟩
abbrev cX6_keep : ByteArray := prog_1_method_18_code
def yX6_keep : MethodName := ⟨RX6, "keep", "(I)Z"⟩
abbrev cX6_back : ByteArray := prog_1_method_19_code
def yX6_back : MethodName := ⟨RX6, "back", "(I)Z"⟩
abbrev cX6_findExits : ByteArray := prog_1_method_20_code
def yX6_findExits : MethodName := ⟨RX6, "findExits", "(II)V"⟩
abbrev cX6_howManyNearer : ByteArray := prog_1_method_21_code
def yX6_howManyNearer : MethodName := ⟨RX6, "howManyNearer", "(I)I"⟩
abbrev cX6_isBelow : ByteArray := prog_1_method_22_code
def yX6_isBelow : MethodName := ⟨RX6, "isBelow", "(II)Z"⟩
abbrev cX6_isPixel : ByteArray := prog_1_method_23_code
def yX6_isPixel : MethodName := ⟨RX6, "isPixel", "(II)Z"⟩
abbrev cX6_liesInRoom : ByteArray := prog_1_method_24_code
def yX6_liesInRoom : MethodName := ⟨RX6, "liesInRoom", "(II)Z"⟩
abbrev cX6_liesBeyond : ByteArray := prog_1_method_25_code
def yX6_liesBeyond : MethodName := ⟨RX6, "liesBeyond", "([III)Z"⟩
def RX7 : String := "BoxStageModel"
def TX7 : u_T := fun k => match k with
  | 0 => ("BoxStageModel", "boxes", "[I", true)
  | 1 => ("BoxStageModel", "inks", "[I", true)
  | 2 => ("BoxStageModel", "kept", "[I", true)
  | 3 => ("BoxStageModel", "isKept", "[Z", true)
  | 4 => ("BoxStageModel", "pieces", "[I", true)
  | 5 => ("BoxStageModel", "covers", "[Z", true)
  | 6 => ("BoxStageModel", "reaches", "[Z", true)
  | 7 => ("BoxStageModel", "exits", "[I", true)
  | 8 => ("BoxStageModel", "order", "[I", true)
  | 9 => ("BoxStageModel", "told", "[I", true)
  | 10 => ("BoxStageModel", "toldMany", "I", false)
  | 11 => ("BoxStageModel", "cuts", "I", false)
  | 12 => ("BoxStageModel", "cutBoxes", "I", false)
  | 13 => ("BoxStageModel", "shown", "I", false)
  | 14 => ("BoxStageModel", "laid", "I", false)
  | 15 => ("BoxStageModel", "drawings", "I", false)
  | 16 => ("BoxStageModel", "picture", "[I", true)
  | 17 => ("BoxStageModel", "former", "[I", true)
  | 18 => ("BoxStageModel", "layers", "[I", true)
  | 19 => ("BoxStageModel", "ends", "[I", true)
  | 20 => ("BoxStageModel", "heights", "[I", true)
  | _ => ("BoxStageModel", "nextNumber", "I", false)
def tyX7 : Nat → FieldType := fun k => match k with
  | 0 => .array .int
  | 1 => .array .int
  | 2 => .array .int
  | 3 => .array .boolean
  | 4 => .array .int
  | 5 => .array .boolean
  | 6 => .array .boolean
  | 7 => .array .int
  | 8 => .array .int
  | 9 => .array .int
  | 10 => .int
  | 11 => .int
  | 12 => .int
  | 13 => .int
  | 14 => .int
  | 15 => .int
  | 16 => .array .int
  | 17 => .array .int
  | 18 => .array .int
  | 19 => .array .int
  | 20 => .array .int
  | _ => .int
theorem nmX7 : ∀ a, a < 22 → ∀ b, b < 22 → a ≠ b → (TX7 a).2.1 ≠ (TX7 b).2.1 := by decide +kernel
theorem tyX7_ok : ∀ k, k < 22 → parseFieldDescriptor (TX7 k).2.2.1 = some (tyX7 k) := by decide +kernel
abbrev cX7_init : ByteArray := prog_9_method_1_code
def yX7_init : MethodName := ⟨RX7, "<init>", "()V"⟩
abbrev cX7_in : ByteArray := prog_9_method_2_code
def yX7_in : MethodName := ⟨RX7, "in", "(II)Z"⟩
abbrev cX7_isThere : ByteArray := prog_9_method_3_code
def yX7_isThere : MethodName := ⟨RX7, "isThere", "(I)Z"⟩
abbrev cX7_alongX : ByteArray := prog_9_method_4_code
def yX7_alongX : MethodName := ⟨RX7, "alongX", "(I)I"⟩
abbrev cX7_alongY : ByteArray := prog_9_method_5_code
def yX7_alongY : MethodName := ⟨RX7, "alongY", "(I)I"⟩
abbrev cX7_pixelOf : ByteArray := prog_9_method_6_code
def yX7_pixelOf : MethodName := ⟨RX7, "pixelOf", "(II)I"⟩
abbrev cX7_greater : ByteArray := prog_9_method_7_code
def yX7_greater : MethodName := ⟨RX7, "greater", "(II)I"⟩
abbrev cX7_exit : ByteArray := prog_9_method_8_code
def yX7_exit : MethodName := ⟨RX7, "exit", "([IIII)I"⟩
abbrev cX7_exitOf : ByteArray := prog_9_method_9_code
def yX7_exitOf : MethodName := ⟨RX7, "exitOf", "(II)I"⟩
abbrev cX7_faceOf : ByteArray := prog_9_method_10_code
def yX7_faceOf : MethodName := ⟨RX7, "faceOf", "(III)I"⟩
abbrev cX7_inkOf : ByteArray := prog_9_method_11_code
def yX7_inkOf : MethodName := ⟨RX7, "inkOf", "(III)I"⟩
abbrev cX7_lies : ByteArray := prog_9_method_12_code
def yX7_lies : MethodName := ⟨RX7, "lies", "(II)Z"⟩
abbrev cX7_meets : ByteArray := prog_9_method_13_code
def yX7_meets : MethodName := ⟨RX7, "meets", "(I[I)I"⟩
abbrev cX7_place : ByteArray := prog_9_method_14_code
def yX7_place : MethodName := ⟨RX7, "place", "(IIIIIII)I"⟩
abbrev cX7_lift : ByteArray := prog_9_method_15_code
def yX7_lift : MethodName := ⟨RX7, "lift", "(I)Z"⟩
abbrev cX7_paint : ByteArray := prog_9_method_16_code
def yX7_paint : MethodName := ⟨RX7, "paint", "(IIIII)Z"⟩
abbrev cX7_ink : ByteArray := prog_9_method_17_code
def yX7_ink : MethodName := ⟨RX7, "ink", "(III)Z"⟩
abbrev cX7_goes : ByteArray := prog_9_method_18_code
def yX7_goes : MethodName := ⟨RX7, "goes", "(II)Z"⟩
abbrev cX7_slide : ByteArray := prog_9_method_19_code
def yX7_slide : MethodName := ⟨RX7, "slide", "(III)I"⟩
abbrev cX7_drop : ByteArray := prog_9_method_20_code
def yX7_drop : MethodName := ⟨RX7, "drop", "()I"⟩
abbrev cX7_gather : ByteArray := prog_9_method_21_code
def yX7_gather : MethodName := ⟨RX7, "gather", "(II)V"⟩
abbrev cX7_pairs : ByteArray := prog_9_method_22_code
def yX7_pairs : MethodName := ⟨RX7, "pairs", "()V"⟩
abbrev cX7_with : ByteArray := prog_9_method_23_code
def yX7_with : MethodName := ⟨RX7, "with", "(I)V"⟩
abbrev cX7_isLeft : ByteArray := prog_9_method_24_code
def yX7_isLeft : MethodName := ⟨RX7, "isLeft", "(I)Z"⟩
abbrev cX7_close : ByteArray := prog_9_method_25_code
def yX7_close : MethodName := ⟨RX7, "close", "()V"⟩
abbrev cX7_isTangled : ByteArray := prog_9_method_26_code
def yX7_isTangled : MethodName := ⟨RX7, "isTangled", "(II)Z"⟩
abbrev cX7_begin : ByteArray := prog_9_method_27_code
def yX7_begin : MethodName := ⟨RX7, "begin", "()V"⟩
abbrev cX7_isFree : ByteArray := prog_9_method_28_code
def yX7_isFree : MethodName := ⟨RX7, "isFree", "(I)Z"⟩
abbrev cX7_free : ByteArray := prog_9_method_29_code
def yX7_free : MethodName := ⟨RX7, "free", "()I"⟩
abbrev cX7_plane : ByteArray := prog_9_method_30_code
def yX7_plane : MethodName := ⟨RX7, "plane", "(II)I"⟩
abbrev cX7_cut : ByteArray := prog_9_method_31_code
def yX7_cut : MethodName := ⟨RX7, "cut", "()V"⟩
abbrev cX7_draw : ByteArray := prog_9_method_32_code
def yX7_draw : MethodName := ⟨RX7, "draw", "()I"⟩
abbrev cX7_isCut : ByteArray := prog_9_method_33_code
def yX7_isCut : MethodName := ⟨RX7, "isCut", "(I)Z"⟩
abbrev cX7_paintAll : ByteArray := prog_9_method_34_code
def yX7_paintAll : MethodName := ⟨RX7, "paintAll", "()V"⟩
abbrev cX7_piece : ByteArray := prog_9_method_35_code
def yX7_piece : MethodName := ⟨RX7, "piece", "(II)I"⟩
abbrev cX7_pixel : ByteArray := prog_9_method_36_code
def yX7_pixel : MethodName := ⟨RX7, "pixel", "(III)I"⟩
abbrev cX7_seen : ByteArray := prog_9_method_37_code
def yX7_seen : MethodName := ⟨RX7, "seen", "(I)I"⟩
abbrev cX7_changed : ByteArray := prog_9_method_38_code
def yX7_changed : MethodName := ⟨RX7, "changed", "(I)I"⟩
abbrev cX7_count : ByteArray := prog_9_method_39_code
def yX7_count : MethodName := ⟨RX7, "count", "(I)I"⟩
abbrev cX7_covers : ByteArray := prog_9_method_40_code
def yX7_covers : MethodName := ⟨RX7, "covers", "(II)I"⟩
abbrev cX7_tangled : ByteArray := prog_9_method_41_code
def yX7_tangled : MethodName := ⟨RX7, "tangled", "(I)I"⟩
abbrev cX7_under : ByteArray := prog_9_method_42_code
def yX7_under : MethodName := ⟨RX7, "under", "(III)I"⟩
abbrev cX7_box : ByteArray := prog_9_method_43_code
def yX7_box : MethodName := ⟨RX7, "box", "(II)I"⟩
abbrev cX7_keep : ByteArray := prog_9_method_44_code
def yX7_keep : MethodName := ⟨RX7, "keep", "(I)Z"⟩
abbrev cX7_back : ByteArray := prog_9_method_45_code
def yX7_back : MethodName := ⟨RX7, "back", "(I)Z"⟩
def RJ6 : String := "java/lang/Integer"
abbrev cJ6_bitCount_0f7a4 : ByteArray := prog_10_method_49_code
def yJ6_bitCount_0f7a4 : MethodName := ⟨RJ6, "bitCount", "(I)I"⟩
def RJ13 : String := "java/lang/Long"
abbrev cJ13_bitCount_95d88 : ByteArray := prog_11_method_50_code
def yJ13_bitCount_95d88 : MethodName := ⟨RJ13, "bitCount", "(J)I"⟩
def RJ9 : String := "java/lang/Math"
abbrev cJ9_max_7cf53 : ByteArray := prog_12_method_65_code
def yJ9_max_7cf53 : MethodName := ⟨RJ9, "max", "(II)I"⟩
abbrev cJ9_min_7cf53 : ByteArray := prog_12_method_69_code
def yJ9_min_7cf53 : MethodName := ⟨RJ9, "min", "(II)I"⟩
def RJ10 : String := "java/lang/System"
def RJ7 : String := "java/util/Arrays"
abbrev cJ7_fill_53178 : ByteArray := prog_14_method_103_code
def yJ7_fill_53178 : MethodName := ⟨RJ7, "fill", "([II)V"⟩
def RL : String := "BoxStageLaw"
abbrev cL_law : ByteArray := code
def yL_law : MethodName := ⟨RL, "law", "([I)Z"⟩
abbrev vwCl : List vw_C := [(RX0, TX0, 2), (RX1, TX1, 6), (RX2, TX2, 8), (RX3, TX3, 12), (RX4, TX4, 4), (RX5, TX5, 5), (RX6, TX6, 12), (RX7, TX7, 22)]
abbrev xTys : List FieldType := [.int, .boolean, .object "BoxStage$Scene", .object "BoxStage$Numbers"]
def xNest : List (String × Nat × MethodName × String) := [("BoxStage$Scene", 40, ⟨"BoxStage", "isBelow", "(II)Z"⟩, "BoxStage"), ("BoxStage$Pieces", 89, ⟨"BoxStage", "liesBeyond", "([III)Z"⟩, "BoxStage")]
def xOver : List String := ["BoxStage$Scene", "BoxStage$Numbers"]
def xty (ci : Nat) : Nat → FieldType := match ci with
  | 0 => tyX0
  | 1 => tyX1
  | 2 => tyX2
  | 3 => tyX3
  | 4 => tyX4
  | 5 => tyX5
  | 6 => tyX6
  | 7 => tyX7
  | _ => fun _ => .int
def xfin (ci k : Nat) : Bool := match vwCl[ci]? with | some r => (r.2.1 k).2.2.2 | none => true
def xdec (ci k : Nat) : String := match vwCl[ci]? with | some r => (r.2.1 k).1 | none => ""
def xgood (w : Cond) : Bool := (w.onTables && w.keeps) || (match w with | .arrayClass _ => true | _ => false)
def xws : List Cond := lw_tbl.filter xgood
def xmem (w : Cond) : Bool := decide (w ∈ lw_tbl) && xgood w
theorem xmem_of {w : Cond} (h : xmem w = true) : w ∈ xws := by
  unfold xmem at h
  rw [Bool.and_eq_true] at h
  exact List.mem_filter.mpr ⟨of_decide_eq_true h.1, h.2⟩
theorem xall_of {ws : List Cond} (h : ws.all xmem = true) : ∀ w ∈ ws, w ∈ xws := fun w hw => xmem_of (List.all_eq_true.mp h w hw)
theorem xin0 : ∀ w ∈ u_ws RX0 TX0 2, w ∈ xws := xall_of (by decide +kernel)
theorem xnw0 : xmem (.instantiable RX0 2) = true ∧ xmem (.initialized RX0) = true := by decide +kernel
theorem xin1 : ∀ w ∈ u_ws RX1 TX1 6, w ∈ xws := xall_of (by decide +kernel)
theorem xnw1 : xmem (.instantiable RX1 6) = true ∧ xmem (.initialized RX1) = true := by decide +kernel
theorem xin2 : ∀ w ∈ u_ws RX2 TX2 8, w ∈ xws := xall_of (by decide +kernel)
theorem xnw2 : xmem (.instantiable RX2 8) = true ∧ xmem (.initialized RX2) = true := by decide +kernel
theorem xin3 : ∀ w ∈ u_ws RX3 TX3 12, w ∈ xws := xall_of (by decide +kernel)
theorem xnw3 : xmem (.instantiable RX3 12) = true ∧ xmem (.initialized RX3) = true := by decide +kernel
theorem xin4 : ∀ w ∈ u_ws RX4 TX4 4, w ∈ xws := xall_of (by decide +kernel)
theorem xnw4 : xmem (.instantiable RX4 4) = true ∧ xmem (.initialized RX4) = true := by decide +kernel
theorem xin5 : ∀ w ∈ u_ws RX5 TX5 5, w ∈ xws := xall_of (by decide +kernel)
theorem xnw5 : xmem (.instantiable RX5 5) = true ∧ xmem (.initialized RX5) = true := by decide +kernel
theorem xin6 : ∀ w ∈ u_ws RX6 TX6 12, w ∈ xws := xall_of (by decide +kernel)
theorem xnw6 : xmem (.instantiable RX6 12) = true ∧ xmem (.initialized RX6) = true := by decide +kernel
theorem xin7 : ∀ w ∈ u_ws RX7 TX7 22, w ∈ xws := xall_of (by decide +kernel)
theorem xnw7 : xmem (.instantiable RX7 22) = true ∧ xmem (.initialized RX7) = true := by decide +kernel
theorem xcl_in {ci : Nat} {C : String} {T : u_T} {N : Nat} (hc : vwCl[ci]? = some (C, T, N)) : ∀ w ∈ u_ws C T N, w ∈ xws := by
  match ci, hc with
  | 0, hc => cases hc; exact xin0
  | 1, hc => cases hc; exact xin1
  | 2, hc => cases hc; exact xin2
  | 3, hc => cases hc; exact xin3
  | 4, hc => cases hc; exact xin4
  | 5, hc => cases hc; exact xin5
  | 6, hc => cases hc; exact xin6
  | 7, hc => cases hc; exact xin7
  | ci + 8, hc => simp [vwCl] at hc
theorem xcl_ty {ci : Nat} {C : String} {T : u_T} {N : Nat} (hc : vwCl[ci]? = some (C, T, N)) : ∀ k, k < N → parseFieldDescriptor (T k).2.2.1 = some (xty ci k) := by
  match ci, hc with
  | 0, hc => cases hc; exact tyX0_ok
  | 1, hc => cases hc; exact tyX1_ok
  | 2, hc => cases hc; exact tyX2_ok
  | 3, hc => cases hc; exact tyX3_ok
  | 4, hc => cases hc; exact tyX4_ok
  | 5, hc => cases hc; exact tyX5_ok
  | 6, hc => cases hc; exact tyX6_ok
  | 7, hc => cases hc; exact tyX7_ok
  | ci + 8, hc => simp [vwCl] at hc
theorem xcl_nm {ci : Nat} {C : String} {T : u_T} {N : Nat} (hc : vwCl[ci]? = some (C, T, N)) : ∀ a, a < N → ∀ b, b < N → a ≠ b → (T a).2.1 ≠ (T b).2.1 := by
  match ci, hc with
  | 0, hc => cases hc; exact nmX0
  | 1, hc => cases hc; exact nmX1
  | 2, hc => cases hc; exact nmX2
  | 3, hc => cases hc; exact nmX3
  | 4, hc => cases hc; exact nmX4
  | 5, hc => cases hc; exact nmX5
  | 6, hc => cases hc; exact nmX6
  | 7, hc => cases hc; exact nmX7
  | ci + 8, hc => simp [vwCl] at hc
theorem xcl_new {ci : Nat} {C : String} {T : u_T} {N : Nat} (hc : vwCl[ci]? = some (C, T, N)) : Cond.instantiable C N ∈ xws ∧ Cond.initialized C ∈ xws := by
  match ci, hc with
  | 0, hc => cases hc; exact ⟨xmem_of xnw0.1, xmem_of xnw0.2⟩
  | 1, hc => cases hc; exact ⟨xmem_of xnw1.1, xmem_of xnw1.2⟩
  | 2, hc => cases hc; exact ⟨xmem_of xnw2.1, xmem_of xnw2.2⟩
  | 3, hc => cases hc; exact ⟨xmem_of xnw3.1, xmem_of xnw3.2⟩
  | 4, hc => cases hc; exact ⟨xmem_of xnw4.1, xmem_of xnw4.2⟩
  | 5, hc => cases hc; exact ⟨xmem_of xnw5.1, xmem_of xnw5.2⟩
  | 6, hc => cases hc; exact ⟨xmem_of xnw6.1, xmem_of xnw6.2⟩
  | 7, hc => cases hc; exact ⟨xmem_of xnw7.1, xmem_of xnw7.2⟩
  | ci + 8, hc => simp [vwCl] at hc
end
section
def xFok (own : String) (q : Nat × Nat × Nat) : Bool := match vwCl[q.2.1]? with | some r => decide (q.2.2 < r.2.2) && xmem (.fieldLink own q.1 (r.2.1 q.2.2).1 (r.2.1 q.2.2).2.1 (r.2.1 q.2.2).2.2.1) | none => false
theorem xFok_of {own : String} {F : List (Nat × Nat × Nat)} (h : F.all (xFok own) = true) : ∀ q ∈ F, ∃ (C : String) (T : u_T) (N : Nat), vwCl[q.2.1]? = some (C, T, N) ∧ q.2.2 < N ∧ Cond.fieldLink own q.1 (T q.2.2).1 (T q.2.2).2.1 (T q.2.2).2.2.1 ∈ xws := by
  intro q hq
  have h1 := List.all_eq_true.mp h q hq
  unfold xFok at h1
  split at h1
  · rename_i r hr
    rw [Bool.and_eq_true] at h1
    exact ⟨r.1, r.2.1, r.2.2, hr, of_decide_eq_true h1.1, xmem_of h1.2⟩
  · cases h1
/-- a method: its name, its bytes, how many slots, what it answers, its decoded rows, the heads of its loops, what its constant pool says of fields: index, then (which of vwCl, which slot) -/
abbrev xM : Type := MethodName × ByteArray × Nat × Option FieldType × List (Nat × Instr × Nat) × List Nat × List (Nat × Nat × Nat)
def xOK (M : xM) : Prop := plainName M.1.cls = true ∧ (M.1 = yL_law ∨ Cond.code M.1 M.2.1 M.2.2.1 M.2.2.2.1 ∈ xws) ∧ (∀ q ∈ M.2.2.2.2.1, decode M.2.1 q.1 = .ok q.2) ∧ ∀ q ∈ M.2.2.2.2.2.2, ∃ (C : String) (T : u_T) (N : Nat), vwCl[q.2.1]? = some (C, T, N) ∧ q.2.2 < N ∧ Cond.fieldLink M.1.cls q.1 (T q.2.2).1 (T q.2.2).2.1 (T q.2.2).2.2.1 ∈ xws
def FX5 : List (Nat × Nat × Nat) := [(9, 5, 0), (15, 5, 1), (19, 5, 2), (22, 5, 3), (25, 5, 4), (68, 4, 3)]
theorem FX5_ok : FX5.all (xFok RX5) = true := by decide +kernel
def FX3 : List (Nat × Nat × Nat) := [(9, 3, 0), (15, 3, 1), (18, 3, 2), (21, 3, 3), (25, 3, 4), (28, 3, 5), (34, 3, 6), (38, 3, 7), (42, 3, 8), (45, 3, 9), (48, 3, 10), (51, 3, 11), (54, 5, 1)]
theorem FX3_ok : FX3.all (xFok RX3) = true := by decide +kernel
def FX6 : List (Nat × Nat × Nat) := [(12, 6, 0), (16, 6, 1), (20, 6, 2), (27, 6, 3), (34, 6, 4), (41, 6, 5), (45, 6, 6), (48, 6, 7), (52, 6, 8), (58, 6, 9), (62, 6, 10), (65, 6, 11), (99, 5, 3), (107, 5, 1), (122, 3, 4), (125, 3, 3), (128, 3, 2), (131, 3, 1), (134, 3, 0), (138, 2, 0), (160, 2, 2), (163, 2, 3), (173, 2, 4), (176, 2, 5), (200, 3, 9), (216, 5, 2), (232, 4, 2)]
theorem FX6_ok : FX6.all (xFok RX6) = true := by decide +kernel
def FX2 : List (Nat × Nat × Nat) := [(9, 2, 0), (15, 2, 1), (18, 2, 2), (21, 2, 3), (24, 2, 4), (28, 2, 5), (34, 2, 6), (41, 2, 7), (53, 3, 3), (58, 3, 2), (68, 3, 0), (74, 1, 4), (77, 1, 5), (94, 3, 1), (111, 4, 3), (114, 5, 1), (115, 5, 2)]
theorem FX2_ok : FX2.all (xFok RX2) = true := by decide +kernel
def FX4 : List (Nat × Nat × Nat) := [(7, 4, 0), (13, 4, 1), (25, 4, 3), (28, 4, 2)]
theorem FX4_ok : FX4.all (xFok RX4) = true := by decide +kernel
def FX1 : List (Nat × Nat × Nat) := [(7, 1, 0), (13, 1, 1), (16, 1, 2), (19, 1, 3), (22, 1, 4), (25, 1, 5)]
theorem FX1_ok : FX1.all (xFok RX1) = true := by decide +kernel
def FX0 : List (Nat × Nat × Nat) := [(7, 0, 0), (13, 0, 1)]
theorem FX0_ok : FX0.all (xFok RX0) = true := by decide +kernel
def FX7 : List (Nat × Nat × Nat) := [(7, 7, 0), (13, 7, 1), (16, 7, 2), (19, 7, 3), (23, 7, 4), (26, 7, 5), (29, 7, 6), (32, 7, 7), (35, 7, 8), (38, 7, 9), (41, 7, 16), (44, 7, 17), (47, 7, 18), (50, 7, 19), (53, 7, 20), (123, 7, 21), (137, 7, 10), (140, 7, 11), (143, 7, 12), (152, 7, 15), (155, 7, 13), (158, 7, 14)]
theorem FX7_ok : FX7.all (xFok RX7) = true := by decide +kernel
def DX0_init : List (Nat × Instr × Nat) := [(0, .aload_n 0, 1), (1, .invokespecial 1, 3), (4, .return_, 1)]
def mX0_init : xM := (yX0_init, cX0_init, 1, none, DX0_init, [], FX0)
theorem kX0_init : xOK mX0_init := ⟨by decide +kernel, Or.inr (xmem_of (by decide +kernel)), by decide +kernel, xFok_of FX0_ok⟩
def DX0_clear : List (Nat × Instr × Nat) := [(0, .aload_n 0, 1), (1, .lconst 0, 1), (2, .putfield 7, 3), (5, .aload_n 0, 1), (6, .lconst 0, 1), (7, .putfield 13, 3), (10, .return_, 1)]
def mX0_clear : xM := (yX0_clear, cX0_clear, 1, none, DX0_clear, [], FX0)
theorem kX0_clear : xOK mX0_clear := ⟨by decide +kernel, Or.inr (xmem_of (by decide +kernel)), by decide +kernel, xFok_of FX0_ok⟩
def DX0_copyFrom : List (Nat × Instr × Nat) := [(0, .aload_n 0, 1), (1, .aload_n 1, 1), (2, .getfield 7, 3), (5, .putfield 7, 3), (8, .aload_n 0, 1), (9, .aload_n 1, 1), (10, .getfield 13, 3), (13, .putfield 13, 3), (16, .return_, 1)]
def mX0_copyFrom : xM := (yX0_copyFrom, cX0_copyFrom, 2, none, DX0_copyFrom, [], FX0)
theorem kX0_copyFrom : xOK mX0_copyFrom := ⟨by decide +kernel, Or.inr (xmem_of (by decide +kernel)), by decide +kernel, xFok_of FX0_ok⟩
def DX0_add : List (Nat × Instr × Nat) := [(0, .iload_n 1, 1), (1, .bipush 64, 2), (3, .if_icmp .ge 18, 3), (6, .aload_n 0, 1), (7, .dup, 1), (8, .getfield 7, 3), (11, .lconst 1, 1), (12, .iload_n 1, 1), (13, .lshl, 1), (14, .lor, 1), (15, .putfield 7, 3), (18, .goto 18, 3), (21, .aload_n 0, 1), (22, .dup, 1), (23, .getfield 13, 3), (26, .lconst 1, 1), (27, .iload_n 1, 1), (28, .bipush 64, 2), (30, .isub, 1), (31, .lshl, 1), (32, .lor, 1), (33, .putfield 13, 3), (36, .return_, 1)]
def mX0_add : xM := (yX0_add, cX0_add, 2, none, DX0_add, [], FX0)
theorem kX0_add : xOK mX0_add := ⟨by decide +kernel, Or.inr (xmem_of (by decide +kernel)), by decide +kernel, xFok_of FX0_ok⟩
def DX0_remove : List (Nat × Instr × Nat) := [(0, .iload_n 1, 1), (1, .bipush 64, 2), (3, .if_icmp .ge 22, 3), (6, .aload_n 0, 1), (7, .dup, 1), (8, .getfield 7, 3), (11, .lconst 1, 1), (12, .iload_n 1, 1), (13, .lshl, 1), (14, .ldc2_w 16, 3), (17, .lxor, 1), (18, .land, 1), (19, .putfield 7, 3), (22, .goto 22, 3), (25, .aload_n 0, 1), (26, .dup, 1), (27, .getfield 13, 3), (30, .lconst 1, 1), (31, .iload_n 1, 1), (32, .bipush 64, 2), (34, .isub, 1), (35, .lshl, 1), (36, .ldc2_w 16, 3), (39, .lxor, 1), (40, .land, 1), (41, .putfield 13, 3), (44, .return_, 1)]
def mX0_remove : xM := (yX0_remove, cX0_remove, 2, none, DX0_remove, [], FX0)
theorem kX0_remove : xOK mX0_remove := ⟨by decide +kernel, Or.inr (xmem_of (by decide +kernel)), by decide +kernel, xFok_of FX0_ok⟩
def DX0_has : List (Nat × Instr × Nat) := [(0, .iload_n 1, 1), (1, .bipush 64, 2), (3, .if_icmp .ge 12, 3), (6, .aload_n 0, 1), (7, .getfield 7, 3), (10, .iload_n 1, 1), (11, .lshr, 1), (12, .goto 12, 3), (15, .aload_n 0, 1), (16, .getfield 13, 3), (19, .iload_n 1, 1), (20, .bipush 64, 2), (22, .isub, 1), (23, .lshr, 1), (24, .lconst 1, 1), (25, .land, 1), (26, .lconst 0, 1), (27, .lcmp, 1), (28, .ifCond .eq 7, 3), (31, .iconst 1, 1), (32, .goto 4, 3), (35, .iconst 0, 1), (36, .ireturn, 1)]
def mX0_has : xM := (yX0_has, cX0_has, 2, some .boolean, DX0_has, [], FX0)
theorem kX0_has : xOK mX0_has := ⟨by decide +kernel, Or.inr (xmem_of (by decide +kernel)), by decide +kernel, xFok_of FX0_ok⟩
def DX0_addAll : List (Nat × Instr × Nat) := [(0, .aload_n 0, 1), (1, .dup, 1), (2, .getfield 7, 3), (5, .aload_n 1, 1), (6, .getfield 7, 3), (9, .lor, 1), (10, .putfield 7, 3), (13, .aload_n 0, 1), (14, .dup, 1), (15, .getfield 13, 3), (18, .aload_n 1, 1), (19, .getfield 13, 3), (22, .lor, 1), (23, .putfield 13, 3), (26, .return_, 1)]
def mX0_addAll : xM := (yX0_addAll, cX0_addAll, 2, none, DX0_addAll, [], FX0)
theorem kX0_addAll : xOK mX0_addAll := ⟨by decide +kernel, Or.inr (xmem_of (by decide +kernel)), by decide +kernel, xFok_of FX0_ok⟩
def DX0_removeAll : List (Nat × Instr × Nat) := [(0, .aload_n 0, 1), (1, .aload_n 0, 1), (2, .getfield 7, 3), (5, .aload_n 1, 1), (6, .getfield 7, 3), (9, .ldc2_w 16, 3), (12, .lxor, 1), (13, .land, 1), (14, .putfield 7, 3), (17, .aload_n 0, 1), (18, .aload_n 0, 1), (19, .getfield 13, 3), (22, .aload_n 1, 1), (23, .getfield 13, 3), (26, .ldc2_w 16, 3), (29, .lxor, 1), (30, .land, 1), (31, .putfield 13, 3), (34, .return_, 1)]
def mX0_removeAll : xM := (yX0_removeAll, cX0_removeAll, 2, none, DX0_removeAll, [], FX0)
theorem kX0_removeAll : xOK mX0_removeAll := ⟨by decide +kernel, Or.inr (xmem_of (by decide +kernel)), by decide +kernel, xFok_of FX0_ok⟩
def DX0_keepThoseIn : List (Nat × Instr × Nat) := [(0, .aload_n 0, 1), (1, .dup, 1), (2, .getfield 7, 3), (5, .aload_n 1, 1), (6, .getfield 7, 3), (9, .land, 1), (10, .putfield 7, 3), (13, .aload_n 0, 1), (14, .dup, 1), (15, .getfield 13, 3), (18, .aload_n 1, 1), (19, .getfield 13, 3), (22, .land, 1), (23, .putfield 13, 3), (26, .return_, 1)]
def mX0_keepThoseIn : xM := (yX0_keepThoseIn, cX0_keepThoseIn, 2, none, DX0_keepThoseIn, [], FX0)
theorem kX0_keepThoseIn : xOK mX0_keepThoseIn := ⟨by decide +kernel, Or.inr (xmem_of (by decide +kernel)), by decide +kernel, xFok_of FX0_ok⟩
def DX0_meets : List (Nat × Instr × Nat) := [(0, .aload_n 0, 1), (1, .getfield 7, 3), (4, .aload_n 1, 1), (5, .getfield 7, 3), (8, .land, 1), (9, .lconst 0, 1), (10, .lcmp, 1), (11, .ifCond .ne 17, 3), (14, .aload_n 0, 1), (15, .getfield 13, 3), (18, .aload_n 1, 1), (19, .getfield 13, 3), (22, .land, 1), (23, .lconst 0, 1), (24, .lcmp, 1), (25, .ifCond .eq 7, 3), (28, .iconst 1, 1), (29, .goto 4, 3), (32, .iconst 0, 1), (33, .ireturn, 1)]
def mX0_meets : xM := (yX0_meets, cX0_meets, 2, some .boolean, DX0_meets, [], FX0)
theorem kX0_meets : xOK mX0_meets := ⟨by decide +kernel, Or.inr (xmem_of (by decide +kernel)), by decide +kernel, xFok_of FX0_ok⟩
def DX0_isEmpty : List (Nat × Instr × Nat) := [(0, .aload_n 0, 1), (1, .getfield 7, 3), (4, .lconst 0, 1), (5, .lcmp, 1), (6, .ifCond .ne 16, 3), (9, .aload_n 0, 1), (10, .getfield 13, 3), (13, .lconst 0, 1), (14, .lcmp, 1), (15, .ifCond .ne 7, 3), (18, .iconst 1, 1), (19, .goto 4, 3), (22, .iconst 0, 1), (23, .ireturn, 1)]
def mX0_isEmpty : xM := (yX0_isEmpty, cX0_isEmpty, 1, some .boolean, DX0_isEmpty, [], FX0)
theorem kX0_isEmpty : xOK mX0_isEmpty := ⟨by decide +kernel, Or.inr (xmem_of (by decide +kernel)), by decide +kernel, xFok_of FX0_ok⟩
def DX0_size : List (Nat × Instr × Nat) := [(0, .aload_n 0, 1), (1, .getfield 7, 3), (4, .invokestatic 18, 3), (7, .aload_n 0, 1), (8, .getfield 13, 3), (11, .invokestatic 18, 3), (14, .iadd, 1), (15, .ireturn, 1)]
def mX0_size : xM := (yX0_size, cX0_size, 1, some .int, DX0_size, [], FX0)
theorem kX0_size : xOK mX0_size := ⟨by decide +kernel, Or.inr (xmem_of (by decide +kernel)), by decide +kernel, xFok_of FX0_ok⟩
def DX0_lowest : List (Nat × Instr × Nat) := [(0, .aload_n 0, 1), (1, .getfield 7, 3), (4, .lconst 0, 1), (5, .lcmp, 1), (6, .ifCond .eq 21, 3), (9, .aload_n 0, 1), (10, .getfield 7, 3), (13, .aload_n 0, 1), (14, .getfield 7, 3), (17, .lneg, 1), (18, .land, 1), (19, .lconst 1, 1), (20, .lsub, 1), (21, .invokestatic 18, 3), (24, .goto 21, 3), (27, .bipush 64, 2), (29, .aload_n 0, 1), (30, .getfield 13, 3), (33, .aload_n 0, 1), (34, .getfield 13, 3), (37, .lneg, 1), (38, .land, 1), (39, .lconst 1, 1), (40, .lsub, 1), (41, .invokestatic 18, 3), (44, .iadd, 1), (45, .ireturn, 1)]
def mX0_lowest : xM := (yX0_lowest, cX0_lowest, 1, some .int, DX0_lowest, [], FX0)
theorem kX0_lowest : xOK mX0_lowest := ⟨by decide +kernel, Or.inr (xmem_of (by decide +kernel)), by decide +kernel, xFok_of FX0_ok⟩
def DX1_init : List (Nat × Instr × Nat) := [(0, .aload_n 0, 1), (1, .invokespecial 1, 3), (4, .return_, 1)]
def mX1_init : xM := (yX1_init, cX1_init, 1, none, DX1_init, [], FX1)
theorem kX1_init : xOK mX1_init := ⟨by decide +kernel, Or.inr (xmem_of (by decide +kernel)), by decide +kernel, xFok_of FX1_ok⟩
def DX1_setTo : List (Nat × Instr × Nat) := [(0, .aload_n 0, 1), (1, .aload_n 1, 1), (2, .iload_n 2, 1), (3, .iaload, 1), (4, .aload_n 1, 1), (5, .iload_n 2, 1), (6, .iconst 5, 1), (7, .iadd, 1), (8, .iaload, 1), (9, .isub, 1), (10, .putfield 7, 3), (13, .aload_n 0, 1), (14, .aload_n 1, 1), (15, .iload_n 2, 1), (16, .iconst 1, 1), (17, .iadd, 1), (18, .iaload, 1), (19, .aload_n 1, 1), (20, .iload_n 2, 1), (21, .iconst 4, 1), (22, .iadd, 1), (23, .iaload, 1), (24, .isub, 1), (25, .putfield 13, 3), (28, .aload_n 0, 1), (29, .aload_n 1, 1), (30, .iload_n 2, 1), (31, .iconst 2, 1), (32, .iadd, 1), (33, .iaload, 1), (34, .aload_n 1, 1), (35, .iload_n 2, 1), (36, .iconst 5, 1), (37, .iadd, 1), (38, .iaload, 1), (39, .isub, 1), (40, .putfield 16, 3), (43, .aload_n 0, 1), (44, .aload_n 1, 1), (45, .iload_n 2, 1), (46, .iconst 3, 1), (47, .iadd, 1), (48, .iaload, 1), (49, .aload_n 1, 1), (50, .iload_n 2, 1), (51, .iconst 4, 1), (52, .iadd, 1), (53, .iaload, 1), (54, .isub, 1), (55, .putfield 19, 3), (58, .aload_n 0, 1), (59, .aload_n 1, 1), (60, .iload_n 2, 1), (61, .iaload, 1), (62, .aload_n 1, 1), (63, .iload_n 2, 1), (64, .iconst 3, 1), (65, .iadd, 1), (66, .iaload, 1), (67, .isub, 1), (68, .putfield 22, 3), (71, .aload_n 0, 1), (72, .aload_n 1, 1), (73, .iload_n 2, 1), (74, .iconst 1, 1), (75, .iadd, 1), (76, .iaload, 1), (77, .aload_n 1, 1), (78, .iload_n 2, 1), (79, .iconst 2, 1), (80, .iadd, 1), (81, .iaload, 1), (82, .isub, 1), (83, .iconst 1, 1), (84, .isub, 1), (85, .putfield 25, 3), (88, .return_, 1)]
def mX1_setTo : xM := (yX1_setTo, cX1_setTo, 3, none, DX1_setTo, [], FX1)
theorem kX1_setTo : xOK mX1_setTo := ⟨by decide +kernel, Or.inr (xmem_of (by decide +kernel)), by decide +kernel, xFok_of FX1_ok⟩
def DX1_meet : List (Nat × Instr × Nat) := [(0, .aload_n 0, 1), (1, .aload_n 0, 1), (2, .getfield 7, 3), (5, .aload_n 1, 1), (6, .getfield 7, 3), (9, .invokestatic 28, 3), (12, .putfield 7, 3), (15, .aload_n 0, 1), (16, .aload_n 0, 1), (17, .getfield 13, 3), (20, .aload_n 1, 1), (21, .getfield 13, 3), (24, .invokestatic 34, 3), (27, .putfield 13, 3), (30, .aload_n 0, 1), (31, .aload_n 0, 1), (32, .getfield 16, 3), (35, .aload_n 1, 1), (36, .getfield 16, 3), (39, .invokestatic 28, 3), (42, .putfield 16, 3), (45, .aload_n 0, 1), (46, .aload_n 0, 1), (47, .getfield 19, 3), (50, .aload_n 1, 1), (51, .getfield 19, 3), (54, .invokestatic 34, 3), (57, .putfield 19, 3), (60, .aload_n 0, 1), (61, .aload_n 0, 1), (62, .getfield 22, 3), (65, .aload_n 1, 1), (66, .getfield 22, 3), (69, .invokestatic 28, 3), (72, .putfield 22, 3), (75, .aload_n 0, 1), (76, .aload_n 0, 1), (77, .getfield 25, 3), (80, .aload_n 1, 1), (81, .getfield 25, 3), (84, .invokestatic 34, 3), (87, .putfield 25, 3), (90, .return_, 1)]
def mX1_meet : xM := (yX1_meet, cX1_meet, 2, none, DX1_meet, [], FX1)
theorem kX1_meet : xOK mX1_meet := ⟨by decide +kernel, Or.inr (xmem_of (by decide +kernel)), by decide +kernel, xFok_of FX1_ok⟩
def DX1_firstJ : List (Nat × Instr × Nat) := [(0, .iconst 2, 1), (1, .aload_n 0, 1), (2, .getfield 7, 3), (5, .imul, 1), (6, .iload_n 1, 1), (7, .isub, 1), (8, .iconst 2, 1), (9, .aload_n 0, 1), (10, .getfield 16, 3), (13, .imul, 1), (14, .iload_n 1, 1), (15, .iadd, 1), (16, .iconst 1, 1), (17, .iadd, 1), (18, .invokestatic 28, 3), (21, .ireturn, 1)]
def mX1_firstJ : xM := (yX1_firstJ, cX1_firstJ, 2, some .int, DX1_firstJ, [], FX1)
theorem kX1_firstJ : xOK mX1_firstJ := ⟨by decide +kernel, Or.inr (xmem_of (by decide +kernel)), by decide +kernel, xFok_of FX1_ok⟩
def DX1_lastJ : List (Nat × Instr × Nat) := [(0, .iconst 2, 1), (1, .aload_n 0, 1), (2, .getfield 13, 3), (5, .imul, 1), (6, .iload_n 1, 1), (7, .isub, 1), (8, .iconst 1, 1), (9, .isub, 1), (10, .iconst 2, 1), (11, .aload_n 0, 1), (12, .getfield 19, 3), (15, .imul, 1), (16, .iload_n 1, 1), (17, .iadd, 1), (18, .invokestatic 34, 3), (21, .ireturn, 1)]
def mX1_lastJ : xM := (yX1_lastJ, cX1_lastJ, 2, some .int, DX1_lastJ, [], FX1)
theorem kX1_lastJ : xOK mX1_lastJ := ⟨by decide +kernel, Or.inr (xmem_of (by decide +kernel)), by decide +kernel, xFok_of FX1_ok⟩
def DX1_howManyPixels : List (Nat × Instr × Nat) := [(0, .iconst 0, 1), (1, .istore_n 1, 1), (2, .aload_n 0, 1), (3, .getfield 22, 3), (6, .istore_n 2, 1), (7, .iload_n 2, 1), (8, .aload_n 0, 1), (9, .getfield 25, 3), (12, .if_icmp .gt 29, 3), (15, .iload_n 1, 1), (16, .iconst 0, 1), (17, .aload_n 0, 1), (18, .iload_n 2, 1), (19, .invokevirtual 37, 3), (22, .aload_n 0, 1), (23, .iload_n 2, 1), (24, .invokevirtual 41, 3), (27, .isub, 1), (28, .iconst 1, 1), (29, .iadd, 1), (30, .invokestatic 28, 3), (33, .iadd, 1), (34, .istore_n 1, 1), (35, .iinc 2 1, 3), (38, .goto (-31), 3), (41, .iload_n 1, 1), (42, .ireturn, 1)]
def mX1_howManyPixels : xM := (yX1_howManyPixels, cX1_howManyPixels, 3, some .int, DX1_howManyPixels, [7], FX1)
theorem kX1_howManyPixels : xOK mX1_howManyPixels := ⟨by decide +kernel, Or.inr (xmem_of (by decide +kernel)), by decide +kernel, xFok_of FX1_ok⟩
def DX2_init : List (Nat × Instr × Nat) := [(0, .aload_n 0, 1), (1, .invokespecial 3, 3), (4, .aload_n 0, 1), (5, .sipush 8192, 3), (8, .newarray .int, 2), (10, .putfield 9, 3), (13, .aload_n 0, 1), (14, .sipush 8192, 3), (17, .newarray .int, 2), (19, .putfield 15, 3), (22, .aload_n 0, 1), (23, .bipush 24, 2), (25, .newarray .int, 2), (27, .putfield 18, 3), (30, .aload_n 0, 1), (31, .iconst 5, 1), (32, .newarray .int, 2), (34, .dup, 1), (35, .iconst 0, 1), (36, .iconst 0, 1), (37, .iastore, 1), (38, .dup, 1), (39, .iconst 1, 1), (40, .bipush 100, 2), (42, .iastore, 1), (43, .dup, 1), (44, .iconst 2, 1), (45, .bipush 100, 2), (47, .iastore, 1), (48, .dup, 1), (49, .iconst 3, 1), (50, .bipush 100, 2), (52, .iastore, 1), (53, .dup, 1), (54, .iconst 4, 1), (55, .bipush 100, 2), (57, .iastore, 1), (58, .putfield 21, 3), (61, .aload_n 0, 1), (62, .iconst 0, 1), (63, .putfield 24, 3), (66, .aload_n 0, 1), (67, .iconst 0, 1), (68, .putfield 28, 3), (71, .aload_n 0, 1), (72, .new 31, 3), (75, .dup, 1), (76, .invokespecial 33, 3), (79, .putfield 34, 3), (82, .aload_n 0, 1), (83, .new 38, 3), (86, .dup, 1), (87, .invokespecial 40, 3), (90, .putfield 41, 3), (93, .return_, 1)]
def mX2_init : xM := (yX2_init, cX2_init, 1, none, DX2_init, [], FX2)
theorem kX2_init : xOK mX2_init := ⟨by decide +kernel, Or.inr (xmem_of (by decide +kernel)), by decide +kernel, xFok_of FX2_ok⟩
def DX2_cellOf : List (Nat × Instr × Nat) := [(0, .iload_n 0, 1), (1, .bipush (-32), 2), (3, .isub, 1), (4, .sipush 128, 3), (7, .imul, 1), (8, .iload_n 1, 1), (9, .iadd, 1), (10, .bipush (-64), 2), (12, .isub, 1), (13, .ireturn, 1)]
def mX2_cellOf : xM := (yX2_cellOf, cX2_cellOf, 2, some .int, DX2_cellOf, [], FX2)
theorem kX2_cellOf : xOK mX2_cellOf := ⟨by decide +kernel, Or.inr (xmem_of (by decide +kernel)), by decide +kernel, xFok_of FX2_ok⟩
def DX2_hasBox : List (Nat × Instr × Nat) := [(0, .iload_n 0, 1), (1, .ldc 45, 2), (3, .iand, 1), (4, .ifCond .eq 7, 3), (7, .iconst 1, 1), (8, .goto 4, 3), (11, .iconst 0, 1), (12, .ireturn, 1)]
def mX2_hasBox : xM := (yX2_hasBox, cX2_hasBox, 1, some .boolean, DX2_hasBox, [], FX2)
theorem kX2_hasBox : xOK mX2_hasBox := ⟨by decide +kernel, Or.inr (xmem_of (by decide +kernel)), by decide +kernel, xFok_of FX2_ok⟩
def DX2_boxOf : List (Nat × Instr × Nat) := [(0, .iload_n 0, 1), (1, .bipush 8, 2), (3, .ishr, 1), (4, .bipush 31, 2), (6, .iand, 1), (7, .ireturn, 1)]
def mX2_boxOf : xM := (yX2_boxOf, cX2_boxOf, 1, some .int, DX2_boxOf, [], FX2)
theorem kX2_boxOf : xOK mX2_boxOf := ⟨by decide +kernel, Or.inr (xmem_of (by decide +kernel)), by decide +kernel, xFok_of FX2_ok⟩
def DX2_faceOf : List (Nat × Instr × Nat) := [(0, .iload_n 0, 1), (1, .bipush 6, 2), (3, .ishr, 1), (4, .iconst 3, 1), (5, .iand, 1), (6, .ireturn, 1)]
def mX2_faceOf : xM := (yX2_faceOf, cX2_faceOf, 1, some .int, DX2_faceOf, [], FX2)
theorem kX2_faceOf : xOK mX2_faceOf := ⟨by decide +kernel, Or.inr (xmem_of (by decide +kernel)), by decide +kernel, xFok_of FX2_ok⟩
def DX2_paintOf : List (Nat × Instr × Nat) := [(0, .iload_n 0, 1), (1, .bipush 63, 2), (3, .iand, 1), (4, .ireturn, 1)]
def mX2_paintOf : xM := (yX2_paintOf, cX2_paintOf, 1, some .int, DX2_paintOf, [], FX2)
theorem kX2_paintOf : xOK mX2_paintOf := ⟨by decide +kernel, Or.inr (xmem_of (by decide +kernel)), by decide +kernel, xFok_of FX2_ok⟩
def DX2_laidOf : List (Nat × Instr × Nat) := [(0, .iload_n 0, 1), (1, .ldc 46, 2), (3, .idiv, 1), (4, .ireturn, 1)]
def mX2_laidOf : xM := (yX2_laidOf, cX2_laidOf, 1, some .int, DX2_laidOf, [], FX2)
theorem kX2_laidOf : xOK mX2_laidOf := ⟨by decide +kernel, Or.inr (xmem_of (by decide +kernel)), by decide +kernel, xFok_of FX2_ok⟩
def DX2_lookOf : List (Nat × Instr × Nat) := [(0, .iload_n 0, 1), (1, .bipush 8, 2), (3, .ishl, 1), (4, .iload_n 1, 1), (5, .bipush 6, 2), (7, .ishl, 1), (8, .ior, 1), (9, .iload_n 3, 1), (10, .iconst 4, 1), (11, .ishl, 1), (12, .ior, 1), (13, .iload_n 2, 1), (14, .ior, 1), (15, .ireturn, 1)]
def mX2_lookOf : xM := (yX2_lookOf, cX2_lookOf, 4, some .int, DX2_lookOf, [], FX2)
theorem kX2_lookOf : xOK mX2_lookOf := ⟨by decide +kernel, Or.inr (xmem_of (by decide +kernel)), by decide +kernel, xFok_of FX2_ok⟩
def DX2_show : List (Nat × Instr × Nat) := [(0, .aload_n 0, 1), (1, .getfield 9, 3), (4, .astore_n 3, 1), (5, .aload_n 0, 1), (6, .aload_n 0, 1), (7, .getfield 15, 3), (10, .putfield 9, 3), (13, .aload_n 0, 1), (14, .aload_n 3, 1), (15, .putfield 15, 3), (18, .aload_n 0, 1), (19, .getfield 9, 3), (22, .iconst 0, 1), (23, .invokestatic 47, 3), (26, .iconst 0, 1), (27, .istore 4, 2), (29, .iload 4, 2), (31, .aload_n 2, 1), (32, .getfield 53, 3), (35, .if_icmp .ge 22, 3), (38, .aload_n 0, 1), (39, .aload_n 1, 1), (40, .aload_n 2, 1), (41, .aload_n 2, 1), (42, .getfield 58, 3), (45, .iload 4, 2), (47, .iaload, 1), (48, .invokevirtual 61, 3), (51, .iinc 4 1, 3), (54, .goto (-25), 3), (57, .aload_n 0, 1), (58, .invokevirtual 65, 3), (61, .return_, 1)]
def mX2_show : xM := (yX2_show, cX2_show, 5, none, DX2_show, [29], FX2)
theorem kX2_show : xOK mX2_show := ⟨by decide +kernel, Or.inr (xmem_of (by decide +kernel)), by decide +kernel, xFok_of FX2_ok⟩
def DX2_lay : List (Nat × Instr × Nat) := [(0, .aload_n 0, 1), (1, .getfield 41, 3), (4, .aload_n 2, 1), (5, .getfield 68, 3), (8, .iload_n 3, 1), (9, .bipush 6, 2), (11, .imul, 1), (12, .invokevirtual 71, 3), (15, .aload_n 0, 1), (16, .getfield 41, 3), (19, .getfield 74, 3), (22, .istore 4, 2), (24, .iload 4, 2), (26, .aload_n 0, 1), (27, .getfield 41, 3), (30, .getfield 77, 3), (33, .if_icmp .gt 107, 3), (36, .aload_n 0, 1), (37, .getfield 41, 3), (40, .iload 4, 2), (42, .invokevirtual 80, 3), (45, .istore 5, 2), (47, .aload_n 0, 1), (48, .getfield 41, 3), (51, .iload 4, 2), (53, .invokevirtual 84, 3), (56, .istore 6, 2), (58, .iload 6, 2), (60, .iload 5, 2), (62, .if_icmp .gt 72, 3), (65, .aload_n 0, 1), (66, .getfield 34, 3), (69, .iload 4, 2), (71, .iload 6, 2), (73, .invokevirtual 87, 3), (76, .aload_n 0, 1), (77, .getfield 34, 3), (80, .aload_n 2, 1), (81, .getfield 68, 3), (84, .iload_n 3, 1), (85, .bipush 6, 2), (87, .imul, 1), (88, .invokevirtual 91, 3), (91, .aload_n 1, 1), (92, .aload_n 2, 1), (93, .getfield 94, 3), (96, .iload_n 3, 1), (97, .iaload, 1), (98, .aload_n 0, 1), (99, .getfield 34, 3), (102, .invokevirtual 97, 3), (105, .istore 7, 2), (107, .iload 7, 2), (109, .ifCond .eq 19, 3), (112, .aload_n 0, 1), (113, .aload_n 1, 1), (114, .aload_n 2, 1), (115, .iload_n 3, 1), (116, .iload 7, 2), (118, .iload 4, 2), (120, .iload 6, 2), (122, .invokestatic 103, 3), (125, .invokevirtual 107, 3), (128, .iinc 6 1, 3), (131, .goto (-73), 3), (134, .iinc 4 1, 3), (137, .goto (-113), 3), (140, .return_, 1)]
def mX2_lay : xM := (yX2_lay, cX2_lay, 8, none, DX2_lay, [24, 58], FX2)
theorem kX2_lay : xOK mX2_lay := ⟨by decide +kernel, Or.inr (xmem_of (by decide +kernel)), by decide +kernel, xFok_of FX2_ok⟩
def DX2_layInk : List (Nat × Instr × Nat) := [(0, .aload_n 2, 1), (1, .getfield 94, 3), (4, .iload_n 3, 1), (5, .iaload, 1), (6, .istore 6, 2), (8, .iconst 2, 1), (9, .aload_n 0, 1), (10, .getfield 34, 3), (13, .getfield 111, 3), (16, .imul, 1), (17, .iconst 1, 1), (18, .iadd, 1), (19, .istore 7, 2), (21, .aload_n 2, 1), (22, .getfield 68, 3), (25, .iload_n 3, 1), (26, .bipush 6, 2), (28, .imul, 1), (29, .iload 7, 2), (31, .iadd, 1), (32, .iaload, 1), (33, .aload_n 1, 1), (34, .getfield 114, 3), (37, .iload 6, 2), (39, .bipush 6, 2), (41, .imul, 1), (42, .iload 7, 2), (44, .iadd, 1), (45, .iaload, 1), (46, .if_icmp .ne 48, 3), (49, .iload 6, 2), (51, .aload_n 0, 1), (52, .getfield 34, 3), (55, .getfield 111, 3), (58, .aload_n 1, 1), (59, .getfield 115, 3), (62, .iload 6, 2), (64, .iconst 4, 1), (65, .imul, 1), (66, .iaload, 1), (67, .iload 4, 2), (69, .invokestatic 118, 3), (72, .istore 8, 2), (74, .aload_n 0, 1), (75, .getfield 9, 3), (78, .iload 5, 2), (80, .aload_n 0, 1), (81, .getfield 9, 3), (84, .iload 5, 2), (86, .iaload, 1), (87, .ldc 122, 2), (89, .iand, 1), (90, .iload 8, 2), (92, .iadd, 1), (93, .iastore, 1), (94, .aload_n 0, 1), (95, .getfield 9, 3), (98, .iload 5, 2), (100, .dup2, 1), (101, .iaload, 1), (102, .ldc 46, 2), (104, .iadd, 1), (105, .iastore, 1), (106, .return_, 1)]
def mX2_layInk : xM := (yX2_layInk, cX2_layInk, 9, none, DX2_layInk, [], FX2)
theorem kX2_layInk : xOK mX2_layInk := ⟨by decide +kernel, Or.inr (xmem_of (by decide +kernel)), by decide +kernel, xFok_of FX2_ok⟩
def DX2_countAll : List (Nat × Instr × Nat) := [(0, .aload_n 0, 1), (1, .getfield 18, 3), (4, .iconst 0, 1), (5, .invokestatic 47, 3), (8, .aload_n 0, 1), (9, .getfield 21, 3), (12, .bipush 100, 2), (14, .invokestatic 47, 3), (17, .aload_n 0, 1), (18, .getfield 21, 3), (21, .iconst 0, 1), (22, .iconst 0, 1), (23, .iastore, 1), (24, .aload_n 0, 1), (25, .iconst 0, 1), (26, .putfield 24, 3), (29, .aload_n 0, 1), (30, .iconst 0, 1), (31, .putfield 28, 3), (34, .iconst 0, 1), (35, .istore_n 1, 1), (36, .iload_n 1, 1), (37, .aload_n 0, 1), (38, .getfield 9, 3), (41, .arraylength, 1), (42, .if_icmp .ge 93, 3), (45, .aload_n 0, 1), (46, .getfield 9, 3), (49, .iload_n 1, 1), (50, .iaload, 1), (51, .istore_n 2, 1), (52, .aload_n 0, 1), (53, .dup, 1), (54, .getfield 28, 3), (57, .iload_n 2, 1), (58, .invokestatic 123, 3), (61, .iadd, 1), (62, .putfield 28, 3), (65, .iload_n 2, 1), (66, .invokestatic 126, 3), (69, .ifCond .eq 26, 3), (72, .aload_n 0, 1), (73, .getfield 18, 3), (76, .iload_n 2, 1), (77, .invokestatic 130, 3), (80, .dup2, 1), (81, .iaload, 1), (82, .iconst 1, 1), (83, .iadd, 1), (84, .iastore, 1), (85, .aload_n 0, 1), (86, .dup, 1), (87, .getfield 24, 3), (90, .iconst 1, 1), (91, .iadd, 1), (92, .putfield 24, 3), (95, .iload_n 2, 1), (96, .aload_n 0, 1), (97, .getfield 15, 3), (100, .iload_n 1, 1), (101, .iaload, 1), (102, .ixor, 1), (103, .ldc 45, 2), (105, .iand, 1), (106, .ifCond .eq 23, 3), (109, .aload_n 0, 1), (110, .iload_n 1, 1), (111, .sipush 128, 3), (114, .idiv, 1), (115, .bipush (-32), 2), (117, .iadd, 1), (118, .iload_n 1, 1), (119, .sipush 128, 3), (122, .irem, 1), (123, .bipush (-64), 2), (125, .iadd, 1), (126, .invokevirtual 133, 3), (129, .iinc 1 1, 3), (132, .goto (-96), 3), (135, .return_, 1)]
def mX2_countAll : xM := (yX2_countAll, cX2_countAll, 3, none, DX2_countAll, [36], FX2)
theorem kX2_countAll : xOK mX2_countAll := ⟨by decide +kernel, Or.inr (xmem_of (by decide +kernel)), by decide +kernel, xFok_of FX2_ok⟩
def DX2_addDifference : List (Nat × Instr × Nat) := [(0, .aload_n 0, 1), (1, .getfield 21, 3), (4, .iconst 0, 1), (5, .iaload, 1), (6, .ifCond .ne 7, 3), (9, .iconst 1, 1), (10, .goto 4, 3), (13, .iconst 0, 1), (14, .istore_n 3, 1), (15, .aload_n 0, 1), (16, .getfield 21, 3), (19, .iconst 0, 1), (20, .dup2, 1), (21, .iaload, 1), (22, .iconst 1, 1), (23, .iadd, 1), (24, .iastore, 1), (25, .aload_n 0, 1), (26, .getfield 21, 3), (29, .iconst 1, 1), (30, .iload_n 3, 1), (31, .ifCond .eq 7, 3), (34, .iload_n 1, 1), (35, .goto 13, 3), (38, .aload_n 0, 1), (39, .getfield 21, 3), (42, .iconst 1, 1), (43, .iaload, 1), (44, .iload_n 1, 1), (45, .invokestatic 136, 3), (48, .iastore, 1), (49, .aload_n 0, 1), (50, .getfield 21, 3), (53, .iconst 2, 1), (54, .iload_n 3, 1), (55, .ifCond .eq 7, 3), (58, .iload_n 1, 1), (59, .goto 13, 3), (62, .aload_n 0, 1), (63, .getfield 21, 3), (66, .iconst 2, 1), (67, .iaload, 1), (68, .iload_n 1, 1), (69, .invokestatic 141, 3), (72, .iastore, 1), (73, .aload_n 0, 1), (74, .getfield 21, 3), (77, .iconst 3, 1), (78, .iload_n 3, 1), (79, .ifCond .eq 7, 3), (82, .iload_n 2, 1), (83, .goto 13, 3), (86, .aload_n 0, 1), (87, .getfield 21, 3), (90, .iconst 3, 1), (91, .iaload, 1), (92, .iload_n 2, 1), (93, .invokestatic 136, 3), (96, .iastore, 1), (97, .aload_n 0, 1), (98, .getfield 21, 3), (101, .iconst 4, 1), (102, .iload_n 3, 1), (103, .ifCond .eq 7, 3), (106, .iload_n 2, 1), (107, .goto 13, 3), (110, .aload_n 0, 1), (111, .getfield 21, 3), (114, .iconst 4, 1), (115, .iaload, 1), (116, .iload_n 2, 1), (117, .invokestatic 141, 3), (120, .iastore, 1), (121, .return_, 1)]
def mX2_addDifference : xM := (yX2_addDifference, cX2_addDifference, 4, none, DX2_addDifference, [], FX2)
theorem kX2_addDifference : xOK mX2_addDifference := ⟨by decide +kernel, Or.inr (xmem_of (by decide +kernel)), by decide +kernel, xFok_of FX2_ok⟩
def DX3_init : List (Nat × Instr × Nat) := [(0, .aload_n 0, 1), (1, .invokespecial 3, 3), (4, .aload_n 0, 1), (5, .sipush 720, 3), (8, .newarray .int, 2), (10, .putfield 9, 3), (13, .aload_n 0, 1), (14, .bipush 120, 2), (16, .newarray .int, 2), (18, .putfield 15, 3), (21, .aload_n 0, 1), (22, .bipush 96, 2), (24, .newarray .int, 2), (26, .putfield 18, 3), (29, .aload_n 0, 1), (30, .iconst 0, 1), (31, .putfield 21, 3), (34, .aload_n 0, 1), (35, .iconst 0, 1), (36, .putfield 25, 3), (39, .aload_n 0, 1), (40, .bipush 24, 2), (42, .putfield 28, 3), (45, .aload_n 0, 1), (46, .new 31, 3), (49, .dup, 1), (50, .invokespecial 33, 3), (53, .putfield 34, 3), (56, .aload_n 0, 1), (57, .bipush 120, 2), (59, .anewarray 31, 3), (62, .putfield 38, 3), (65, .aload_n 0, 1), (66, .bipush 120, 2), (68, .anewarray 31, 3), (71, .putfield 42, 3), (74, .aload_n 0, 1), (75, .new 31, 3), (78, .dup, 1), (79, .invokespecial 33, 3), (82, .putfield 45, 3), (85, .aload_n 0, 1), (86, .new 31, 3), (89, .dup, 1), (90, .invokespecial 33, 3), (93, .putfield 48, 3), (96, .aload_n 0, 1), (97, .new 31, 3), (100, .dup, 1), (101, .invokespecial 33, 3), (104, .putfield 51, 3), (107, .iconst 0, 1), (108, .istore_n 1, 1), (109, .iload_n 1, 1), (110, .bipush 120, 2), (112, .if_icmp .ge 35, 3), (115, .aload_n 0, 1), (116, .getfield 38, 3), (119, .iload_n 1, 1), (120, .new 31, 3), (123, .dup, 1), (124, .invokespecial 33, 3), (127, .aastore, 1), (128, .aload_n 0, 1), (129, .getfield 42, 3), (132, .iload_n 1, 1), (133, .new 31, 3), (136, .dup, 1), (137, .invokespecial 33, 3), (140, .aastore, 1), (141, .iinc 1 1, 3), (144, .goto (-35), 3), (147, .return_, 1)]
def mX3_init : xM := (yX3_init, cX3_init, 2, none, DX3_init, [109], FX3)
theorem kX3_init : xOK mX3_init := ⟨by decide +kernel, Or.inr (xmem_of (by decide +kernel)), by decide +kernel, xFok_of FX3_ok⟩
def DX3_load : List (Nat × Instr × Nat) := [(0, .aload_n 1, 1), (1, .getfield 54, 3), (4, .iconst 0, 1), (5, .aload_n 0, 1), (6, .getfield 9, 3), (9, .iconst 0, 1), (10, .aload_n 1, 1), (11, .getfield 54, 3), (14, .arraylength, 1), (15, .invokestatic 57, 3), (18, .aload_n 0, 1), (19, .getfield 34, 3), (22, .invokevirtual 63, 3), (25, .aload_n 0, 1), (26, .iconst 0, 1), (27, .putfield 21, 3), (30, .aload_n 0, 1), (31, .iconst 0, 1), (32, .putfield 25, 3), (35, .aload_n 0, 1), (36, .bipush 24, 2), (38, .putfield 28, 3), (41, .iconst 0, 1), (42, .istore_n 2, 1), (43, .iload_n 2, 1), (44, .bipush 24, 2), (46, .if_icmp .ge 39, 3), (49, .aload_n 1, 1), (50, .iload_n 2, 1), (51, .invokevirtual 66, 3), (54, .ifCond .eq 25, 3), (57, .aload_n 0, 1), (58, .getfield 15, 3), (61, .iload_n 2, 1), (62, .iload_n 2, 1), (63, .iastore, 1), (64, .aload_n 0, 1), (65, .iload_n 2, 1), (66, .invokevirtual 70, 3), (69, .aload_n 0, 1), (70, .dup, 1), (71, .getfield 25, 3), (74, .iconst 1, 1), (75, .iadd, 1), (76, .putfield 25, 3), (79, .iinc 2 1, 3), (82, .goto (-39), 3), (85, .return_, 1)]
def mX3_load : xM := (yX3_load, cX3_load, 3, none, DX3_load, [43], FX3)
theorem kX3_load : xOK mX3_load := ⟨by decide +kernel, Or.inr (xmem_of (by decide +kernel)), by decide +kernel, xFok_of FX3_ok⟩
def DX3_bringIn : List (Nat × Instr × Nat) := [(0, .aload_n 0, 1), (1, .getfield 34, 3), (4, .iload_n 1, 1), (5, .invokevirtual 74, 3), (8, .aload_n 0, 1), (9, .getfield 38, 3), (12, .iload_n 1, 1), (13, .aaload, 1), (14, .invokevirtual 63, 3), (17, .aload_n 0, 1), (18, .getfield 42, 3), (21, .iload_n 1, 1), (22, .aaload, 1), (23, .invokevirtual 63, 3), (26, .iconst 0, 1), (27, .istore_n 2, 1), (28, .iload_n 2, 1), (29, .aload_n 0, 1), (30, .getfield 28, 3), (33, .if_icmp .ge 60, 3), (36, .iload_n 2, 1), (37, .iload_n 1, 1), (38, .if_icmp .eq 49, 3), (41, .aload_n 0, 1), (42, .getfield 34, 3), (45, .iload_n 2, 1), (46, .invokevirtual 77, 3), (49, .ifCond .eq 38, 3), (52, .aload_n 0, 1), (53, .getfield 38, 3), (56, .iload_n 2, 1), (57, .aaload, 1), (58, .iload_n 1, 1), (59, .invokevirtual 78, 3), (62, .aload_n 0, 1), (63, .getfield 42, 3), (66, .iload_n 2, 1), (67, .aaload, 1), (68, .iload_n 1, 1), (69, .invokevirtual 78, 3), (72, .aload_n 0, 1), (73, .iload_n 1, 1), (74, .iload_n 2, 1), (75, .invokevirtual 81, 3), (78, .ifCond .eq 9, 3), (81, .aload_n 0, 1), (82, .iload_n 1, 1), (83, .iload_n 2, 1), (84, .invokevirtual 85, 3), (87, .iinc 2 1, 3), (90, .goto (-62), 3), (93, .return_, 1)]
def mX3_bringIn : xM := (yX3_bringIn, cX3_bringIn, 3, none, DX3_bringIn, [28], FX3)
theorem kX3_bringIn : xOK mX3_bringIn := ⟨by decide +kernel, Or.inr (xmem_of (by decide +kernel)), by decide +kernel, xFok_of FX3_ok⟩
def DX3_relate : List (Nat × Instr × Nat) := [(0, .aload_n 0, 1), (1, .getfield 9, 3), (4, .iload_n 1, 1), (5, .iload_n 2, 1), (6, .invokestatic 89, 3), (9, .istore_n 3, 1), (10, .iload_n 3, 1), (11, .ifCond .eq 7, 3), (14, .iload_n 1, 1), (15, .goto 4, 3), (18, .iload_n 2, 1), (19, .istore 4, 2), (21, .iload_n 3, 1), (22, .ifCond .eq 7, 3), (25, .iload_n 2, 1), (26, .goto 4, 3), (29, .iload_n 1, 1), (30, .istore 5, 2), (32, .aload_n 0, 1), (33, .getfield 38, 3), (36, .iload 4, 2), (38, .aaload, 1), (39, .iload 5, 2), (41, .invokevirtual 74, 3), (44, .aload_n 0, 1), (45, .getfield 42, 3), (48, .iload 5, 2), (50, .aaload, 1), (51, .iload 4, 2), (53, .invokevirtual 74, 3), (56, .return_, 1)]
def mX3_relate : xM := (yX3_relate, cX3_relate, 6, none, DX3_relate, [], FX3)
theorem kX3_relate : xOK mX3_relate := ⟨by decide +kernel, Or.inr (xmem_of (by decide +kernel)), by decide +kernel, xFok_of FX3_ok⟩
def DX3_haveCommonPixel : List (Nat × Instr × Nat) := [(0, .aload_n 0, 1), (1, .iconst 0, 1), (2, .iconst 2, 1), (3, .iload_n 1, 1), (4, .iload_n 2, 1), (5, .invokevirtual 93, 3), (8, .ifCond .eq 29, 3), (11, .aload_n 0, 1), (12, .iconst 0, 1), (13, .iconst 4, 1), (14, .iload_n 1, 1), (15, .iload_n 2, 1), (16, .invokevirtual 93, 3), (19, .ifCond .eq 18, 3), (22, .aload_n 0, 1), (23, .iconst 2, 1), (24, .iconst 4, 1), (25, .iload_n 1, 1), (26, .iload_n 2, 1), (27, .invokevirtual 93, 3), (30, .ifCond .eq 7, 3), (33, .iconst 1, 1), (34, .goto 4, 3), (37, .iconst 0, 1), (38, .ireturn, 1)]
def mX3_haveCommonPixel : xM := (yX3_haveCommonPixel, cX3_haveCommonPixel, 3, some .boolean, DX3_haveCommonPixel, [], FX3)
theorem kX3_haveCommonPixel : xOK mX3_haveCommonPixel := ⟨by decide +kernel, Or.inr (xmem_of (by decide +kernel)), by decide +kernel, xFok_of FX3_ok⟩
def DX3_overlapBetween : List (Nat × Instr × Nat) := [(0, .iload_n 3, 1), (1, .bipush 6, 2), (3, .imul, 1), (4, .istore 5, 2), (6, .iload 4, 2), (8, .bipush 6, 2), (10, .imul, 1), (11, .istore 6, 2), (13, .aload_n 0, 1), (14, .getfield 9, 3), (17, .iload 5, 2), (19, .iload_n 1, 1), (20, .iadd, 1), (21, .iaload, 1), (22, .aload_n 0, 1), (23, .getfield 9, 3), (26, .iload 5, 2), (28, .iload_n 2, 1), (29, .iadd, 1), (30, .iconst 1, 1), (31, .iadd, 1), (32, .iaload, 1), (33, .isub, 1), (34, .istore 7, 2), (36, .aload_n 0, 1), (37, .getfield 9, 3), (40, .iload 5, 2), (42, .iload_n 1, 1), (43, .iadd, 1), (44, .iconst 1, 1), (45, .iadd, 1), (46, .iaload, 1), (47, .aload_n 0, 1), (48, .getfield 9, 3), (51, .iload 5, 2), (53, .iload_n 2, 1), (54, .iadd, 1), (55, .iaload, 1), (56, .isub, 1), (57, .istore 8, 2), (59, .aload_n 0, 1), (60, .getfield 9, 3), (63, .iload 6, 2), (65, .iload_n 1, 1), (66, .iadd, 1), (67, .iaload, 1), (68, .aload_n 0, 1), (69, .getfield 9, 3), (72, .iload 6, 2), (74, .iload_n 2, 1), (75, .iadd, 1), (76, .iconst 1, 1), (77, .iadd, 1), (78, .iaload, 1), (79, .isub, 1), (80, .istore 9, 2), (82, .aload_n 0, 1), (83, .getfield 9, 3), (86, .iload 6, 2), (88, .iload_n 1, 1), (89, .iadd, 1), (90, .iconst 1, 1), (91, .iadd, 1), (92, .iaload, 1), (93, .aload_n 0, 1), (94, .getfield 9, 3), (97, .iload 6, 2), (99, .iload_n 2, 1), (100, .iadd, 1), (101, .iaload, 1), (102, .isub, 1), (103, .istore 10, 2), (105, .iload 7, 2), (107, .iload 10, 2), (109, .if_icmp .ge 14, 3), (112, .iload 9, 2), (114, .iload 8, 2), (116, .if_icmp .ge 7, 3), (119, .iconst 1, 1), (120, .goto 4, 3), (123, .iconst 0, 1), (124, .ireturn, 1)]
def mX3_overlapBetween : xM := (yX3_overlapBetween, cX3_overlapBetween, 11, some .boolean, DX3_overlapBetween, [], FX3)
theorem kX3_overlapBetween : xOK mX3_overlapBetween := ⟨by decide +kernel, Or.inr (xmem_of (by decide +kernel)), by decide +kernel, xFok_of FX3_ok⟩
def DX3_putInOrder : List (Nat × Instr × Nat) := [(0, .iconst 0, 1), (1, .istore_n 1, 1), (2, .iload_n 1, 1), (3, .sipush 192, 3), (6, .if_icmp .ge 69, 3), (9, .aload_n 0, 1), (10, .getfield 34, 3), (13, .invokevirtual 97, 3), (16, .ifCond .ne 59, 3), (19, .aload_n 0, 1), (20, .invokevirtual 101, 3), (23, .istore_n 2, 1), (24, .iload_n 2, 1), (25, .iconst (-1), 1), (26, .if_icmp .eq 34, 3), (29, .aload_n 0, 1), (30, .getfield 18, 3), (33, .aload_n 0, 1), (34, .getfield 21, 3), (37, .iload_n 2, 1), (38, .iastore, 1), (39, .aload_n 0, 1), (40, .dup, 1), (41, .getfield 21, 3), (44, .iconst 1, 1), (45, .iadd, 1), (46, .putfield 21, 3), (49, .aload_n 0, 1), (50, .getfield 34, 3), (53, .iload_n 2, 1), (54, .invokevirtual 78, 3), (57, .goto 12, 3), (60, .aload_n 0, 1), (61, .invokevirtual 105, 3), (64, .ifCond .ne 5, 3), (67, .iconst 0, 1), (68, .ireturn, 1), (69, .iinc 1 1, 3), (72, .goto (-70), 3), (75, .aload_n 0, 1), (76, .getfield 34, 3), (79, .invokevirtual 97, 3), (82, .ireturn, 1)]
def mX3_putInOrder : xM := (yX3_putInOrder, cX3_putInOrder, 3, some .boolean, DX3_putInOrder, [2], FX3)
theorem kX3_putInOrder : xOK mX3_putInOrder := ⟨by decide +kernel, Or.inr (xmem_of (by decide +kernel)), by decide +kernel, xFok_of FX3_ok⟩
def DX3_lowestFree : List (Nat × Instr × Nat) := [(0, .iconst 0, 1), (1, .istore_n 1, 1), (2, .iload_n 1, 1), (3, .aload_n 0, 1), (4, .getfield 28, 3), (7, .if_icmp .ge 38, 3), (10, .aload_n 0, 1), (11, .getfield 34, 3), (14, .iload_n 1, 1), (15, .invokevirtual 77, 3), (18, .ifCond .eq 21, 3), (21, .aload_n 0, 1), (22, .getfield 38, 3), (25, .iload_n 1, 1), (26, .aaload, 1), (27, .aload_n 0, 1), (28, .getfield 34, 3), (31, .invokevirtual 108, 3), (34, .ifCond .ne 5, 3), (37, .iload_n 1, 1), (38, .ireturn, 1), (39, .iinc 1 1, 3), (42, .goto (-40), 3), (45, .iconst (-1), 1), (46, .ireturn, 1)]
def mX3_lowestFree : xM := (yX3_lowestFree, cX3_lowestFree, 2, some .int, DX3_lowestFree, [2], FX3)
theorem kX3_lowestFree : xOK mX3_lowestFree := ⟨by decide +kernel, Or.inr (xmem_of (by decide +kernel)), by decide +kernel, xFok_of FX3_ok⟩
def DX3_cutOne : List (Nat × Instr × Nat) := [(0, .aload_n 0, 1), (1, .getfield 25, 3), (4, .bipush 96, 2), (6, .if_icmp .lt 5, 3), (9, .iconst 0, 1), (10, .ireturn, 1), (11, .iconst 0, 1), (12, .istore_n 1, 1), (13, .iload_n 1, 1), (14, .aload_n 0, 1), (15, .getfield 28, 3), (18, .if_icmp .ge 59, 3), (21, .aload_n 0, 1), (22, .getfield 34, 3), (25, .iload_n 1, 1), (26, .invokevirtual 77, 3), (29, .ifCond .eq 42, 3), (32, .aload_n 0, 1), (33, .iload_n 1, 1), (34, .invokevirtual 112, 3), (37, .iconst 0, 1), (38, .istore_n 2, 1), (39, .iload_n 2, 1), (40, .iconst 3, 1), (41, .if_icmp .ge 30, 3), (44, .aload_n 0, 1), (45, .iload_n 1, 1), (46, .iload_n 2, 1), (47, .invokevirtual 115, 3), (50, .istore_n 3, 1), (51, .iload_n 3, 1), (52, .iconst (-1), 1), (53, .if_icmp .eq 12, 3), (56, .aload_n 0, 1), (57, .iload_n 1, 1), (58, .iload_n 2, 1), (59, .iload_n 3, 1), (60, .invokevirtual 119, 3), (63, .iconst 1, 1), (64, .ireturn, 1), (65, .iinc 2 1, 3), (68, .goto (-29), 3), (71, .iinc 1 1, 3), (74, .goto (-61), 3), (77, .iconst 0, 1), (78, .ireturn, 1)]
def mX3_cutOne : xM := (yX3_cutOne, cX3_cutOne, 4, some .boolean, DX3_cutOne, [13, 39], FX3)
theorem kX3_cutOne : xOK mX3_cutOne := ⟨by decide +kernel, Or.inr (xmem_of (by decide +kernel)), by decide +kernel, xFok_of FX3_ok⟩
def DX3_findTangle : List (Nat × Instr × Nat) := [(0, .aload_n 0, 1), (1, .aload_n 0, 1), (2, .getfield 38, 3), (5, .iload_n 1, 1), (6, .aload_n 0, 1), (7, .getfield 45, 3), (10, .invokevirtual 123, 3), (13, .aload_n 0, 1), (14, .aload_n 0, 1), (15, .getfield 42, 3), (18, .iload_n 1, 1), (19, .aload_n 0, 1), (20, .getfield 48, 3), (23, .invokevirtual 123, 3), (26, .aload_n 0, 1), (27, .getfield 45, 3), (30, .aload_n 0, 1), (31, .getfield 48, 3), (34, .invokevirtual 127, 3), (37, .return_, 1)]
def mX3_findTangle : xM := (yX3_findTangle, cX3_findTangle, 2, none, DX3_findTangle, [], FX3)
theorem kX3_findTangle : xOK mX3_findTangle := ⟨by decide +kernel, Or.inr (xmem_of (by decide +kernel)), by decide +kernel, xFok_of FX3_ok⟩
def DX3_follow : List (Nat × Instr × Nat) := [(0, .aload_n 3, 1), (1, .invokevirtual 63, 3), (4, .aload_n 0, 1), (5, .getfield 51, 3), (8, .aload_n 1, 1), (9, .iload_n 2, 1), (10, .aaload, 1), (11, .invokevirtual 131, 3), (14, .aload_n 0, 1), (15, .getfield 51, 3), (18, .aload_n 0, 1), (19, .getfield 34, 3), (22, .invokevirtual 127, 3), (25, .iconst 0, 1), (26, .istore 4, 2), (28, .iload 4, 2), (30, .bipush 120, 2), (32, .if_icmp .ge 64, 3), (35, .aload_n 0, 1), (36, .getfield 51, 3), (39, .invokevirtual 97, 3), (42, .ifCond .ne 54, 3), (45, .aload_n 0, 1), (46, .getfield 51, 3), (49, .invokevirtual 134, 3), (52, .istore 5, 2), (54, .aload_n 3, 1), (55, .iload 5, 2), (57, .invokevirtual 74, 3), (60, .aload_n 0, 1), (61, .getfield 51, 3), (64, .aload_n 1, 1), (65, .iload 5, 2), (67, .aaload, 1), (68, .invokevirtual 137, 3), (71, .aload_n 0, 1), (72, .getfield 51, 3), (75, .aload_n 0, 1), (76, .getfield 34, 3), (79, .invokevirtual 127, 3), (82, .aload_n 0, 1), (83, .getfield 51, 3), (86, .aload_n 3, 1), (87, .invokevirtual 140, 3), (90, .iinc 4 1, 3), (93, .goto (-65), 3), (96, .return_, 1)]
def mX3_follow : xM := (yX3_follow, cX3_follow, 6, none, DX3_follow, [28], FX3)
theorem kX3_follow : xOK mX3_follow := ⟨by decide +kernel, Or.inr (xmem_of (by decide +kernel)), by decide +kernel, xFok_of FX3_ok⟩
def DX3_lowestPlane : List (Nat × Instr × Nat) := [(0, .aload_n 0, 1), (1, .getfield 9, 3), (4, .iload_n 1, 1), (5, .bipush 6, 2), (7, .imul, 1), (8, .iconst 2, 1), (9, .iload_n 2, 1), (10, .imul, 1), (11, .iadd, 1), (12, .iaload, 1), (13, .istore_n 3, 1), (14, .aload_n 0, 1), (15, .getfield 9, 3), (18, .iload_n 1, 1), (19, .bipush 6, 2), (21, .imul, 1), (22, .iconst 2, 1), (23, .iload_n 2, 1), (24, .imul, 1), (25, .iadd, 1), (26, .iconst 1, 1), (27, .iadd, 1), (28, .iaload, 1), (29, .istore 4, 2), (31, .iload 4, 2), (33, .istore 5, 2), (35, .iconst 0, 1), (36, .istore 6, 2), (38, .iload 6, 2), (40, .aload_n 0, 1), (41, .getfield 28, 3), (44, .if_icmp .ge 95, 3), (47, .aload_n 0, 1), (48, .getfield 45, 3), (51, .iload 6, 2), (53, .invokevirtual 77, 3), (56, .ifCond .eq 77, 3), (59, .aload_n 0, 1), (60, .getfield 9, 3), (63, .iload 6, 2), (65, .bipush 6, 2), (67, .imul, 1), (68, .iconst 2, 1), (69, .iload_n 2, 1), (70, .imul, 1), (71, .iadd, 1), (72, .iaload, 1), (73, .istore 7, 2), (75, .aload_n 0, 1), (76, .getfield 9, 3), (79, .iload 6, 2), (81, .bipush 6, 2), (83, .imul, 1), (84, .iconst 2, 1), (85, .iload_n 2, 1), (86, .imul, 1), (87, .iadd, 1), (88, .iconst 1, 1), (89, .iadd, 1), (90, .iaload, 1), (91, .istore 8, 2), (93, .iload 7, 2), (95, .iload_n 3, 1), (96, .if_icmp .le 13, 3), (99, .iload 5, 2), (101, .iload 7, 2), (103, .invokestatic 143, 3), (106, .goto 5, 3), (109, .iload 5, 2), (111, .istore 5, 2), (113, .iload 8, 2), (115, .iload_n 3, 1), (116, .if_icmp .le 13, 3), (119, .iload 5, 2), (121, .iload 8, 2), (123, .invokestatic 143, 3), (126, .goto 5, 3), (129, .iload 5, 2), (131, .istore 5, 2), (133, .iinc 6 1, 3), (136, .goto (-98), 3), (139, .iload 5, 2), (141, .iload 4, 2), (143, .if_icmp .ge 8, 3), (146, .iload 5, 2), (148, .goto 4, 3), (151, .iconst (-1), 1), (152, .ireturn, 1)]
def mX3_lowestPlane : xM := (yX3_lowestPlane, cX3_lowestPlane, 9, some .int, DX3_lowestPlane, [38], FX3)
theorem kX3_lowestPlane : xOK mX3_lowestPlane := ⟨by decide +kernel, Or.inr (xmem_of (by decide +kernel)), by decide +kernel, xFok_of FX3_ok⟩
def DX3_cut : List (Nat × Instr × Nat) := [(0, .aload_n 0, 1), (1, .getfield 28, 3), (4, .istore 4, 2), (6, .aload_n 0, 1), (7, .dup, 1), (8, .getfield 28, 3), (11, .iconst 1, 1), (12, .iadd, 1), (13, .putfield 28, 3), (16, .aload_n 0, 1), (17, .getfield 9, 3), (20, .iload_n 1, 1), (21, .bipush 6, 2), (23, .imul, 1), (24, .aload_n 0, 1), (25, .getfield 9, 3), (28, .iload 4, 2), (30, .bipush 6, 2), (32, .imul, 1), (33, .bipush 6, 2), (35, .invokestatic 57, 3), (38, .aload_n 0, 1), (39, .getfield 15, 3), (42, .iload 4, 2), (44, .aload_n 0, 1), (45, .getfield 15, 3), (48, .iload_n 1, 1), (49, .iaload, 1), (50, .iastore, 1), (51, .aload_n 0, 1), (52, .getfield 9, 3), (55, .iload_n 1, 1), (56, .bipush 6, 2), (58, .imul, 1), (59, .iconst 2, 1), (60, .iload_n 2, 1), (61, .imul, 1), (62, .iadd, 1), (63, .iconst 1, 1), (64, .iadd, 1), (65, .iload_n 3, 1), (66, .iastore, 1), (67, .aload_n 0, 1), (68, .getfield 9, 3), (71, .iload 4, 2), (73, .bipush 6, 2), (75, .imul, 1), (76, .iconst 2, 1), (77, .iload_n 2, 1), (78, .imul, 1), (79, .iadd, 1), (80, .iload_n 3, 1), (81, .iastore, 1), (82, .aload_n 0, 1), (83, .iload_n 1, 1), (84, .invokevirtual 70, 3), (87, .aload_n 0, 1), (88, .iload 4, 2), (90, .invokevirtual 70, 3), (93, .aload_n 0, 1), (94, .dup, 1), (95, .getfield 25, 3), (98, .iconst 1, 1), (99, .iadd, 1), (100, .putfield 25, 3), (103, .return_, 1)]
def mX3_cut : xM := (yX3_cut, cX3_cut, 5, none, DX3_cut, [], FX3)
theorem kX3_cut : xOK mX3_cut := ⟨by decide +kernel, Or.inr (xmem_of (by decide +kernel)), by decide +kernel, xFok_of FX3_ok⟩
def DX3_cuts : List (Nat × Instr × Nat) := [(0, .aload_n 0, 1), (1, .getfield 28, 3), (4, .bipush 24, 2), (6, .isub, 1), (7, .ireturn, 1)]
def mX3_cuts : xM := (yX3_cuts, cX3_cuts, 1, some .int, DX3_cuts, [], FX3)
theorem kX3_cuts : xOK mX3_cuts := ⟨by decide +kernel, Or.inr (xmem_of (by decide +kernel)), by decide +kernel, xFok_of FX3_ok⟩
def DX3_boxesCut : List (Nat × Instr × Nat) := [(0, .iconst 0, 1), (1, .istore_n 1, 1), (2, .bipush 24, 2), (4, .istore_n 2, 1), (5, .iload_n 2, 1), (6, .aload_n 0, 1), (7, .getfield 28, 3), (10, .if_icmp .ge 20, 3), (13, .iload_n 1, 1), (14, .iconst 1, 1), (15, .aload_n 0, 1), (16, .getfield 15, 3), (19, .iload_n 2, 1), (20, .iaload, 1), (21, .ishl, 1), (22, .ior, 1), (23, .istore_n 1, 1), (24, .iinc 2 1, 3), (27, .goto (-22), 3), (30, .iload_n 1, 1), (31, .invokestatic 148, 3), (34, .ireturn, 1)]
def mX3_boxesCut : xM := (yX3_boxesCut, cX3_boxesCut, 3, some .int, DX3_boxesCut, [5], FX3)
theorem kX3_boxesCut : xOK mX3_boxesCut := ⟨by decide +kernel, Or.inr (xmem_of (by decide +kernel)), by decide +kernel, xFok_of FX3_ok⟩
def DX4_init : List (Nat × Instr × Nat) := [(0, .aload_n 0, 1), (1, .invokespecial 1, 3), (4, .return_, 1)]
def mX4_init : xM := (yX4_init, cX4_init, 1, none, DX4_init, [], FX4)
theorem kX4_init : xOK mX4_init := ⟨by decide +kernel, Or.inr (xmem_of (by decide +kernel)), by decide +kernel, xFok_of FX4_ok⟩
def DX4_aim : List (Nat × Instr × Nat) := [(0, .aload_n 0, 1), (1, .iconst 2, 1), (2, .iload_n 2, 1), (3, .imul, 1), (4, .iconst 2, 1), (5, .iload_n 1, 1), (6, .imul, 1), (7, .iadd, 1), (8, .iconst 1, 1), (9, .iadd, 1), (10, .putfield 7, 3), (13, .aload_n 0, 1), (14, .iconst 2, 1), (15, .iload_n 2, 1), (16, .imul, 1), (17, .iconst 2, 1), (18, .iload_n 1, 1), (19, .imul, 1), (20, .isub, 1), (21, .iconst 1, 1), (22, .isub, 1), (23, .putfield 13, 3), (26, .return_, 1)]
def mX4_aim : xM := (yX4_aim, cX4_aim, 3, none, DX4_aim, [], FX4)
theorem kX4_aim : xOK mX4_aim := ⟨by decide +kernel, Or.inr (xmem_of (by decide +kernel)), by decide +kernel, xFok_of FX4_ok⟩
def DX4_hits : List (Nat × Instr × Nat) := [(0, .iconst 4, 1), (1, .aload_n 1, 1), (2, .iload_n 2, 1), (3, .iaload, 1), (4, .imul, 1), (5, .aload_n 0, 1), (6, .getfield 7, 3), (9, .isub, 1), (10, .iconst 4, 1), (11, .aload_n 1, 1), (12, .iload_n 2, 1), (13, .iconst 2, 1), (14, .iadd, 1), (15, .iaload, 1), (16, .imul, 1), (17, .aload_n 0, 1), (18, .getfield 13, 3), (21, .isub, 1), (22, .iconst 4, 1), (23, .aload_n 1, 1), (24, .iload_n 2, 1), (25, .iconst 4, 1), (26, .iadd, 1), (27, .iaload, 1), (28, .imul, 1), (29, .invokestatic 16, 3), (32, .invokestatic 16, 3), (35, .istore_n 3, 1), (36, .iconst 4, 1), (37, .aload_n 1, 1), (38, .iload_n 2, 1), (39, .iconst 1, 1), (40, .iadd, 1), (41, .iaload, 1), (42, .imul, 1), (43, .aload_n 0, 1), (44, .getfield 7, 3), (47, .isub, 1), (48, .iconst 4, 1), (49, .aload_n 1, 1), (50, .iload_n 2, 1), (51, .iconst 3, 1), (52, .iadd, 1), (53, .iaload, 1), (54, .imul, 1), (55, .aload_n 0, 1), (56, .getfield 13, 3), (59, .isub, 1), (60, .iconst 4, 1), (61, .aload_n 1, 1), (62, .iload_n 2, 1), (63, .iconst 5, 1), (64, .iadd, 1), (65, .iaload, 1), (66, .imul, 1), (67, .invokestatic 22, 3), (70, .invokestatic 22, 3), (73, .istore 4, 2), (75, .iload_n 3, 1), (76, .iload 4, 2), (78, .if_icmp .ge 7, 3), (81, .iconst 1, 1), (82, .goto 4, 3), (85, .iconst 0, 1), (86, .ireturn, 1)]
def mX4_hits : xM := (yX4_hits, cX4_hits, 5, some .boolean, DX4_hits, [], FX4)
theorem kX4_hits : xOK mX4_hits := ⟨by decide +kernel, Or.inr (xmem_of (by decide +kernel)), by decide +kernel, xFok_of FX4_ok⟩
def DX4_leave : List (Nat × Instr × Nat) := [(0, .iconst 4, 1), (1, .aload_n 1, 1), (2, .iload_n 2, 1), (3, .iconst 1, 1), (4, .iadd, 1), (5, .iaload, 1), (6, .imul, 1), (7, .aload_n 0, 1), (8, .getfield 7, 3), (11, .isub, 1), (12, .istore_n 3, 1), (13, .iconst 4, 1), (14, .aload_n 1, 1), (15, .iload_n 2, 1), (16, .iconst 3, 1), (17, .iadd, 1), (18, .iaload, 1), (19, .imul, 1), (20, .aload_n 0, 1), (21, .getfield 13, 3), (24, .isub, 1), (25, .istore 4, 2), (27, .aload_n 0, 1), (28, .iconst 2, 1), (29, .putfield 25, 3), (32, .aload_n 0, 1), (33, .iconst 4, 1), (34, .aload_n 1, 1), (35, .iload_n 2, 1), (36, .iconst 5, 1), (37, .iadd, 1), (38, .iaload, 1), (39, .imul, 1), (40, .putfield 28, 3), (43, .iload_n 3, 1), (44, .aload_n 0, 1), (45, .getfield 28, 3), (48, .if_icmp .ge 13, 3), (51, .aload_n 0, 1), (52, .iconst 0, 1), (53, .putfield 25, 3), (56, .aload_n 0, 1), (57, .iload_n 3, 1), (58, .putfield 28, 3), (61, .iload 4, 2), (63, .aload_n 0, 1), (64, .getfield 28, 3), (67, .if_icmp .ge 14, 3), (70, .aload_n 0, 1), (71, .iconst 1, 1), (72, .putfield 25, 3), (75, .aload_n 0, 1), (76, .iload 4, 2), (78, .putfield 28, 3), (81, .return_, 1)]
def mX4_leave : xM := (yX4_leave, cX4_leave, 5, none, DX4_leave, [], FX4)
theorem kX4_leave : xOK mX4_leave := ⟨by decide +kernel, Or.inr (xmem_of (by decide +kernel)), by decide +kernel, xFok_of FX4_ok⟩
def DX4_spotRow : List (Nat × Instr × Nat) := [(0, .aload_n 0, 1), (1, .getfield 25, 3), (4, .iconst 2, 1), (5, .if_icmp .ne 15, 3), (8, .aload_n 0, 1), (9, .getfield 28, 3), (12, .aload_n 0, 1), (13, .getfield 13, 3), (16, .iadd, 1), (17, .goto 7, 3), (20, .aload_n 0, 1), (21, .getfield 28, 3), (24, .invokestatic 31, 3), (27, .ireturn, 1)]
def mX4_spotRow : xM := (yX4_spotRow, cX4_spotRow, 1, some .int, DX4_spotRow, [], FX4)
theorem kX4_spotRow : xOK mX4_spotRow := ⟨by decide +kernel, Or.inr (xmem_of (by decide +kernel)), by decide +kernel, xFok_of FX4_ok⟩
def DX4_spotPlace : List (Nat × Instr × Nat) := [(0, .aload_n 0, 1), (1, .getfield 25, 3), (4, .ifCond .ne 15, 3), (7, .aload_n 0, 1), (8, .getfield 28, 3), (11, .aload_n 0, 1), (12, .getfield 13, 3), (15, .iadd, 1), (16, .goto 12, 3), (19, .aload_n 0, 1), (20, .getfield 28, 3), (23, .aload_n 0, 1), (24, .getfield 7, 3), (27, .iadd, 1), (28, .invokestatic 31, 3), (31, .ireturn, 1)]
def mX4_spotPlace : xM := (yX4_spotPlace, cX4_spotPlace, 1, some .int, DX4_spotPlace, [], FX4)
theorem kX4_spotPlace : xOK mX4_spotPlace := ⟨by decide +kernel, Or.inr (xmem_of (by decide +kernel)), by decide +kernel, xFok_of FX4_ok⟩
def DX4_wholeInSprite : List (Nat × Instr × Nat) := [(0, .iload_n 0, 1), (1, .iconst 2, 1), (2, .ishr, 1), (3, .bipush 7, 2), (5, .iand, 1), (6, .ireturn, 1)]
def mX4_wholeInSprite : xM := (yX4_wholeInSprite, cX4_wholeInSprite, 1, some .int, DX4_wholeInSprite, [], FX4)
theorem kX4_wholeInSprite : xOK mX4_wholeInSprite := ⟨by decide +kernel, Or.inr (xmem_of (by decide +kernel)), by decide +kernel, xFok_of FX4_ok⟩
def DX5_init : List (Nat × Instr × Nat) := [(0, .aload_n 0, 1), (1, .invokespecial 3, 3), (4, .aload_n 0, 1), (5, .iconst 0, 1), (6, .putfield 9, 3), (9, .aload_n 0, 1), (10, .sipush 144, 3), (13, .newarray .int, 2), (15, .putfield 15, 3), (18, .aload_n 0, 1), (19, .bipush 96, 2), (21, .newarray .int, 2), (23, .putfield 19, 3), (26, .aload_n 0, 1), (27, .bipush 64, 2), (29, .newarray .int, 2), (31, .putfield 22, 3), (34, .aload_n 0, 1), (35, .bipush 6, 2), (37, .newarray .int, 2), (39, .putfield 25, 3), (42, .aload_n 0, 1), (43, .getfield 22, 3), (46, .sipush 21845, 3), (49, .invokestatic 28, 3), (52, .return_, 1)]
def mX5_init : xM := (yX5_init, cX5_init, 1, none, DX5_init, [], FX5)
theorem kX5_init : xOK mX5_init := ⟨by decide +kernel, Or.inr (xmem_of (by decide +kernel)), by decide +kernel, xFok_of FX5_ok⟩
def DX5_copyFrom : List (Nat × Instr × Nat) := [(0, .aload_n 0, 1), (1, .aload_n 1, 1), (2, .getfield 9, 3), (5, .putfield 9, 3), (8, .aload_n 1, 1), (9, .getfield 15, 3), (12, .iconst 0, 1), (13, .aload_n 0, 1), (14, .getfield 15, 3), (17, .iconst 0, 1), (18, .aload_n 0, 1), (19, .getfield 15, 3), (22, .arraylength, 1), (23, .invokestatic 34, 3), (26, .aload_n 1, 1), (27, .getfield 19, 3), (30, .iconst 0, 1), (31, .aload_n 0, 1), (32, .getfield 19, 3), (35, .iconst 0, 1), (36, .aload_n 0, 1), (37, .getfield 19, 3), (40, .arraylength, 1), (41, .invokestatic 34, 3), (44, .aload_n 1, 1), (45, .getfield 22, 3), (48, .iconst 0, 1), (49, .aload_n 0, 1), (50, .getfield 22, 3), (53, .iconst 0, 1), (54, .aload_n 0, 1), (55, .getfield 22, 3), (58, .arraylength, 1), (59, .invokestatic 34, 3), (62, .return_, 1)]
def mX5_copyFrom : xM := (yX5_copyFrom, cX5_copyFrom, 2, none, DX5_copyFrom, [], FX5)
theorem kX5_copyFrom : xOK mX5_copyFrom := ⟨by decide +kernel, Or.inr (xmem_of (by decide +kernel)), by decide +kernel, xFok_of FX5_ok⟩
def DX5_has : List (Nat × Instr × Nat) := [(0, .iload_n 1, 1), (1, .bipush 24, 2), (3, .invokestatic 40, 3), (6, .ifCond .eq 18, 3), (9, .aload_n 0, 1), (10, .getfield 9, 3), (13, .iload_n 1, 1), (14, .ishr, 1), (15, .iconst 1, 1), (16, .iand, 1), (17, .ifCond .eq 7, 3), (20, .iconst 1, 1), (21, .goto 4, 3), (24, .iconst 0, 1), (25, .ireturn, 1)]
def mX5_has : xM := (yX5_has, cX5_has, 2, some .boolean, DX5_has, [], FX5)
theorem kX5_has : xOK mX5_has := ⟨by decide +kernel, Or.inr (xmem_of (by decide +kernel)), by decide +kernel, xFok_of FX5_ok⟩
def DX5_takeAway : List (Nat × Instr × Nat) := [(0, .aload_n 0, 1), (1, .dup, 1), (2, .getfield 9, 3), (5, .iconst 1, 1), (6, .iload_n 1, 1), (7, .ishl, 1), (8, .iconst (-1), 1), (9, .ixor, 1), (10, .iand, 1), (11, .putfield 9, 3), (14, .return_, 1)]
def mX5_takeAway : xM := (yX5_takeAway, cX5_takeAway, 2, none, DX5_takeAway, [], FX5)
theorem kX5_takeAway : xOK mX5_takeAway := ⟨by decide +kernel, Or.inr (xmem_of (by decide +kernel)), by decide +kernel, xFok_of FX5_ok⟩
def DX5_howMany : List (Nat × Instr × Nat) := [(0, .aload_n 0, 1), (1, .getfield 9, 3), (4, .invokestatic 44, 3), (7, .ireturn, 1)]
def mX5_howMany : xM := (yX5_howMany, cX5_howMany, 1, some .int, DX5_howMany, [], FX5)
theorem kX5_howMany : xOK mX5_howMany := ⟨by decide +kernel, Or.inr (xmem_of (by decide +kernel)), by decide +kernel, xFok_of FX5_ok⟩
def DX5_setLooks : List (Nat × Instr × Nat) := [(0, .aload_n 0, 1), (1, .getfield 19, 3), (4, .iload_n 1, 1), (5, .iconst 4, 1), (6, .imul, 1), (7, .iload_n 2, 1), (8, .iastore, 1), (9, .aload_n 0, 1), (10, .getfield 19, 3), (13, .iload_n 1, 1), (14, .iconst 4, 1), (15, .imul, 1), (16, .iconst 1, 1), (17, .iadd, 1), (18, .iload_n 3, 1), (19, .iastore, 1), (20, .aload_n 0, 1), (21, .getfield 19, 3), (24, .iload_n 1, 1), (25, .iconst 4, 1), (26, .imul, 1), (27, .iconst 2, 1), (28, .iadd, 1), (29, .iload 4, 2), (31, .iastore, 1), (32, .aload_n 0, 1), (33, .getfield 19, 3), (36, .iload_n 1, 1), (37, .iconst 4, 1), (38, .imul, 1), (39, .iconst 3, 1), (40, .iadd, 1), (41, .iload 5, 2), (43, .iastore, 1), (44, .return_, 1)]
def mX5_setLooks : xM := (yX5_setLooks, cX5_setLooks, 6, none, DX5_setLooks, [], FX5)
theorem kX5_setLooks : xOK mX5_setLooks := ⟨by decide +kernel, Or.inr (xmem_of (by decide +kernel)), by decide +kernel, xFok_of FX5_ok⟩
def DX5_tryAlong : List (Nat × Instr × Nat) := [(0, .aload_n 0, 1), (1, .getfield 25, 3), (4, .iconst 2, 1), (5, .iload_n 1, 1), (6, .imul, 1), (7, .iload_n 2, 1), (8, .iastore, 1), (9, .aload_n 0, 1), (10, .getfield 25, 3), (13, .iconst 2, 1), (14, .iload_n 1, 1), (15, .imul, 1), (16, .iconst 1, 1), (17, .iadd, 1), (18, .iload_n 2, 1), (19, .iload_n 3, 1), (20, .iadd, 1), (21, .iastore, 1), (22, .return_, 1)]
def mX5_tryAlong : xM := (yX5_tryAlong, cX5_tryAlong, 4, none, DX5_tryAlong, [], FX5)
theorem kX5_tryAlong : xOK mX5_tryAlong := ⟨by decide +kernel, Or.inr (xmem_of (by decide +kernel)), by decide +kernel, xFok_of FX5_ok⟩
def DX5_settle : List (Nat × Instr × Nat) := [(0, .aload_n 0, 1), (1, .iload_n 1, 1), (2, .invokevirtual 50, 3), (5, .ifCond .ne 24, 3), (8, .aload_n 0, 1), (9, .iload_n 1, 1), (10, .iconst 0, 1), (11, .iconst 0, 1), (12, .iconst 0, 1), (13, .iconst 0, 1), (14, .invokevirtual 54, 3), (17, .aload_n 0, 1), (18, .dup, 1), (19, .getfield 9, 3), (22, .iconst 1, 1), (23, .iload_n 1, 1), (24, .ishl, 1), (25, .ior, 1), (26, .putfield 9, 3), (29, .aload_n 0, 1), (30, .getfield 25, 3), (33, .iconst 0, 1), (34, .aload_n 0, 1), (35, .getfield 15, 3), (38, .iload_n 1, 1), (39, .bipush 6, 2), (41, .imul, 1), (42, .bipush 6, 2), (44, .invokestatic 34, 3), (47, .return_, 1)]
def mX5_settle : xM := (yX5_settle, cX5_settle, 2, none, DX5_settle, [], FX5)
theorem kX5_settle : xOK mX5_settle := ⟨by decide +kernel, Or.inr (xmem_of (by decide +kernel)), by decide +kernel, xFok_of FX5_ok⟩
def DX5_lowestInTheWay : List (Nat × Instr × Nat) := [(0, .iconst 0, 1), (1, .istore_n 2, 1), (2, .iload_n 2, 1), (3, .bipush 24, 2), (5, .if_icmp .ge 32, 3), (8, .iload_n 2, 1), (9, .iload_n 1, 1), (10, .if_icmp .eq 21, 3), (13, .aload_n 0, 1), (14, .iload_n 2, 1), (15, .invokevirtual 50, 3), (18, .ifCond .eq 13, 3), (21, .aload_n 0, 1), (22, .iload_n 2, 1), (23, .invokevirtual 58, 3), (26, .ifCond .eq 5, 3), (29, .iload_n 2, 1), (30, .ireturn, 1), (31, .iinc 2 1, 3), (34, .goto (-32), 3), (37, .iconst (-1), 1), (38, .ireturn, 1)]
def mX5_lowestInTheWay : xM := (yX5_lowestInTheWay, cX5_lowestInTheWay, 3, some .int, DX5_lowestInTheWay, [2], FX5)
theorem kX5_lowestInTheWay : xOK mX5_lowestInTheWay := ⟨by decide +kernel, Or.inr (xmem_of (by decide +kernel)), by decide +kernel, xFok_of FX5_ok⟩
def DX5_sharesRoom : List (Nat × Instr × Nat) := [(0, .iconst 0, 1), (1, .istore_n 2, 1), (2, .iload_n 2, 1), (3, .iconst 3, 1), (4, .if_icmp .ge 58, 3), (7, .iload_n 1, 1), (8, .bipush 6, 2), (10, .imul, 1), (11, .iconst 2, 1), (12, .iload_n 2, 1), (13, .imul, 1), (14, .iadd, 1), (15, .istore_n 3, 1), (16, .aload_n 0, 1), (17, .getfield 25, 3), (20, .iconst 2, 1), (21, .iload_n 2, 1), (22, .imul, 1), (23, .iaload, 1), (24, .aload_n 0, 1), (25, .getfield 15, 3), (28, .iload_n 3, 1), (29, .iconst 1, 1), (30, .iadd, 1), (31, .iaload, 1), (32, .if_icmp .ge 22, 3), (35, .aload_n 0, 1), (36, .getfield 15, 3), (39, .iload_n 3, 1), (40, .iaload, 1), (41, .aload_n 0, 1), (42, .getfield 25, 3), (45, .iconst 2, 1), (46, .iload_n 2, 1), (47, .imul, 1), (48, .iconst 1, 1), (49, .iadd, 1), (50, .iaload, 1), (51, .if_icmp .lt 5, 3), (54, .iconst 0, 1), (55, .ireturn, 1), (56, .iinc 2 1, 3), (59, .goto (-57), 3), (62, .iconst 1, 1), (63, .ireturn, 1)]
def mX5_sharesRoom : xM := (yX5_sharesRoom, cX5_sharesRoom, 4, some .boolean, DX5_sharesRoom, [2], FX5)
theorem kX5_sharesRoom : xOK mX5_sharesRoom := ⟨by decide +kernel, Or.inr (xmem_of (by decide +kernel)), by decide +kernel, xFok_of FX5_ok⟩
def DX5_go : List (Nat × Instr × Nat) := [(0, .aload_n 0, 1), (1, .getfield 15, 3), (4, .iload_n 1, 1), (5, .bipush 6, 2), (7, .imul, 1), (8, .aload_n 0, 1), (9, .getfield 25, 3), (12, .iconst 0, 1), (13, .bipush 6, 2), (15, .invokestatic 34, 3), (18, .iconst 0, 1), (19, .istore 5, 2), (21, .iload 5, 2), (23, .iload 4, 2), (25, .if_icmp .ge 90, 3), (28, .aload_n 0, 1), (29, .getfield 25, 3), (32, .iconst 2, 1), (33, .iload_n 2, 1), (34, .imul, 1), (35, .dup2, 1), (36, .iaload, 1), (37, .iload_n 3, 1), (38, .iadd, 1), (39, .iastore, 1), (40, .aload_n 0, 1), (41, .getfield 25, 3), (44, .iconst 2, 1), (45, .iload_n 2, 1), (46, .imul, 1), (47, .iconst 1, 1), (48, .iadd, 1), (49, .dup2, 1), (50, .iaload, 1), (51, .iload_n 3, 1), (52, .iadd, 1), (53, .iastore, 1), (54, .aload_n 0, 1), (55, .getfield 25, 3), (58, .iconst 2, 1), (59, .iload_n 2, 1), (60, .imul, 1), (61, .iaload, 1), (62, .ifCond .lt 22, 3), (65, .aload_n 0, 1), (66, .getfield 25, 3), (69, .iconst 2, 1), (70, .iload_n 2, 1), (71, .imul, 1), (72, .iconst 1, 1), (73, .iadd, 1), (74, .iaload, 1), (75, .bipush 32, 2), (77, .if_icmp .gt 7, 3), (80, .iconst 1, 1), (81, .goto 4, 3), (84, .iconst 0, 1), (85, .istore 6, 2), (87, .iload 6, 2), (89, .ifCond .eq 26, 3), (92, .aload_n 0, 1), (93, .iload_n 1, 1), (94, .invokevirtual 61, 3), (97, .iconst (-1), 1), (98, .if_icmp .eq 6, 3), (101, .goto 14, 3), (104, .aload_n 0, 1), (105, .iload_n 1, 1), (106, .invokevirtual 64, 3), (109, .iinc 5 1, 3), (112, .goto (-91), 3), (115, .iload 5, 2), (117, .ireturn, 1)]
def mX5_go : xM := (yX5_go, cX5_go, 7, some .int, DX5_go, [21], FX5)
theorem kX5_go : xOK mX5_go := ⟨by decide +kernel, Or.inr (xmem_of (by decide +kernel)), by decide +kernel, xFok_of FX5_ok⟩
def DX5_inkAt : List (Nat × Instr × Nat) := [(0, .aload_n 0, 1), (1, .getfield 19, 3), (4, .iload_n 1, 1), (5, .iconst 4, 1), (6, .imul, 1), (7, .iconst 1, 1), (8, .iadd, 1), (9, .aload_n 2, 1), (10, .getfield 68, 3), (13, .iadd, 1), (14, .iaload, 1), (15, .istore_n 3, 1), (16, .aload_n 0, 1), (17, .getfield 22, 3), (20, .iload_n 3, 1), (21, .bipush 8, 2), (23, .imul, 1), (24, .aload_n 2, 1), (25, .invokevirtual 73, 3), (28, .iadd, 1), (29, .iaload, 1), (30, .istore 4, 2), (32, .iload 4, 2), (34, .iconst 2, 1), (35, .aload_n 2, 1), (36, .invokevirtual 77, 3), (39, .imul, 1), (40, .ishr, 1), (41, .iconst 3, 1), (42, .iand, 1), (43, .ireturn, 1)]
def mX5_inkAt : xM := (yX5_inkAt, cX5_inkAt, 5, some .int, DX5_inkAt, [], FX5)
theorem kX5_inkAt : xOK mX5_inkAt := ⟨by decide +kernel, Or.inr (xmem_of (by decide +kernel)), by decide +kernel, xFok_of FX5_ok⟩
def DX6_init : List (Nat × Instr × Nat) := [(0, .aload_n 0, 1), (1, .invokespecial 3, 3), (4, .aload_n 0, 1), (5, .new 9, 3), (8, .dup, 1), (9, .invokespecial 11, 3), (12, .putfield 12, 3), (15, .aload_n 0, 1), (16, .iconst 4, 1), (17, .anewarray 9, 3), (20, .putfield 16, 3), (23, .aload_n 0, 1), (24, .iconst 4, 1), (25, .newarray .boolean, 2), (27, .putfield 20, 3), (30, .aload_n 0, 1), (31, .new 24, 3), (34, .dup, 1), (35, .invokespecial 26, 3), (38, .putfield 27, 3), (41, .aload_n 0, 1), (42, .new 31, 3), (45, .dup, 1), (46, .invokespecial 33, 3), (49, .putfield 34, 3), (52, .aload_n 0, 1), (53, .new 38, 3), (56, .dup, 1), (57, .invokespecial 40, 3), (60, .putfield 41, 3), (63, .aload_n 0, 1), (64, .new 38, 3), (67, .dup, 1), (68, .invokespecial 40, 3), (71, .putfield 45, 3), (74, .aload_n 0, 1), (75, .bipush 24, 2), (77, .newarray .int, 2), (79, .putfield 48, 3), (82, .aload_n 0, 1), (83, .bipush 24, 2), (85, .newarray .int, 2), (87, .putfield 52, 3), (90, .aload_n 0, 1), (91, .new 55, 3), (94, .dup, 1), (95, .invokespecial 57, 3), (98, .putfield 58, 3), (101, .aload_n 0, 1), (102, .new 55, 3), (105, .dup, 1), (106, .invokespecial 57, 3), (109, .putfield 62, 3), (112, .aload_n 0, 1), (113, .iconst 0, 1), (114, .putfield 65, 3), (117, .iconst 0, 1), (118, .istore_n 1, 1), (119, .iload_n 1, 1), (120, .iconst 4, 1), (121, .if_icmp .ge 22, 3), (124, .aload_n 0, 1), (125, .getfield 16, 3), (128, .iload_n 1, 1), (129, .new 9, 3), (132, .dup, 1), (133, .invokespecial 11, 3), (136, .aastore, 1), (137, .iinc 1 1, 3), (140, .goto (-21), 3), (143, .return_, 1)]
def mX6_init : xM := (yX6_init, cX6_init, 2, none, DX6_init, [119], FX6)
theorem kX6_init : xOK mX6_init := ⟨by decide +kernel, Or.inr (xmem_of (by decide +kernel)), by decide +kernel, xFok_of FX6_ok⟩
def DX6_place : List (Nat × Instr × Nat) := [(0, .iload_n 1, 1), (1, .bipush 24, 2), (3, .invokestatic 69, 3), (6, .ifCond .eq 31, 3), (9, .iload_n 2, 1), (10, .iload 5, 2), (12, .invokestatic 73, 3), (15, .ifCond .eq 22, 3), (18, .iload_n 3, 1), (19, .iload 6, 2), (21, .invokestatic 73, 3), (24, .ifCond .eq 13, 3), (27, .iload 4, 2), (29, .iload 7, 2), (31, .invokestatic 73, 3), (34, .ifCond .ne 5, 3), (37, .iconst 1, 1), (38, .ireturn, 1), (39, .aload_n 0, 1), (40, .getfield 12, 3), (43, .iconst 0, 1), (44, .iload_n 2, 1), (45, .iload 5, 2), (47, .invokevirtual 76, 3), (50, .aload_n 0, 1), (51, .getfield 12, 3), (54, .iconst 1, 1), (55, .iload_n 3, 1), (56, .iload 6, 2), (58, .invokevirtual 76, 3), (61, .aload_n 0, 1), (62, .getfield 12, 3), (65, .iconst 2, 1), (66, .iload 4, 2), (68, .iload 7, 2), (70, .invokevirtual 76, 3), (73, .aload_n 0, 1), (74, .getfield 12, 3), (77, .iload_n 1, 1), (78, .invokevirtual 80, 3), (81, .istore 8, 2), (83, .iload 8, 2), (85, .iconst (-1), 1), (86, .if_icmp .eq 11, 3), (89, .iconst 2, 1), (90, .bipush 8, 2), (92, .iload 8, 2), (94, .imul, 1), (95, .iadd, 1), (96, .ireturn, 1), (97, .aload_n 0, 1), (98, .getfield 12, 3), (101, .iload_n 1, 1), (102, .invokevirtual 84, 3), (105, .iconst 0, 1), (106, .ireturn, 1)]
def mX6_place : xM := (yX6_place, cX6_place, 9, some .int, DX6_place, [], FX6)
theorem kX6_place : xOK mX6_place := ⟨by decide +kernel, Or.inr (xmem_of (by decide +kernel)), by decide +kernel, xFok_of FX6_ok⟩
def DX6_lift : List (Nat × Instr × Nat) := [(0, .aload_n 0, 1), (1, .getfield 12, 3), (4, .iload_n 1, 1), (5, .invokevirtual 88, 3), (8, .ifCond .ne 5, 3), (11, .iconst 0, 1), (12, .ireturn, 1), (13, .aload_n 0, 1), (14, .getfield 12, 3), (17, .iload_n 1, 1), (18, .invokevirtual 92, 3), (21, .iconst 1, 1), (22, .ireturn, 1)]
def mX6_lift : xM := (yX6_lift, cX6_lift, 2, some .boolean, DX6_lift, [], FX6)
theorem kX6_lift : xOK mX6_lift := ⟨by decide +kernel, Or.inr (xmem_of (by decide +kernel)), by decide +kernel, xFok_of FX6_ok⟩
def DX6_paint : List (Nat × Instr × Nat) := [(0, .iload_n 2, 1), (1, .bipush 16, 2), (3, .invokestatic 69, 3), (6, .ifCond .eq 36, 3), (9, .iload_n 3, 1), (10, .bipush 8, 2), (12, .invokestatic 69, 3), (15, .ifCond .eq 27, 3), (18, .iload 4, 2), (20, .bipush 8, 2), (22, .invokestatic 69, 3), (25, .ifCond .eq 17, 3), (28, .iload 5, 2), (30, .bipush 8, 2), (32, .invokestatic 69, 3), (35, .ifCond .eq 7, 3), (38, .iconst 1, 1), (39, .goto 4, 3), (42, .iconst 0, 1), (43, .istore 6, 2), (45, .aload_n 0, 1), (46, .getfield 12, 3), (49, .iload_n 1, 1), (50, .invokevirtual 88, 3), (53, .ifCond .eq 8, 3), (56, .iload 6, 2), (58, .ifCond .ne 5, 3), (61, .iconst 0, 1), (62, .ireturn, 1), (63, .aload_n 0, 1), (64, .getfield 12, 3), (67, .iload_n 1, 1), (68, .iload_n 2, 1), (69, .iload_n 3, 1), (70, .iload 4, 2), (72, .iload 5, 2), (74, .invokevirtual 95, 3), (77, .iconst 1, 1), (78, .ireturn, 1)]
def mX6_paint : xM := (yX6_paint, cX6_paint, 7, some .boolean, DX6_paint, [], FX6)
theorem kX6_paint : xOK mX6_paint := ⟨by decide +kernel, Or.inr (xmem_of (by decide +kernel)), by decide +kernel, xFok_of FX6_ok⟩
def DX6_ink : List (Nat × Instr × Nat) := [(0, .iload_n 1, 1), (1, .bipush 8, 2), (3, .invokestatic 69, 3), (6, .ifCond .eq 12, 3), (9, .iload_n 2, 1), (10, .bipush 8, 2), (12, .invokestatic 69, 3), (15, .ifCond .ne 5, 3), (18, .iconst 0, 1), (19, .ireturn, 1), (20, .aload_n 0, 1), (21, .getfield 12, 3), (24, .getfield 99, 3), (27, .iload_n 1, 1), (28, .bipush 8, 2), (30, .imul, 1), (31, .iload_n 2, 1), (32, .iadd, 1), (33, .iload_n 3, 1), (34, .ldc 102, 2), (36, .iand, 1), (37, .iastore, 1), (38, .iconst 1, 1), (39, .ireturn, 1)]
def mX6_ink : xM := (yX6_ink, cX6_ink, 4, some .boolean, DX6_ink, [], FX6)
theorem kX6_ink : xOK mX6_ink := ⟨by decide +kernel, Or.inr (xmem_of (by decide +kernel)), by decide +kernel, xFok_of FX6_ok⟩
def DX6_slide : List (Nat × Instr × Nat) := [(0, .aload_n 0, 1), (1, .getfield 12, 3), (4, .iload_n 1, 1), (5, .invokevirtual 88, 3), (8, .ifCond .eq 21, 3), (11, .iload_n 2, 1), (12, .bipush 6, 2), (14, .invokestatic 69, 3), (17, .ifCond .eq 12, 3), (20, .iload_n 3, 1), (21, .bipush 33, 2), (23, .invokestatic 69, 3), (26, .ifCond .ne 5, 3), (29, .iconst (-1), 1), (30, .ireturn, 1), (31, .iload_n 2, 1), (32, .iconst 3, 1), (33, .if_icmp .ge 17, 3), (36, .aload_n 0, 1), (37, .getfield 12, 3), (40, .iload_n 1, 1), (41, .iload_n 2, 1), (42, .iconst 1, 1), (43, .iload_n 3, 1), (44, .invokevirtual 103, 3), (47, .goto 16, 3), (50, .aload_n 0, 1), (51, .getfield 12, 3), (54, .iload_n 1, 1), (55, .iload_n 2, 1), (56, .iconst 3, 1), (57, .isub, 1), (58, .iconst (-1), 1), (59, .iload_n 3, 1), (60, .invokevirtual 103, 3), (63, .ireturn, 1)]
def mX6_slide : xM := (yX6_slide, cX6_slide, 4, some .int, DX6_slide, [], FX6)
theorem kX6_slide : xOK mX6_slide := ⟨by decide +kernel, Or.inr (xmem_of (by decide +kernel)), by decide +kernel, xFok_of FX6_ok⟩
def DX6_drop : List (Nat × Instr × Nat) := [(0, .iconst 0, 1), (1, .istore_n 1, 1), (2, .iload_n 1, 1), (3, .bipush 24, 2), (5, .if_icmp .ge 44, 3), (8, .aload_n 0, 1), (9, .getfield 52, 3), (12, .iload_n 1, 1), (13, .aload_n 0, 1), (14, .getfield 12, 3), (17, .iload_n 1, 1), (18, .invokevirtual 88, 3), (21, .ifCond .eq 20, 3), (24, .aload_n 0, 1), (25, .getfield 12, 3), (28, .getfield 107, 3), (31, .iload_n 1, 1), (32, .bipush 6, 2), (34, .imul, 1), (35, .iconst 4, 1), (36, .iadd, 1), (37, .iaload, 1), (38, .goto 4, 3), (41, .iconst (-1), 1), (42, .iastore, 1), (43, .iinc 1 1, 3), (46, .goto (-44), 3), (49, .iconst 0, 1), (50, .istore_n 1, 1), (51, .iconst 0, 1), (52, .istore_n 2, 1), (53, .iload_n 2, 1), (54, .bipush 32, 2), (56, .if_icmp .ge 48, 3), (59, .iconst 0, 1), (60, .istore_n 3, 1), (61, .iload_n 3, 1), (62, .bipush 24, 2), (64, .if_icmp .ge 34, 3), (67, .aload_n 0, 1), (68, .getfield 52, 3), (71, .iload_n 3, 1), (72, .iaload, 1), (73, .iload_n 2, 1), (74, .if_icmp .ne 18, 3), (77, .iload_n 1, 1), (78, .aload_n 0, 1), (79, .getfield 12, 3), (82, .iload_n 3, 1), (83, .iconst 2, 1), (84, .iconst (-1), 1), (85, .bipush 32, 2), (87, .invokevirtual 103, 3), (90, .iadd, 1), (91, .istore_n 1, 1), (92, .iinc 3 1, 3), (95, .goto (-34), 3), (98, .iinc 2 1, 3), (101, .goto (-48), 3), (104, .iload_n 1, 1), (105, .ireturn, 1)]
def mX6_drop : xM := (yX6_drop, cX6_drop, 4, some .int, DX6_drop, [2, 53, 61], FX6)
theorem kX6_drop : xOK mX6_drop := ⟨by decide +kernel, Or.inr (xmem_of (by decide +kernel)), by decide +kernel, xFok_of FX6_ok⟩
def DX6_draw : List (Nat × Instr × Nat) := [(0, .aload_n 0, 1), (1, .getfield 62, 3), (4, .aload_n 0, 1), (5, .getfield 12, 3), (8, .invokevirtual 110, 3), (11, .aload_n 0, 1), (12, .getfield 62, 3), (15, .invokevirtual 114, 3), (18, .ifCond .ne 5, 3), (21, .iconst (-1), 1), (22, .ireturn, 1), (23, .aload_n 0, 1), (24, .getfield 62, 3), (27, .astore_n 1, 1), (28, .aload_n 0, 1), (29, .aload_n 0, 1), (30, .getfield 58, 3), (33, .putfield 62, 3), (36, .aload_n 0, 1), (37, .aload_n 1, 1), (38, .putfield 58, 3), (41, .aload_n 0, 1), (42, .getfield 27, 3), (45, .aload_n 0, 1), (46, .getfield 12, 3), (49, .aload_n 0, 1), (50, .getfield 58, 3), (53, .invokevirtual 118, 3), (56, .aload_n 0, 1), (57, .dup, 1), (58, .getfield 65, 3), (61, .iconst 1, 1), (62, .iadd, 1), (63, .putfield 65, 3), (66, .aload_n 0, 1), (67, .getfield 58, 3), (70, .getfield 122, 3), (73, .ireturn, 1)]
def mX6_draw : xM := (yX6_draw, cX6_draw, 2, some .int, DX6_draw, [], FX6)
theorem kX6_draw : xOK mX6_draw := ⟨by decide +kernel, Or.inr (xmem_of (by decide +kernel)), by decide +kernel, xFok_of FX6_ok⟩
def DX6_piece : List (Nat × Instr × Nat) := [(0, .iload_n 1, 1), (1, .aload_n 0, 1), (2, .getfield 58, 3), (5, .getfield 125, 3), (8, .invokestatic 69, 3), (11, .ifCond .ne 5, 3), (14, .iconst (-1), 1), (15, .ireturn, 1), (16, .aload_n 0, 1), (17, .getfield 58, 3), (20, .getfield 128, 3), (23, .iload_n 1, 1), (24, .iaload, 1), (25, .istore_n 3, 1), (26, .iload_n 2, 1), (27, .lookupswitch 37 #[(0, 25), (1, 35)], 25), (52, .aload_n 0, 1), (53, .getfield 58, 3), (56, .getfield 131, 3), (59, .iload_n 3, 1), (60, .iaload, 1), (61, .ireturn, 1), (62, .iload_n 3, 1), (63, .ireturn, 1), (64, .iload_n 2, 1), (65, .iconst 2, 1), (66, .isub, 1), (67, .bipush 6, 2), (69, .invokestatic 69, 3), (72, .ifCond .eq 22, 3), (75, .aload_n 0, 1), (76, .getfield 58, 3), (79, .getfield 134, 3), (82, .iload_n 3, 1), (83, .bipush 6, 2), (85, .imul, 1), (86, .iload_n 2, 1), (87, .iadd, 1), (88, .iconst 2, 1), (89, .isub, 1), (90, .iaload, 1), (91, .goto 4, 3), (94, .iconst (-1), 1), (95, .ireturn, 1)]
def mX6_piece : xM := (yX6_piece, cX6_piece, 4, some .int, DX6_piece, [], FX6)
theorem kX6_piece : xOK mX6_piece := ⟨by decide +kernel, Or.inr (xmem_of (by decide +kernel)), by decide +kernel, xFok_of FX6_ok⟩
def DX6_pixel : List (Nat × Instr × Nat) := [(0, .aload_n 0, 1), (1, .getfield 65, 3), (4, .ifCond .eq 11, 3), (7, .iload_n 1, 1), (8, .iload_n 2, 1), (9, .invokestatic 135, 3), (12, .ifCond .ne 5, 3), (15, .iconst (-1), 1), (16, .ireturn, 1), (17, .aload_n 0, 1), (18, .getfield 27, 3), (21, .getfield 138, 3), (24, .iload_n 1, 1), (25, .iload_n 2, 1), (26, .invokestatic 141, 3), (29, .iaload, 1), (30, .istore 4, 2), (32, .iload_n 3, 1), (33, .iconst 3, 1), (34, .if_icmp .ne 9, 3), (37, .iload 4, 2), (39, .invokestatic 145, 3), (42, .ireturn, 1), (43, .iload 4, 2), (45, .invokestatic 148, 3), (48, .ifCond .ne 5, 3), (51, .iconst (-1), 1), (52, .ireturn, 1), (53, .iload_n 3, 1), (54, .tableswitch 44 0 2 #[26, 32, 38], 26), (80, .iload 4, 2), (82, .invokestatic 151, 3), (85, .ireturn, 1), (86, .iload 4, 2), (88, .invokestatic 154, 3), (91, .ireturn, 1), (92, .iload 4, 2), (94, .invokestatic 157, 3), (97, .ireturn, 1), (98, .iconst (-1), 1), (99, .ireturn, 1)]
def mX6_pixel : xM := (yX6_pixel, cX6_pixel, 5, some .int, DX6_pixel, [], FX6)
theorem kX6_pixel : xOK mX6_pixel := ⟨by decide +kernel, Or.inr (xmem_of (by decide +kernel)), by decide +kernel, xFok_of FX6_ok⟩
def DX6_seen : List (Nat × Instr × Nat) := [(0, .iload_n 1, 1), (1, .bipush 24, 2), (3, .invokestatic 69, 3), (6, .ifCond .eq 15, 3), (9, .aload_n 0, 1), (10, .getfield 27, 3), (13, .getfield 160, 3), (16, .iload_n 1, 1), (17, .iaload, 1), (18, .goto 4, 3), (21, .iconst 0, 1), (22, .ireturn, 1)]
def mX6_seen : xM := (yX6_seen, cX6_seen, 2, some .int, DX6_seen, [], FX6)
theorem kX6_seen : xOK mX6_seen := ⟨by decide +kernel, Or.inr (xmem_of (by decide +kernel)), by decide +kernel, xFok_of FX6_ok⟩
def DX6_changed : List (Nat × Instr × Nat) := [(0, .iload_n 1, 1), (1, .aload_n 0, 1), (2, .getfield 27, 3), (5, .getfield 163, 3), (8, .arraylength, 1), (9, .invokestatic 69, 3), (12, .ifCond .eq 15, 3), (15, .aload_n 0, 1), (16, .getfield 27, 3), (19, .getfield 163, 3), (22, .iload_n 1, 1), (23, .iaload, 1), (24, .goto 4, 3), (27, .iconst (-1), 1), (28, .ireturn, 1)]
def mX6_changed : xM := (yX6_changed, cX6_changed, 2, some .int, DX6_changed, [], FX6)
theorem kX6_changed : xOK mX6_changed := ⟨by decide +kernel, Or.inr (xmem_of (by decide +kernel)), by decide +kernel, xFok_of FX6_ok⟩
def DX6_count : List (Nat × Instr × Nat) := [(0, .iload_n 1, 1), (1, .tableswitch 96 0 6 #[43, 51, 59, 67, 75, 83, 91], 43), (44, .aload_n 0, 1), (45, .getfield 58, 3), (48, .getfield 122, 3), (51, .ireturn, 1), (52, .aload_n 0, 1), (53, .getfield 58, 3), (56, .invokevirtual 166, 3), (59, .ireturn, 1), (60, .aload_n 0, 1), (61, .getfield 58, 3), (64, .invokevirtual 170, 3), (67, .ireturn, 1), (68, .aload_n 0, 1), (69, .getfield 27, 3), (72, .getfield 173, 3), (75, .ireturn, 1), (76, .aload_n 0, 1), (77, .getfield 27, 3), (80, .getfield 176, 3), (83, .ireturn, 1), (84, .aload_n 0, 1), (85, .getfield 12, 3), (88, .invokevirtual 179, 3), (91, .ireturn, 1), (92, .aload_n 0, 1), (93, .getfield 65, 3), (96, .ireturn, 1), (97, .iconst (-1), 1), (98, .ireturn, 1)]
def mX6_count : xM := (yX6_count, cX6_count, 2, some .int, DX6_count, [], FX6)
theorem kX6_count : xOK mX6_count := ⟨by decide +kernel, Or.inr (xmem_of (by decide +kernel)), by decide +kernel, xFok_of FX6_ok⟩
def DX6_covers : List (Nat × Instr × Nat) := [(0, .aload_n 0, 1), (1, .getfield 12, 3), (4, .iload_n 1, 1), (5, .invokevirtual 88, 3), (8, .ifCond .eq 19, 3), (11, .aload_n 0, 1), (12, .getfield 12, 3), (15, .iload_n 2, 1), (16, .invokevirtual 88, 3), (19, .ifCond .eq 8, 3), (22, .iload_n 1, 1), (23, .iload_n 2, 1), (24, .if_icmp .ne 5, 3), (27, .iconst (-1), 1), (28, .ireturn, 1), (29, .aload_n 0, 1), (30, .getfield 12, 3), (33, .getfield 107, 3), (36, .iload_n 1, 1), (37, .iload_n 2, 1), (38, .invokestatic 182, 3), (41, .ifCond .ne 5, 3), (44, .iconst 0, 1), (45, .ireturn, 1), (46, .aload_n 0, 1), (47, .getfield 41, 3), (50, .aload_n 0, 1), (51, .getfield 12, 3), (54, .getfield 107, 3), (57, .iload_n 1, 1), (58, .bipush 6, 2), (60, .imul, 1), (61, .invokevirtual 186, 3), (64, .aload_n 0, 1), (65, .getfield 45, 3), (68, .aload_n 0, 1), (69, .getfield 12, 3), (72, .getfield 107, 3), (75, .iload_n 2, 1), (76, .bipush 6, 2), (78, .imul, 1), (79, .invokevirtual 186, 3), (82, .aload_n 0, 1), (83, .getfield 41, 3), (86, .aload_n 0, 1), (87, .getfield 45, 3), (90, .invokevirtual 190, 3), (93, .aload_n 0, 1), (94, .getfield 41, 3), (97, .invokevirtual 194, 3), (100, .ireturn, 1)]
def mX6_covers : xM := (yX6_covers, cX6_covers, 3, some .int, DX6_covers, [], FX6)
theorem kX6_covers : xOK mX6_covers := ⟨by decide +kernel, Or.inr (xmem_of (by decide +kernel)), by decide +kernel, xFok_of FX6_ok⟩
def DX6_tangled : List (Nat × Instr × Nat) := [(0, .aload_n 0, 1), (1, .getfield 12, 3), (4, .iload_n 1, 1), (5, .invokevirtual 88, 3), (8, .ifCond .ne 5, 3), (11, .iconst (-1), 1), (12, .ireturn, 1), (13, .aload_n 0, 1), (14, .getfield 62, 3), (17, .aload_n 0, 1), (18, .getfield 12, 3), (21, .invokevirtual 110, 3), (24, .aload_n 0, 1), (25, .getfield 62, 3), (28, .iload_n 1, 1), (29, .invokevirtual 197, 3), (32, .aload_n 0, 1), (33, .getfield 62, 3), (36, .getfield 200, 3), (39, .invokevirtual 204, 3), (42, .ireturn, 1)]
def mX6_tangled : xM := (yX6_tangled, cX6_tangled, 2, some .int, DX6_tangled, [], FX6)
theorem kX6_tangled : xOK mX6_tangled := ⟨by decide +kernel, Or.inr (xmem_of (by decide +kernel)), by decide +kernel, xFok_of FX6_ok⟩
def DX6_under : List (Nat × Instr × Nat) := [(0, .iload_n 1, 1), (1, .iload_n 2, 1), (2, .invokestatic 135, 3), (5, .ifCond .ne 5, 3), (8, .iconst (-1), 1), (9, .ireturn, 1), (10, .aload_n 0, 1), (11, .iload_n 1, 1), (12, .iload_n 2, 1), (13, .invokevirtual 209, 3), (16, .iconst 0, 1), (17, .istore 4, 2), (19, .iload 4, 2), (21, .bipush 24, 2), (23, .if_icmp .ge 33, 3), (26, .aload_n 0, 1), (27, .getfield 48, 3), (30, .iload 4, 2), (32, .iaload, 1), (33, .iconst (-1), 1), (34, .if_icmp .eq 16, 3), (37, .aload_n 0, 1), (38, .iload 4, 2), (40, .invokevirtual 213, 3), (43, .iload_n 3, 1), (44, .if_icmp .ne 6, 3), (47, .iload 4, 2), (49, .ireturn, 1), (50, .iinc 4 1, 3), (53, .goto (-34), 3), (56, .iconst (-1), 1), (57, .ireturn, 1)]
def mX6_under : xM := (yX6_under, cX6_under, 5, some .int, DX6_under, [19], FX6)
theorem kX6_under : xOK mX6_under := ⟨by decide +kernel, Or.inr (xmem_of (by decide +kernel)), by decide +kernel, xFok_of FX6_ok⟩
def DX6_box : List (Nat × Instr × Nat) := [(0, .aload_n 0, 1), (1, .getfield 12, 3), (4, .iload_n 1, 1), (5, .invokevirtual 88, 3), (8, .ifCond .ne 5, 3), (11, .iconst (-1), 1), (12, .ireturn, 1), (13, .iload_n 2, 1), (14, .bipush 6, 2), (16, .invokestatic 69, 3), (19, .ifCond .eq 18, 3), (22, .aload_n 0, 1), (23, .getfield 12, 3), (26, .getfield 107, 3), (29, .iload_n 1, 1), (30, .bipush 6, 2), (32, .imul, 1), (33, .iload_n 2, 1), (34, .iadd, 1), (35, .iaload, 1), (36, .ireturn, 1), (37, .iload_n 2, 1), (38, .bipush 6, 2), (40, .isub, 1), (41, .iconst 4, 1), (42, .invokestatic 69, 3), (45, .ifCond .eq 22, 3), (48, .aload_n 0, 1), (49, .getfield 12, 3), (52, .getfield 216, 3), (55, .iload_n 1, 1), (56, .iconst 4, 1), (57, .imul, 1), (58, .iload_n 2, 1), (59, .iadd, 1), (60, .bipush 6, 2), (62, .isub, 1), (63, .iaload, 1), (64, .goto 4, 3), (67, .iconst (-1), 1), (68, .ireturn, 1)]
def mX6_box : xM := (yX6_box, cX6_box, 3, some .int, DX6_box, [], FX6)
theorem kX6_box : xOK mX6_box := ⟨by decide +kernel, Or.inr (xmem_of (by decide +kernel)), by decide +kernel, xFok_of FX6_ok⟩
def DX6_keep : List (Nat × Instr × Nat) := [(0, .iload_n 1, 1), (1, .iconst 4, 1), (2, .invokestatic 69, 3), (5, .ifCond .ne 5, 3), (8, .iconst 0, 1), (9, .ireturn, 1), (10, .aload_n 0, 1), (11, .getfield 16, 3), (14, .iload_n 1, 1), (15, .aaload, 1), (16, .aload_n 0, 1), (17, .getfield 12, 3), (20, .invokevirtual 219, 3), (23, .aload_n 0, 1), (24, .getfield 20, 3), (27, .iload_n 1, 1), (28, .iconst 1, 1), (29, .bastore, 1), (30, .iconst 1, 1), (31, .ireturn, 1)]
def mX6_keep : xM := (yX6_keep, cX6_keep, 2, some .boolean, DX6_keep, [], FX6)
theorem kX6_keep : xOK mX6_keep := ⟨by decide +kernel, Or.inr (xmem_of (by decide +kernel)), by decide +kernel, xFok_of FX6_ok⟩
def DX6_back : List (Nat × Instr × Nat) := [(0, .iload_n 1, 1), (1, .iconst 4, 1), (2, .invokestatic 69, 3), (5, .ifCond .eq 12, 3), (8, .aload_n 0, 1), (9, .getfield 20, 3), (12, .iload_n 1, 1), (13, .baload, 1), (14, .ifCond .ne 5, 3), (17, .iconst 0, 1), (18, .ireturn, 1), (19, .aload_n 0, 1), (20, .getfield 12, 3), (23, .aload_n 0, 1), (24, .getfield 16, 3), (27, .iload_n 1, 1), (28, .aaload, 1), (29, .invokevirtual 219, 3), (32, .iconst 1, 1), (33, .ireturn, 1)]
def mX6_back : xM := (yX6_back, cX6_back, 2, some .boolean, DX6_back, [], FX6)
theorem kX6_back : xOK mX6_back := ⟨by decide +kernel, Or.inr (xmem_of (by decide +kernel)), by decide +kernel, xFok_of FX6_ok⟩
def DX6_findExits : List (Nat × Instr × Nat) := [(0, .aload_n 0, 1), (1, .getfield 34, 3), (4, .iload_n 1, 1), (5, .iload_n 2, 1), (6, .invokevirtual 222, 3), (9, .iconst 0, 1), (10, .istore_n 3, 1), (11, .iload_n 3, 1), (12, .bipush 24, 2), (14, .if_icmp .ge 79, 3), (17, .aload_n 0, 1), (18, .getfield 48, 3), (21, .iload_n 3, 1), (22, .iconst (-1), 1), (23, .iastore, 1), (24, .aload_n 0, 1), (25, .getfield 12, 3), (28, .iload_n 3, 1), (29, .invokevirtual 88, 3), (32, .ifCond .eq 55, 3), (35, .aload_n 0, 1), (36, .getfield 34, 3), (39, .aload_n 0, 1), (40, .getfield 12, 3), (43, .getfield 107, 3), (46, .iload_n 3, 1), (47, .bipush 6, 2), (49, .imul, 1), (50, .invokevirtual 225, 3), (53, .ifCond .eq 34, 3), (56, .aload_n 0, 1), (57, .getfield 34, 3), (60, .aload_n 0, 1), (61, .getfield 12, 3), (64, .getfield 107, 3), (67, .iload_n 3, 1), (68, .bipush 6, 2), (70, .imul, 1), (71, .invokevirtual 229, 3), (74, .aload_n 0, 1), (75, .getfield 48, 3), (78, .iload_n 3, 1), (79, .aload_n 0, 1), (80, .getfield 34, 3), (83, .getfield 232, 3), (86, .iastore, 1), (87, .iinc 3 1, 3), (90, .goto (-79), 3), (93, .return_, 1)]
def mX6_findExits : xM := (yX6_findExits, cX6_findExits, 4, none, DX6_findExits, [11], FX6)
theorem kX6_findExits : xOK mX6_findExits := ⟨by decide +kernel, Or.inr (xmem_of (by decide +kernel)), by decide +kernel, xFok_of FX6_ok⟩
def DX6_howManyNearer : List (Nat × Instr × Nat) := [(0, .iconst 0, 1), (1, .istore_n 2, 1), (2, .iconst 0, 1), (3, .istore_n 3, 1), (4, .iload_n 3, 1), (5, .bipush 24, 2), (7, .if_icmp .ge 27, 3), (10, .aload_n 0, 1), (11, .getfield 48, 3), (14, .iload_n 3, 1), (15, .iaload, 1), (16, .aload_n 0, 1), (17, .getfield 48, 3), (20, .iload_n 1, 1), (21, .iaload, 1), (22, .if_icmp .le 6, 3), (25, .iinc 2 1, 3), (28, .iinc 3 1, 3), (31, .goto (-27), 3), (34, .iload_n 2, 1), (35, .ireturn, 1)]
def mX6_howManyNearer : xM := (yX6_howManyNearer, cX6_howManyNearer, 4, some .int, DX6_howManyNearer, [4], FX6)
theorem kX6_howManyNearer : xOK mX6_howManyNearer := ⟨by decide +kernel, Or.inr (xmem_of (by decide +kernel)), by decide +kernel, xFok_of FX6_ok⟩
def DX6_isBelow : List (Nat × Instr × Nat) := [(0, .iload_n 0, 1), (1, .ifCond .lt 12, 3), (4, .iload_n 0, 1), (5, .iload_n 1, 1), (6, .if_icmp .ge 7, 3), (9, .iconst 1, 1), (10, .goto 4, 3), (13, .iconst 0, 1), (14, .ireturn, 1)]
def mX6_isBelow : xM := (yX6_isBelow, cX6_isBelow, 2, some .boolean, DX6_isBelow, [], FX6)
theorem kX6_isBelow : xOK mX6_isBelow := ⟨by decide +kernel, Or.inr (xmem_of (by decide +kernel)), by decide +kernel, xFok_of FX6_ok⟩
def DX6_isPixel : List (Nat × Instr × Nat) := [(0, .iload_n 0, 1), (1, .bipush (-32), 2), (3, .if_icmp .lt 25, 3), (6, .iload_n 0, 1), (7, .bipush 32, 2), (9, .if_icmp .ge 19, 3), (12, .iload_n 1, 1), (13, .bipush (-64), 2), (15, .if_icmp .lt 13, 3), (18, .iload_n 1, 1), (19, .bipush 64, 2), (21, .if_icmp .ge 7, 3), (24, .iconst 1, 1), (25, .goto 4, 3), (28, .iconst 0, 1), (29, .ireturn, 1)]
def mX6_isPixel : xM := (yX6_isPixel, cX6_isPixel, 2, some .boolean, DX6_isPixel, [], FX6)
theorem kX6_isPixel : xOK mX6_isPixel := ⟨by decide +kernel, Or.inr (xmem_of (by decide +kernel)), by decide +kernel, xFok_of FX6_ok⟩
def DX6_liesInRoom : List (Nat × Instr × Nat) := [(0, .iload_n 0, 1), (1, .ifCond .lt 25, 3), (4, .iload_n 1, 1), (5, .ifCond .le 21, 3), (8, .iload_n 1, 1), (9, .bipush 32, 2), (11, .if_icmp .gt 15, 3), (14, .iload_n 0, 1), (15, .bipush 32, 2), (17, .iload_n 1, 1), (18, .isub, 1), (19, .if_icmp .gt 7, 3), (22, .iconst 1, 1), (23, .goto 4, 3), (26, .iconst 0, 1), (27, .ireturn, 1)]
def mX6_liesInRoom : xM := (yX6_liesInRoom, cX6_liesInRoom, 2, some .boolean, DX6_liesInRoom, [], FX6)
theorem kX6_liesInRoom : xOK mX6_liesInRoom := ⟨by decide +kernel, Or.inr (xmem_of (by decide +kernel)), by decide +kernel, xFok_of FX6_ok⟩
def DX6_liesBeyond : List (Nat × Instr × Nat) := [(0, .iconst 0, 1), (1, .istore_n 3, 1), (2, .iload_n 3, 1), (3, .iconst 3, 1), (4, .if_icmp .ge 36, 3), (7, .aload_n 0, 1), (8, .iload_n 1, 1), (9, .bipush 6, 2), (11, .imul, 1), (12, .iconst 2, 1), (13, .iload_n 3, 1), (14, .imul, 1), (15, .iadd, 1), (16, .iaload, 1), (17, .aload_n 0, 1), (18, .iload_n 2, 1), (19, .bipush 6, 2), (21, .imul, 1), (22, .iconst 2, 1), (23, .iload_n 3, 1), (24, .imul, 1), (25, .iadd, 1), (26, .iconst 1, 1), (27, .iadd, 1), (28, .iaload, 1), (29, .if_icmp .lt 5, 3), (32, .iconst 1, 1), (33, .ireturn, 1), (34, .iinc 3 1, 3), (37, .goto (-35), 3), (40, .iconst 0, 1), (41, .ireturn, 1)]
def mX6_liesBeyond : xM := (yX6_liesBeyond, cX6_liesBeyond, 4, some .boolean, DX6_liesBeyond, [2], FX6)
theorem kX6_liesBeyond : xOK mX6_liesBeyond := ⟨by decide +kernel, Or.inr (xmem_of (by decide +kernel)), by decide +kernel, xFok_of FX6_ok⟩
def DX7_init : List (Nat × Instr × Nat) := [(0, .aload_n 0, 1), (1, .invokespecial 1, 3), (4, .aload_n 0, 1), (5, .sipush 264, 3), (8, .newarray .int, 2), (10, .putfield 7, 3), (13, .aload_n 0, 1), (14, .bipush 64, 2), (16, .newarray .int, 2), (18, .putfield 13, 3), (21, .aload_n 0, 1), (22, .sipush 1312, 3), (25, .newarray .int, 2), (27, .putfield 16, 3), (30, .aload_n 0, 1), (31, .iconst 4, 1), (32, .newarray .boolean, 2), (34, .putfield 19, 3), (37, .aload_n 0, 1), (38, .sipush 1024, 3), (41, .newarray .int, 2), (43, .putfield 23, 3), (46, .aload_n 0, 1), (47, .sipush 16384, 3), (50, .newarray .boolean, 2), (52, .putfield 26, 3), (55, .aload_n 0, 1), (56, .sipush 16384, 3), (59, .newarray .boolean, 2), (61, .putfield 29, 3), (64, .aload_n 0, 1), (65, .sipush 128, 3), (68, .newarray .int, 2), (70, .putfield 32, 3), (73, .aload_n 0, 1), (74, .bipush 96, 2), (76, .newarray .int, 2), (78, .putfield 35, 3), (81, .aload_n 0, 1), (82, .sipush 768, 3), (85, .newarray .int, 2), (87, .putfield 38, 3), (90, .aload_n 0, 1), (91, .sipush 8192, 3), (94, .newarray .int, 2), (96, .putfield 41, 3), (99, .aload_n 0, 1), (100, .sipush 8192, 3), (103, .newarray .int, 2), (105, .putfield 44, 3), (108, .aload_n 0, 1), (109, .sipush 8192, 3), (112, .newarray .int, 2), (114, .putfield 47, 3), (117, .aload_n 0, 1), (118, .bipush 6, 2), (120, .newarray .int, 2), (122, .putfield 50, 3), (125, .aload_n 0, 1), (126, .bipush 24, 2), (128, .newarray .int, 2), (130, .putfield 53, 3), (133, .iconst 0, 1), (134, .istore_n 1, 1), (135, .iload_n 1, 1), (136, .bipush 64, 2), (138, .if_icmp .ge 18, 3), (141, .aload_n 0, 1), (142, .getfield 13, 3), (145, .iload_n 1, 1), (146, .sipush 21845, 3), (149, .iastore, 1), (150, .iinc 1 1, 3), (153, .goto (-18), 3), (156, .iconst 0, 1), (157, .istore_n 1, 1), (158, .iload_n 1, 1), (159, .sipush 8192, 3), (162, .if_icmp .ge 23, 3), (165, .aload_n 0, 1), (166, .getfield 41, 3), (169, .iload_n 1, 1), (170, .iconst (-1), 1), (171, .iastore, 1), (172, .aload_n 0, 1), (173, .getfield 44, 3), (176, .iload_n 1, 1), (177, .iconst (-1), 1), (178, .iastore, 1), (179, .iinc 1 1, 3), (182, .goto (-24), 3), (185, .return_, 1)]
def mX7_init : xM := (yX7_init, cX7_init, 2, none, DX7_init, [135, 158], FX7)
theorem kX7_init : xOK mX7_init := ⟨by decide +kernel, Or.inr (xmem_of (by decide +kernel)), by decide +kernel, xFok_of FX7_ok⟩
def DX7_in : List (Nat × Instr × Nat) := [(0, .iload_n 0, 1), (1, .ifCond .lt 12, 3), (4, .iload_n 0, 1), (5, .iload_n 1, 1), (6, .if_icmp .ge 7, 3), (9, .iconst 1, 1), (10, .goto 4, 3), (13, .iconst 0, 1), (14, .ireturn, 1)]
def mX7_in : xM := (yX7_in, cX7_in, 2, some .boolean, DX7_in, [], FX7)
theorem kX7_in : xOK mX7_in := ⟨by decide +kernel, Or.inr (xmem_of (by decide +kernel)), by decide +kernel, xFok_of FX7_ok⟩
def DX7_isThere : List (Nat × Instr × Nat) := [(0, .iload_n 1, 1), (1, .bipush 24, 2), (3, .invokestatic 56, 3), (6, .ifCond .eq 20, 3), (9, .aload_n 0, 1), (10, .getfield 7, 3), (13, .bipush 11, 2), (15, .iload_n 1, 1), (16, .imul, 1), (17, .iaload, 1), (18, .iconst 1, 1), (19, .if_icmp .ne 7, 3), (22, .iconst 1, 1), (23, .goto 4, 3), (26, .iconst 0, 1), (27, .ireturn, 1)]
def mX7_isThere : xM := (yX7_isThere, cX7_isThere, 2, some .boolean, DX7_isThere, [], FX7)
theorem kX7_isThere : xOK mX7_isThere := ⟨by decide +kernel, Or.inr (xmem_of (by decide +kernel)), by decide +kernel, xFok_of FX7_ok⟩
def DX7_alongX : List (Nat × Instr × Nat) := [(0, .iconst 2, 1), (1, .iload_n 0, 1), (2, .bipush 64, 2), (4, .idiv, 1), (5, .bipush 64, 2), (7, .isub, 1), (8, .imul, 1), (9, .iconst 2, 1), (10, .iload_n 0, 1), (11, .bipush 64, 2), (13, .irem, 1), (14, .bipush 32, 2), (16, .isub, 1), (17, .imul, 1), (18, .iadd, 1), (19, .iconst 1, 1), (20, .iadd, 1), (21, .ireturn, 1)]
def mX7_alongX : xM := (yX7_alongX, cX7_alongX, 1, some .int, DX7_alongX, [], FX7)
theorem kX7_alongX : xOK mX7_alongX := ⟨by decide +kernel, Or.inr (xmem_of (by decide +kernel)), by decide +kernel, xFok_of FX7_ok⟩
def DX7_alongY : List (Nat × Instr × Nat) := [(0, .iconst 2, 1), (1, .iload_n 0, 1), (2, .bipush 64, 2), (4, .idiv, 1), (5, .bipush 64, 2), (7, .isub, 1), (8, .imul, 1), (9, .iconst 2, 1), (10, .iload_n 0, 1), (11, .bipush 64, 2), (13, .irem, 1), (14, .bipush 32, 2), (16, .isub, 1), (17, .imul, 1), (18, .isub, 1), (19, .iconst 1, 1), (20, .isub, 1), (21, .ireturn, 1)]
def mX7_alongY : xM := (yX7_alongY, cX7_alongY, 1, some .int, DX7_alongY, [], FX7)
theorem kX7_alongY : xOK mX7_alongY := ⟨by decide +kernel, Or.inr (xmem_of (by decide +kernel)), by decide +kernel, xFok_of FX7_ok⟩
def DX7_pixelOf : List (Nat × Instr × Nat) := [(0, .iload_n 0, 1), (1, .bipush 32, 2), (3, .iadd, 1), (4, .bipush 64, 2), (6, .invokestatic 56, 3), (9, .ifCond .eq 31, 3), (12, .iload_n 1, 1), (13, .bipush 64, 2), (15, .iadd, 1), (16, .sipush 128, 3), (19, .invokestatic 56, 3), (22, .ifCond .eq 18, 3), (25, .bipush 64, 2), (27, .iload_n 1, 1), (28, .bipush 64, 2), (30, .iadd, 1), (31, .imul, 1), (32, .iload_n 0, 1), (33, .iadd, 1), (34, .bipush 32, 2), (36, .iadd, 1), (37, .goto 4, 3), (40, .iconst (-1), 1), (41, .ireturn, 1)]
def mX7_pixelOf : xM := (yX7_pixelOf, cX7_pixelOf, 2, some .int, DX7_pixelOf, [], FX7)
theorem kX7_pixelOf : xOK mX7_pixelOf := ⟨by decide +kernel, Or.inr (xmem_of (by decide +kernel)), by decide +kernel, xFok_of FX7_ok⟩
def DX7_greater : List (Nat × Instr × Nat) := [(0, .iload_n 0, 1), (1, .iload_n 1, 1), (2, .if_icmp .le 7, 3), (5, .iload_n 0, 1), (6, .goto 4, 3), (9, .iload_n 1, 1), (10, .ireturn, 1)]
def mX7_greater : xM := (yX7_greater, cX7_greater, 2, some .int, DX7_greater, [], FX7)
theorem kX7_greater : xOK mX7_greater := ⟨by decide +kernel, Or.inr (xmem_of (by decide +kernel)), by decide +kernel, xFok_of FX7_ok⟩
def DX7_exit : List (Nat × Instr × Nat) := [(0, .iconst 4, 1), (1, .aload_n 0, 1), (2, .iload_n 1, 1), (3, .iaload, 1), (4, .imul, 1), (5, .iload_n 2, 1), (6, .isub, 1), (7, .iconst 4, 1), (8, .aload_n 0, 1), (9, .iload_n 1, 1), (10, .iconst 2, 1), (11, .iadd, 1), (12, .iaload, 1), (13, .imul, 1), (14, .iload_n 3, 1), (15, .isub, 1), (16, .iconst 4, 1), (17, .aload_n 0, 1), (18, .iload_n 1, 1), (19, .iconst 4, 1), (20, .iadd, 1), (21, .iaload, 1), (22, .imul, 1), (23, .invokestatic 60, 3), (26, .invokestatic 60, 3), (29, .istore 4, 2), (31, .iload_n 2, 1), (32, .iconst 4, 1), (33, .aload_n 0, 1), (34, .iload_n 1, 1), (35, .iconst 1, 1), (36, .iadd, 1), (37, .iaload, 1), (38, .imul, 1), (39, .isub, 1), (40, .iload_n 3, 1), (41, .iconst 4, 1), (42, .aload_n 0, 1), (43, .iload_n 1, 1), (44, .iconst 3, 1), (45, .iadd, 1), (46, .iaload, 1), (47, .imul, 1), (48, .isub, 1), (49, .bipush (-4), 2), (51, .aload_n 0, 1), (52, .iload_n 1, 1), (53, .iconst 5, 1), (54, .iadd, 1), (55, .iaload, 1), (56, .imul, 1), (57, .invokestatic 60, 3), (60, .invokestatic 60, 3), (63, .ineg, 1), (64, .istore 5, 2), (66, .iload 4, 2), (68, .iload 5, 2), (70, .if_icmp .ge 8, 3), (73, .iload 5, 2), (75, .goto 4, 3), (78, .iconst 0, 1), (79, .ireturn, 1)]
def mX7_exit : xM := (yX7_exit, cX7_exit, 6, some .int, DX7_exit, [], FX7)
theorem kX7_exit : xOK mX7_exit := ⟨by decide +kernel, Or.inr (xmem_of (by decide +kernel)), by decide +kernel, xFok_of FX7_ok⟩
def DX7_exitOf : List (Nat × Instr × Nat) := [(0, .aload_n 0, 1), (1, .iload_n 1, 1), (2, .invokevirtual 64, 3), (5, .ifCond .eq 27, 3), (8, .aload_n 0, 1), (9, .getfield 7, 3), (12, .bipush 11, 2), (14, .iload_n 1, 1), (15, .imul, 1), (16, .iconst 1, 1), (17, .iadd, 1), (18, .iload_n 2, 1), (19, .invokestatic 68, 3), (22, .iload_n 2, 1), (23, .invokestatic 72, 3), (26, .invokestatic 75, 3), (29, .goto 4, 3), (32, .iconst 0, 1), (33, .ireturn, 1)]
def mX7_exitOf : xM := (yX7_exitOf, cX7_exitOf, 3, some .int, DX7_exitOf, [], FX7)
theorem kX7_exitOf : xOK mX7_exitOf := ⟨by decide +kernel, Or.inr (xmem_of (by decide +kernel)), by decide +kernel, xFok_of FX7_ok⟩
def DX7_faceOf : List (Nat × Instr × Nat) := [(0, .iload_n 3, 1), (1, .iconst 4, 1), (2, .aload_n 0, 1), (3, .getfield 7, 3), (6, .bipush 11, 2), (8, .iload_n 1, 1), (9, .imul, 1), (10, .iconst 2, 1), (11, .iadd, 1), (12, .iaload, 1), (13, .imul, 1), (14, .iload_n 2, 1), (15, .invokestatic 68, 3), (18, .isub, 1), (19, .if_icmp .ne 5, 3), (22, .iconst 0, 1), (23, .ireturn, 1), (24, .iload_n 3, 1), (25, .iconst 4, 1), (26, .aload_n 0, 1), (27, .getfield 7, 3), (30, .bipush 11, 2), (32, .iload_n 1, 1), (33, .imul, 1), (34, .iconst 4, 1), (35, .iadd, 1), (36, .iaload, 1), (37, .imul, 1), (38, .iload_n 2, 1), (39, .invokestatic 72, 3), (42, .isub, 1), (43, .if_icmp .ne 7, 3), (46, .iconst 1, 1), (47, .goto 4, 3), (50, .iconst 2, 1), (51, .ireturn, 1)]
def mX7_faceOf : xM := (yX7_faceOf, cX7_faceOf, 4, some .int, DX7_faceOf, [], FX7)
theorem kX7_faceOf : xOK mX7_faceOf := ⟨by decide +kernel, Or.inr (xmem_of (by decide +kernel)), by decide +kernel, xFok_of FX7_ok⟩
def DX7_inkOf : List (Nat × Instr × Nat) := [(0, .aload_n 0, 1), (1, .iload_n 1, 1), (2, .iload_n 2, 1), (3, .iload_n 3, 1), (4, .invokevirtual 79, 3), (7, .istore 4, 2), (9, .iload_n 3, 1), (10, .iload_n 2, 1), (11, .invokestatic 68, 3), (14, .iadd, 1), (15, .iconst 4, 1), (16, .idiv, 1), (17, .bipush 8, 2), (19, .irem, 1), (20, .istore 5, 2), (22, .iload_n 3, 1), (23, .iload_n 2, 1), (24, .invokestatic 72, 3), (27, .iadd, 1), (28, .iconst 4, 1), (29, .idiv, 1), (30, .bipush 8, 2), (32, .irem, 1), (33, .istore 6, 2), (35, .iload_n 3, 1), (36, .iconst 4, 1), (37, .idiv, 1), (38, .bipush 8, 2), (40, .irem, 1), (41, .istore 7, 2), (43, .iload 4, 2), (45, .iconst 2, 1), (46, .if_icmp .ne 8, 3), (49, .iload 6, 2), (51, .goto 5, 3), (54, .iload 7, 2), (56, .istore 8, 2), (58, .iload 4, 2), (60, .ifCond .ne 8, 3), (63, .iload 6, 2), (65, .goto 5, 3), (68, .iload 5, 2), (70, .istore 9, 2), (72, .aload_n 0, 1), (73, .getfield 13, 3), (76, .bipush 8, 2), (78, .aload_n 0, 1), (79, .getfield 7, 3), (82, .bipush 11, 2), (84, .iload_n 1, 1), (85, .imul, 1), (86, .bipush 8, 2), (88, .iadd, 1), (89, .iload 4, 2), (91, .iadd, 1), (92, .iaload, 1), (93, .imul, 1), (94, .iload 8, 2), (96, .iadd, 1), (97, .iaload, 1), (98, .iconst 2, 1), (99, .iload 9, 2), (101, .imul, 1), (102, .ishr, 1), (103, .iconst 3, 1), (104, .iand, 1), (105, .ireturn, 1)]
def mX7_inkOf : xM := (yX7_inkOf, cX7_inkOf, 10, some .int, DX7_inkOf, [], FX7)
theorem kX7_inkOf : xOK mX7_inkOf := ⟨by decide +kernel, Or.inr (xmem_of (by decide +kernel)), by decide +kernel, xFok_of FX7_ok⟩
def DX7_lies : List (Nat × Instr × Nat) := [(0, .iload_n 0, 1), (1, .ifCond .lt 25, 3), (4, .iload_n 0, 1), (5, .bipush 32, 2), (7, .if_icmp .ge 19, 3), (10, .iload_n 1, 1), (11, .ifCond .le 15, 3), (14, .iload_n 1, 1), (15, .bipush 32, 2), (17, .iload_n 0, 1), (18, .isub, 1), (19, .if_icmp .gt 7, 3), (22, .iconst 1, 1), (23, .goto 4, 3), (26, .iconst 0, 1), (27, .ireturn, 1)]
def mX7_lies : xM := (yX7_lies, cX7_lies, 2, some .boolean, DX7_lies, [], FX7)
theorem kX7_lies : xOK mX7_lies := ⟨by decide +kernel, Or.inr (xmem_of (by decide +kernel)), by decide +kernel, xFok_of FX7_ok⟩
def DX7_meets : List (Nat × Instr × Nat) := [(0, .iconst 0, 1), (1, .istore_n 3, 1), (2, .iload_n 3, 1), (3, .bipush 24, 2), (5, .if_icmp .ge 107, 3), (8, .iload_n 3, 1), (9, .iload_n 1, 1), (10, .if_icmp .eq 96, 3), (13, .aload_n 0, 1), (14, .iload_n 3, 1), (15, .invokevirtual 64, 3), (18, .ifCond .ne 6, 3), (21, .goto 85, 3), (24, .iconst 1, 1), (25, .istore 4, 2), (27, .iconst 0, 1), (28, .istore 5, 2), (30, .iload 5, 2), (32, .bipush 6, 2), (34, .if_icmp .ge 65, 3), (37, .iload 4, 2), (39, .ifCond .eq 51, 3), (42, .aload_n 2, 1), (43, .iload 5, 2), (45, .iaload, 1), (46, .aload_n 0, 1), (47, .getfield 7, 3), (50, .bipush 11, 2), (52, .iload_n 3, 1), (53, .imul, 1), (54, .iconst 2, 1), (55, .iadd, 1), (56, .iload 5, 2), (58, .iadd, 1), (59, .iaload, 1), (60, .if_icmp .ge 30, 3), (63, .aload_n 0, 1), (64, .getfield 7, 3), (67, .bipush 11, 2), (69, .iload_n 3, 1), (70, .imul, 1), (71, .iconst 1, 1), (72, .iadd, 1), (73, .iload 5, 2), (75, .iadd, 1), (76, .iaload, 1), (77, .aload_n 2, 1), (78, .iload 5, 2), (80, .iconst 1, 1), (81, .iadd, 1), (82, .iaload, 1), (83, .if_icmp .ge 7, 3), (86, .iconst 1, 1), (87, .goto 4, 3), (90, .iconst 0, 1), (91, .istore 4, 2), (93, .iinc 5 2, 3), (96, .goto (-66), 3), (99, .iload 4, 2), (101, .ifCond .eq 5, 3), (104, .iload_n 3, 1), (105, .ireturn, 1), (106, .iinc 3 1, 3), (109, .goto (-107), 3), (112, .iconst (-1), 1), (113, .ireturn, 1)]
def mX7_meets : xM := (yX7_meets, cX7_meets, 6, some .int, DX7_meets, [2, 30], FX7)
theorem kX7_meets : xOK mX7_meets := ⟨by decide +kernel, Or.inr (xmem_of (by decide +kernel)), by decide +kernel, xFok_of FX7_ok⟩
def DX7_place : List (Nat × Instr × Nat) := [(0, .iload_n 1, 1), (1, .bipush 24, 2), (3, .invokestatic 56, 3), (6, .ifCond .eq 31, 3), (9, .iload_n 2, 1), (10, .iload 5, 2), (12, .invokestatic 83, 3), (15, .ifCond .eq 22, 3), (18, .iload_n 3, 1), (19, .iload 6, 2), (21, .invokestatic 83, 3), (24, .ifCond .eq 13, 3), (27, .iload 4, 2), (29, .iload 7, 2), (31, .invokestatic 83, 3), (34, .ifCond .ne 5, 3), (37, .iconst 1, 1), (38, .ireturn, 1), (39, .aload_n 0, 1), (40, .getfield 50, 3), (43, .iconst 0, 1), (44, .iload_n 2, 1), (45, .iastore, 1), (46, .aload_n 0, 1), (47, .getfield 50, 3), (50, .iconst 1, 1), (51, .iload_n 2, 1), (52, .iload 5, 2), (54, .iadd, 1), (55, .iastore, 1), (56, .aload_n 0, 1), (57, .getfield 50, 3), (60, .iconst 2, 1), (61, .iload_n 3, 1), (62, .iastore, 1), (63, .aload_n 0, 1), (64, .getfield 50, 3), (67, .iconst 3, 1), (68, .iload_n 3, 1), (69, .iload 6, 2), (71, .iadd, 1), (72, .iastore, 1), (73, .aload_n 0, 1), (74, .getfield 50, 3), (77, .iconst 4, 1), (78, .iload 4, 2), (80, .iastore, 1), (81, .aload_n 0, 1), (82, .getfield 50, 3), (85, .iconst 5, 1), (86, .iload 4, 2), (88, .iload 7, 2), (90, .iadd, 1), (91, .iastore, 1), (92, .aload_n 0, 1), (93, .iload_n 1, 1), (94, .aload_n 0, 1), (95, .getfield 50, 3), (98, .invokevirtual 86, 3), (101, .istore 8, 2), (103, .iload 8, 2), (105, .iconst (-1), 1), (106, .if_icmp .eq 11, 3), (109, .iconst 2, 1), (110, .bipush 8, 2), (112, .iload 8, 2), (114, .imul, 1), (115, .iadd, 1), (116, .ireturn, 1), (117, .aload_n 0, 1), (118, .iload_n 1, 1), (119, .invokevirtual 64, 3), (122, .ifCond .ne 33, 3), (125, .bipush 7, 2), (127, .istore 9, 2), (129, .iload 9, 2), (131, .bipush 11, 2), (133, .if_icmp .ge 22, 3), (136, .aload_n 0, 1), (137, .getfield 7, 3), (140, .bipush 11, 2), (142, .iload_n 1, 1), (143, .imul, 1), (144, .iload 9, 2), (146, .iadd, 1), (147, .iconst 0, 1), (148, .iastore, 1), (149, .iinc 9 1, 3), (152, .goto (-23), 3), (155, .aload_n 0, 1), (156, .getfield 7, 3), (159, .bipush 11, 2), (161, .iload_n 1, 1), (162, .imul, 1), (163, .iconst 1, 1), (164, .iastore, 1), (165, .iconst 0, 1), (166, .istore 9, 2), (168, .iload 9, 2), (170, .bipush 6, 2), (172, .if_icmp .ge 30, 3), (175, .aload_n 0, 1), (176, .getfield 7, 3), (179, .bipush 11, 2), (181, .iload_n 1, 1), (182, .imul, 1), (183, .iconst 1, 1), (184, .iadd, 1), (185, .iload 9, 2), (187, .iadd, 1), (188, .aload_n 0, 1), (189, .getfield 50, 3), (192, .iload 9, 2), (194, .iaload, 1), (195, .iastore, 1), (196, .iinc 9 1, 3), (199, .goto (-31), 3), (202, .iconst 0, 1), (203, .ireturn, 1)]
def mX7_place : xM := (yX7_place, cX7_place, 10, some .int, DX7_place, [129, 168], FX7)
theorem kX7_place : xOK mX7_place := ⟨by decide +kernel, Or.inr (xmem_of (by decide +kernel)), by decide +kernel, xFok_of FX7_ok⟩
def DX7_lift : List (Nat × Instr × Nat) := [(0, .aload_n 0, 1), (1, .iload_n 1, 1), (2, .invokevirtual 64, 3), (5, .ifCond .ne 5, 3), (8, .iconst 0, 1), (9, .ireturn, 1), (10, .aload_n 0, 1), (11, .getfield 7, 3), (14, .bipush 11, 2), (16, .iload_n 1, 1), (17, .imul, 1), (18, .iconst 0, 1), (19, .iastore, 1), (20, .iconst 1, 1), (21, .ireturn, 1)]
def mX7_lift : xM := (yX7_lift, cX7_lift, 2, some .boolean, DX7_lift, [], FX7)
theorem kX7_lift : xOK mX7_lift := ⟨by decide +kernel, Or.inr (xmem_of (by decide +kernel)), by decide +kernel, xFok_of FX7_ok⟩
def DX7_paint : List (Nat × Instr × Nat) := [(0, .aload_n 0, 1), (1, .iload_n 1, 1), (2, .invokevirtual 64, 3), (5, .ifCond .eq 41, 3), (8, .iload_n 2, 1), (9, .bipush 16, 2), (11, .invokestatic 56, 3), (14, .ifCond .eq 32, 3), (17, .iload_n 3, 1), (18, .bipush 8, 2), (20, .invokestatic 56, 3), (23, .ifCond .eq 23, 3), (26, .iload 4, 2), (28, .bipush 8, 2), (30, .invokestatic 56, 3), (33, .ifCond .eq 13, 3), (36, .iload 5, 2), (38, .bipush 8, 2), (40, .invokestatic 56, 3), (43, .ifCond .ne 5, 3), (46, .iconst 0, 1), (47, .ireturn, 1), (48, .aload_n 0, 1), (49, .getfield 7, 3), (52, .bipush 11, 2), (54, .iload_n 1, 1), (55, .imul, 1), (56, .bipush 7, 2), (58, .iadd, 1), (59, .iload_n 2, 1), (60, .iastore, 1), (61, .aload_n 0, 1), (62, .getfield 7, 3), (65, .bipush 11, 2), (67, .iload_n 1, 1), (68, .imul, 1), (69, .bipush 8, 2), (71, .iadd, 1), (72, .iload_n 3, 1), (73, .iastore, 1), (74, .aload_n 0, 1), (75, .getfield 7, 3), (78, .bipush 11, 2), (80, .iload_n 1, 1), (81, .imul, 1), (82, .bipush 9, 2), (84, .iadd, 1), (85, .iload 4, 2), (87, .iastore, 1), (88, .aload_n 0, 1), (89, .getfield 7, 3), (92, .bipush 11, 2), (94, .iload_n 1, 1), (95, .imul, 1), (96, .bipush 10, 2), (98, .iadd, 1), (99, .iload 5, 2), (101, .iastore, 1), (102, .iconst 1, 1), (103, .ireturn, 1)]
def mX7_paint : xM := (yX7_paint, cX7_paint, 6, some .boolean, DX7_paint, [], FX7)
theorem kX7_paint : xOK mX7_paint := ⟨by decide +kernel, Or.inr (xmem_of (by decide +kernel)), by decide +kernel, xFok_of FX7_ok⟩
def DX7_ink : List (Nat × Instr × Nat) := [(0, .iload_n 1, 1), (1, .bipush 8, 2), (3, .invokestatic 56, 3), (6, .ifCond .eq 12, 3), (9, .iload_n 2, 1), (10, .bipush 8, 2), (12, .invokestatic 56, 3), (15, .ifCond .ne 5, 3), (18, .iconst 0, 1), (19, .ireturn, 1), (20, .aload_n 0, 1), (21, .getfield 13, 3), (24, .bipush 8, 2), (26, .iload_n 1, 1), (27, .imul, 1), (28, .iload_n 2, 1), (29, .iadd, 1), (30, .iload_n 3, 1), (31, .ldc 90, 2), (33, .iand, 1), (34, .iastore, 1), (35, .iconst 1, 1), (36, .ireturn, 1)]
def mX7_ink : xM := (yX7_ink, cX7_ink, 4, some .boolean, DX7_ink, [], FX7)
theorem kX7_ink : xOK mX7_ink := ⟨by decide +kernel, Or.inr (xmem_of (by decide +kernel)), by decide +kernel, xFok_of FX7_ok⟩
def DX7_goes : List (Nat × Instr × Nat) := [(0, .iload_n 2, 1), (1, .iconst 3, 1), (2, .if_icmp .ge 7, 3), (5, .iconst 1, 1), (6, .goto 4, 3), (9, .iconst (-1), 1), (10, .istore_n 3, 1), (11, .iconst 0, 1), (12, .istore 4, 2), (14, .iload 4, 2), (16, .bipush 6, 2), (18, .if_icmp .ge 46, 3), (21, .aload_n 0, 1), (22, .getfield 50, 3), (25, .iload 4, 2), (27, .aload_n 0, 1), (28, .getfield 7, 3), (31, .bipush 11, 2), (33, .iload_n 1, 1), (34, .imul, 1), (35, .iconst 1, 1), (36, .iadd, 1), (37, .iload 4, 2), (39, .iadd, 1), (40, .iaload, 1), (41, .iload 4, 2), (43, .iconst 2, 1), (44, .idiv, 1), (45, .iload_n 2, 1), (46, .iconst 3, 1), (47, .irem, 1), (48, .if_icmp .ne 7, 3), (51, .iload_n 3, 1), (52, .goto 4, 3), (55, .iconst 0, 1), (56, .iadd, 1), (57, .iastore, 1), (58, .iinc 4 1, 3), (61, .goto (-47), 3), (64, .aload_n 0, 1), (65, .getfield 50, 3), (68, .iload_n 2, 1), (69, .iconst 3, 1), (70, .irem, 1), (71, .iconst 2, 1), (72, .imul, 1), (73, .iaload, 1), (74, .istore 4, 2), (76, .aload_n 0, 1), (77, .getfield 50, 3), (80, .iload_n 2, 1), (81, .iconst 3, 1), (82, .irem, 1), (83, .iconst 2, 1), (84, .imul, 1), (85, .iconst 1, 1), (86, .iadd, 1), (87, .iaload, 1), (88, .istore 5, 2), (90, .iload 4, 2), (92, .ifCond .lt 23, 3), (95, .iload 5, 2), (97, .bipush 32, 2), (99, .if_icmp .gt 16, 3), (102, .aload_n 0, 1), (103, .iload_n 1, 1), (104, .aload_n 0, 1), (105, .getfield 50, 3), (108, .invokevirtual 86, 3), (111, .iconst (-1), 1), (112, .if_icmp .eq 5, 3), (115, .iconst 0, 1), (116, .ireturn, 1), (117, .iconst 0, 1), (118, .istore 6, 2), (120, .iload 6, 2), (122, .bipush 6, 2), (124, .if_icmp .ge 30, 3), (127, .aload_n 0, 1), (128, .getfield 7, 3), (131, .bipush 11, 2), (133, .iload_n 1, 1), (134, .imul, 1), (135, .iconst 1, 1), (136, .iadd, 1), (137, .iload 6, 2), (139, .iadd, 1), (140, .aload_n 0, 1), (141, .getfield 50, 3), (144, .iload 6, 2), (146, .iaload, 1), (147, .iastore, 1), (148, .iinc 6 1, 3), (151, .goto (-31), 3), (154, .iconst 1, 1), (155, .ireturn, 1)]
def mX7_goes : xM := (yX7_goes, cX7_goes, 7, some .boolean, DX7_goes, [14, 120], FX7)
theorem kX7_goes : xOK mX7_goes := ⟨by decide +kernel, Or.inr (xmem_of (by decide +kernel)), by decide +kernel, xFok_of FX7_ok⟩
def DX7_slide : List (Nat × Instr × Nat) := [(0, .aload_n 0, 1), (1, .iload_n 1, 1), (2, .invokevirtual 64, 3), (5, .ifCond .eq 21, 3), (8, .iload_n 2, 1), (9, .bipush 6, 2), (11, .invokestatic 56, 3), (14, .ifCond .eq 12, 3), (17, .iload_n 3, 1), (18, .bipush 33, 2), (20, .invokestatic 56, 3), (23, .ifCond .ne 5, 3), (26, .iconst (-1), 1), (27, .ireturn, 1), (28, .iconst 0, 1), (29, .istore 4, 2), (31, .iload 4, 2), (33, .iload_n 3, 1), (34, .if_icmp .ge 18, 3), (37, .aload_n 0, 1), (38, .iload_n 1, 1), (39, .iload_n 2, 1), (40, .invokevirtual 91, 3), (43, .ifCond .eq 9, 3), (46, .iinc 4 1, 3), (49, .goto (-18), 3), (52, .iload 4, 2), (54, .ireturn, 1)]
def mX7_slide : xM := (yX7_slide, cX7_slide, 5, some .int, DX7_slide, [31], FX7)
theorem kX7_slide : xOK mX7_slide := ⟨by decide +kernel, Or.inr (xmem_of (by decide +kernel)), by decide +kernel, xFok_of FX7_ok⟩
def DX7_drop : List (Nat × Instr × Nat) := [(0, .iconst 0, 1), (1, .istore_n 1, 1), (2, .iconst 0, 1), (3, .istore_n 2, 1), (4, .iload_n 2, 1), (5, .bipush 24, 2), (7, .if_icmp .ge 38, 3), (10, .aload_n 0, 1), (11, .getfield 53, 3), (14, .iload_n 2, 1), (15, .aload_n 0, 1), (16, .iload_n 2, 1), (17, .invokevirtual 64, 3), (20, .ifCond .eq 17, 3), (23, .aload_n 0, 1), (24, .getfield 7, 3), (27, .bipush 11, 2), (29, .iload_n 2, 1), (30, .imul, 1), (31, .iconst 5, 1), (32, .iadd, 1), (33, .iaload, 1), (34, .goto 4, 3), (37, .iconst (-1), 1), (38, .iastore, 1), (39, .iinc 2 1, 3), (42, .goto (-38), 3), (45, .iconst 0, 1), (46, .istore_n 2, 1), (47, .iload_n 2, 1), (48, .bipush 32, 2), (50, .if_icmp .ge 48, 3), (53, .iconst 0, 1), (54, .istore_n 3, 1), (55, .iload_n 3, 1), (56, .bipush 24, 2), (58, .if_icmp .ge 34, 3), (61, .iload_n 1, 1), (62, .aload_n 0, 1), (63, .getfield 53, 3), (66, .iload_n 3, 1), (67, .iaload, 1), (68, .iload_n 2, 1), (69, .if_icmp .ne 14, 3), (72, .aload_n 0, 1), (73, .iload_n 3, 1), (74, .iconst 5, 1), (75, .bipush 32, 2), (77, .invokevirtual 94, 3), (80, .goto 4, 3), (83, .iconst 0, 1), (84, .iadd, 1), (85, .istore_n 1, 1), (86, .iinc 3 1, 3), (89, .goto (-34), 3), (92, .iinc 2 1, 3), (95, .goto (-48), 3), (98, .iload_n 1, 1), (99, .ireturn, 1)]
def mX7_drop : xM := (yX7_drop, cX7_drop, 4, some .int, DX7_drop, [4, 47, 55], FX7)
theorem kX7_drop : xOK mX7_drop := ⟨by decide +kernel, Or.inr (xmem_of (by decide +kernel)), by decide +kernel, xFok_of FX7_ok⟩
def DX7_gather : List (Nat × Instr × Nat) := [(0, .iconst 0, 1), (1, .istore_n 3, 1), (2, .iload_n 3, 1), (3, .sipush 8192, 3), (6, .if_icmp .ge 189, 3), (9, .iload_n 3, 1), (10, .invokestatic 68, 3), (13, .istore 4, 2), (15, .iload_n 3, 1), (16, .invokestatic 72, 3), (19, .istore 5, 2), (21, .iload_n 1, 1), (22, .iconst (-1), 1), (23, .if_icmp .ne 7, 3), (26, .iconst 1, 1), (27, .goto 4, 3), (30, .iconst 0, 1), (31, .istore 6, 2), (33, .iload 6, 2), (35, .ifCond .eq 7, 3), (38, .iconst 0, 1), (39, .goto 20, 3), (42, .aload_n 0, 1), (43, .getfield 23, 3), (46, .bipush 8, 2), (48, .iload_n 1, 1), (49, .imul, 1), (50, .iconst 1, 1), (51, .iadd, 1), (52, .iload 4, 2), (54, .iload 5, 2), (56, .invokestatic 75, 3), (59, .istore 7, 2), (61, .iload 6, 2), (63, .ifCond .eq 7, 3), (66, .iconst 0, 1), (67, .goto 20, 3), (70, .aload_n 0, 1), (71, .getfield 23, 3), (74, .bipush 8, 2), (76, .iload_n 2, 1), (77, .imul, 1), (78, .iconst 1, 1), (79, .iadd, 1), (80, .iload 4, 2), (82, .iload 5, 2), (84, .invokestatic 75, 3), (87, .istore 8, 2), (89, .iload 6, 2), (91, .ifCond .ne 16, 3), (94, .iload 7, 2), (96, .ifCond .ne 11, 3), (99, .iload 8, 2), (101, .ifCond .ne 6, 3), (104, .goto 85, 3), (107, .iconst 0, 1), (108, .istore 9, 2), (110, .iload 9, 2), (112, .sipush 128, 3), (115, .if_icmp .ge 52, 3), (118, .aload_n 0, 1), (119, .getfield 32, 3), (122, .iload 9, 2), (124, .aload_n 0, 1), (125, .getfield 23, 3), (128, .bipush 8, 2), (130, .iload 9, 2), (132, .imul, 1), (133, .iaload, 1), (134, .iconst (-1), 1), (135, .if_icmp .ne 7, 3), (138, .iconst 0, 1), (139, .goto 21, 3), (142, .aload_n 0, 1), (143, .getfield 23, 3), (146, .bipush 8, 2), (148, .iload 9, 2), (150, .imul, 1), (151, .iconst 1, 1), (152, .iadd, 1), (153, .iload 4, 2), (155, .iload 5, 2), (157, .invokestatic 75, 3), (160, .iastore, 1), (161, .iinc 9 1, 3), (164, .goto (-54), 3), (167, .iload 6, 2), (169, .ifCond .eq 10, 3), (172, .aload_n 0, 1), (173, .invokevirtual 97, 3), (176, .goto 13, 3), (179, .aload_n 0, 1), (180, .iload_n 1, 1), (181, .invokevirtual 100, 3), (184, .aload_n 0, 1), (185, .iload_n 2, 1), (186, .invokevirtual 100, 3), (189, .iinc 3 1, 3), (192, .goto (-190), 3), (195, .return_, 1)]
def mX7_gather : xM := (yX7_gather, cX7_gather, 10, none, DX7_gather, [2, 110], FX7)
theorem kX7_gather : xOK mX7_gather := ⟨by decide +kernel, Or.inr (xmem_of (by decide +kernel)), by decide +kernel, xFok_of FX7_ok⟩
def DX7_pairs : List (Nat × Instr × Nat) := [(0, .iconst 0, 1), (1, .istore_n 1, 1), (2, .iload_n 1, 1), (3, .sipush 128, 3), (6, .if_icmp .ge 23, 3), (9, .aload_n 0, 1), (10, .getfield 32, 3), (13, .iload_n 1, 1), (14, .iaload, 1), (15, .ifCond .le 8, 3), (18, .aload_n 0, 1), (19, .iload_n 1, 1), (20, .invokevirtual 100, 3), (23, .iinc 1 1, 3), (26, .goto (-24), 3), (29, .return_, 1)]
def mX7_pairs : xM := (yX7_pairs, cX7_pairs, 2, none, DX7_pairs, [2], FX7)
theorem kX7_pairs : xOK mX7_pairs := ⟨by decide +kernel, Or.inr (xmem_of (by decide +kernel)), by decide +kernel, xFok_of FX7_ok⟩
def DX7_with : List (Nat × Instr × Nat) := [(0, .iconst 0, 1), (1, .istore_n 2, 1), (2, .iload_n 2, 1), (3, .sipush 128, 3), (6, .if_icmp .ge 79, 3), (9, .aload_n 0, 1), (10, .getfield 32, 3), (13, .iload_n 1, 1), (14, .iaload, 1), (15, .ifCond .le 70, 3), (18, .aload_n 0, 1), (19, .getfield 32, 3), (22, .iload_n 2, 1), (23, .iaload, 1), (24, .ifCond .eq 55, 3), (27, .iload_n 2, 1), (28, .iload_n 1, 1), (29, .if_icmp .ne 6, 3), (32, .goto 47, 3), (35, .aload_n 0, 1), (36, .getfield 32, 3), (39, .iload_n 1, 1), (40, .iaload, 1), (41, .aload_n 0, 1), (42, .getfield 32, 3), (45, .iload_n 2, 1), (46, .iaload, 1), (47, .if_icmp .le 19, 3), (50, .aload_n 0, 1), (51, .getfield 26, 3), (54, .sipush 128, 3), (57, .iload_n 1, 1), (58, .imul, 1), (59, .iload_n 2, 1), (60, .iadd, 1), (61, .iconst 1, 1), (62, .bastore, 1), (63, .goto 16, 3), (66, .aload_n 0, 1), (67, .getfield 26, 3), (70, .sipush 128, 3), (73, .iload_n 2, 1), (74, .imul, 1), (75, .iload_n 1, 1), (76, .iadd, 1), (77, .iconst 1, 1), (78, .bastore, 1), (79, .iinc 2 1, 3), (82, .goto (-80), 3), (85, .return_, 1)]
def mX7_with : xM := (yX7_with, cX7_with, 3, none, DX7_with, [2], FX7)
theorem kX7_with : xOK mX7_with := ⟨by decide +kernel, Or.inr (xmem_of (by decide +kernel)), by decide +kernel, xFok_of FX7_ok⟩
def DX7_isLeft : List (Nat × Instr × Nat) := [(0, .aload_n 0, 1), (1, .getfield 23, 3), (4, .bipush 8, 2), (6, .iload_n 1, 1), (7, .imul, 1), (8, .iaload, 1), (9, .iconst (-1), 1), (10, .if_icmp .eq 22, 3), (13, .aload_n 0, 1), (14, .getfield 23, 3), (17, .bipush 8, 2), (19, .iload_n 1, 1), (20, .imul, 1), (21, .bipush 7, 2), (23, .iadd, 1), (24, .iaload, 1), (25, .ifCond .ne 7, 3), (28, .iconst 1, 1), (29, .goto 4, 3), (32, .iconst 0, 1), (33, .ireturn, 1)]
def mX7_isLeft : xM := (yX7_isLeft, cX7_isLeft, 2, some .boolean, DX7_isLeft, [], FX7)
theorem kX7_isLeft : xOK mX7_isLeft := ⟨by decide +kernel, Or.inr (xmem_of (by decide +kernel)), by decide +kernel, xFok_of FX7_ok⟩
def DX7_close : List (Nat × Instr × Nat) := [(0, .iconst 0, 1), (1, .istore_n 1, 1), (2, .iload_n 1, 1), (3, .sipush 128, 3), (6, .if_icmp .ge 72, 3), (9, .iconst 0, 1), (10, .istore_n 2, 1), (11, .iload_n 2, 1), (12, .sipush 128, 3), (15, .if_icmp .ge 57, 3), (18, .aload_n 0, 1), (19, .getfield 29, 3), (22, .sipush 128, 3), (25, .iload_n 1, 1), (26, .imul, 1), (27, .iload_n 2, 1), (28, .iadd, 1), (29, .aload_n 0, 1), (30, .getfield 26, 3), (33, .sipush 128, 3), (36, .iload_n 1, 1), (37, .imul, 1), (38, .iload_n 2, 1), (39, .iadd, 1), (40, .baload, 1), (41, .ifCond .eq 23, 3), (44, .aload_n 0, 1), (45, .iload_n 1, 1), (46, .invokevirtual 104, 3), (49, .ifCond .eq 15, 3), (52, .aload_n 0, 1), (53, .iload_n 2, 1), (54, .invokevirtual 104, 3), (57, .ifCond .eq 7, 3), (60, .iconst 1, 1), (61, .goto 4, 3), (64, .iconst 0, 1), (65, .bastore, 1), (66, .iinc 2 1, 3), (69, .goto (-58), 3), (72, .iinc 1 1, 3), (75, .goto (-73), 3), (78, .iconst 0, 1), (79, .istore_n 1, 1), (80, .iload_n 1, 1), (81, .sipush 128, 3), (84, .if_icmp .ge 115, 3), (87, .aload_n 0, 1), (88, .iload_n 1, 1), (89, .invokevirtual 104, 3), (92, .ifCond .ne 6, 3), (95, .goto 98, 3), (98, .iconst 0, 1), (99, .istore_n 2, 1), (100, .iload_n 2, 1), (101, .sipush 128, 3), (104, .if_icmp .ge 89, 3), (107, .aload_n 0, 1), (108, .getfield 29, 3), (111, .sipush 128, 3), (114, .iload_n 2, 1), (115, .imul, 1), (116, .iload_n 1, 1), (117, .iadd, 1), (118, .baload, 1), (119, .ifCond .ne 6, 3), (122, .goto 65, 3), (125, .iconst 0, 1), (126, .istore_n 3, 1), (127, .iload_n 3, 1), (128, .sipush 128, 3), (131, .if_icmp .ge 56, 3), (134, .aload_n 0, 1), (135, .getfield 29, 3), (138, .sipush 128, 3), (141, .iload_n 2, 1), (142, .imul, 1), (143, .iload_n 3, 1), (144, .iadd, 1), (145, .aload_n 0, 1), (146, .getfield 29, 3), (149, .sipush 128, 3), (152, .iload_n 2, 1), (153, .imul, 1), (154, .iload_n 3, 1), (155, .iadd, 1), (156, .baload, 1), (157, .ifCond .ne 18, 3), (160, .aload_n 0, 1), (161, .getfield 29, 3), (164, .sipush 128, 3), (167, .iload_n 1, 1), (168, .imul, 1), (169, .iload_n 3, 1), (170, .iadd, 1), (171, .baload, 1), (172, .ifCond .eq 7, 3), (175, .iconst 1, 1), (176, .goto 4, 3), (179, .iconst 0, 1), (180, .bastore, 1), (181, .iinc 3 1, 3), (184, .goto (-57), 3), (187, .iinc 2 1, 3), (190, .goto (-90), 3), (193, .iinc 1 1, 3), (196, .goto (-116), 3), (199, .return_, 1)]
def mX7_close : xM := (yX7_close, cX7_close, 4, none, DX7_close, [2, 11, 80, 100, 127], FX7)
theorem kX7_close : xOK mX7_close := ⟨by decide +kernel, Or.inr (xmem_of (by decide +kernel)), by decide +kernel, xFok_of FX7_ok⟩
def DX7_isTangled : List (Nat × Instr × Nat) := [(0, .iload_n 1, 1), (1, .iload_n 2, 1), (2, .if_icmp .eq 37, 3), (5, .aload_n 0, 1), (6, .getfield 29, 3), (9, .sipush 128, 3), (12, .iload_n 1, 1), (13, .imul, 1), (14, .iload_n 2, 1), (15, .iadd, 1), (16, .baload, 1), (17, .ifCond .eq 22, 3), (20, .aload_n 0, 1), (21, .getfield 29, 3), (24, .sipush 128, 3), (27, .iload_n 2, 1), (28, .imul, 1), (29, .iload_n 1, 1), (30, .iadd, 1), (31, .baload, 1), (32, .ifCond .eq 7, 3), (35, .iconst 1, 1), (36, .goto 4, 3), (39, .iconst 0, 1), (40, .ireturn, 1)]
def mX7_isTangled : xM := (yX7_isTangled, cX7_isTangled, 3, some .boolean, DX7_isTangled, [], FX7)
theorem kX7_isTangled : xOK mX7_isTangled := ⟨by decide +kernel, Or.inr (xmem_of (by decide +kernel)), by decide +kernel, xFok_of FX7_ok⟩
def DX7_begin : List (Nat × Instr × Nat) := [(0, .iconst 0, 1), (1, .istore_n 1, 1), (2, .iload_n 1, 1), (3, .sipush 128, 3), (6, .if_icmp .ge 92, 3), (9, .aload_n 0, 1), (10, .getfield 23, 3), (13, .bipush 8, 2), (15, .iload_n 1, 1), (16, .imul, 1), (17, .aload_n 0, 1), (18, .iload_n 1, 1), (19, .invokevirtual 64, 3), (22, .ifCond .eq 7, 3), (25, .iload_n 1, 1), (26, .goto 4, 3), (29, .iconst (-1), 1), (30, .iastore, 1), (31, .aload_n 0, 1), (32, .getfield 23, 3), (35, .bipush 8, 2), (37, .iload_n 1, 1), (38, .imul, 1), (39, .bipush 7, 2), (41, .iadd, 1), (42, .iconst 0, 1), (43, .iastore, 1), (44, .iconst 1, 1), (45, .istore_n 2, 1), (46, .iload_n 2, 1), (47, .bipush 7, 2), (49, .if_icmp .ge 43, 3), (52, .aload_n 0, 1), (53, .getfield 23, 3), (56, .bipush 8, 2), (58, .iload_n 1, 1), (59, .imul, 1), (60, .iload_n 2, 1), (61, .iadd, 1), (62, .aload_n 0, 1), (63, .iload_n 1, 1), (64, .invokevirtual 64, 3), (67, .ifCond .eq 17, 3), (70, .aload_n 0, 1), (71, .getfield 7, 3), (74, .bipush 11, 2), (76, .iload_n 1, 1), (77, .imul, 1), (78, .iload_n 2, 1), (79, .iadd, 1), (80, .iaload, 1), (81, .goto 4, 3), (84, .iconst 0, 1), (85, .iastore, 1), (86, .iinc 2 1, 3), (89, .goto (-43), 3), (92, .iinc 1 1, 3), (95, .goto (-93), 3), (98, .iconst 0, 1), (99, .istore_n 1, 1), (100, .iload_n 1, 1), (101, .sipush 16384, 3), (104, .if_icmp .ge 16, 3), (107, .aload_n 0, 1), (108, .getfield 26, 3), (111, .iload_n 1, 1), (112, .iconst 0, 1), (113, .bastore, 1), (114, .iinc 1 1, 3), (117, .goto (-17), 3), (120, .aload_n 0, 1), (121, .iconst (-1), 1), (122, .iconst (-1), 1), (123, .invokevirtual 107, 3), (126, .return_, 1)]
def mX7_begin : xM := (yX7_begin, cX7_begin, 3, none, DX7_begin, [2, 46, 100], FX7)
theorem kX7_begin : xOK mX7_begin := ⟨by decide +kernel, Or.inr (xmem_of (by decide +kernel)), by decide +kernel, xFok_of FX7_ok⟩
def DX7_isFree : List (Nat × Instr × Nat) := [(0, .aload_n 0, 1), (1, .iload_n 1, 1), (2, .invokevirtual 104, 3), (5, .ifCond .ne 5, 3), (8, .iconst 0, 1), (9, .ireturn, 1), (10, .iconst 0, 1), (11, .istore_n 2, 1), (12, .iload_n 2, 1), (13, .sipush 128, 3), (16, .if_icmp .ge 34, 3), (19, .aload_n 0, 1), (20, .iload_n 2, 1), (21, .invokevirtual 104, 3), (24, .ifCond .eq 20, 3), (27, .aload_n 0, 1), (28, .getfield 26, 3), (31, .sipush 128, 3), (34, .iload_n 1, 1), (35, .imul, 1), (36, .iload_n 2, 1), (37, .iadd, 1), (38, .baload, 1), (39, .ifCond .eq 5, 3), (42, .iconst 0, 1), (43, .ireturn, 1), (44, .iinc 2 1, 3), (47, .goto (-35), 3), (50, .iconst 1, 1), (51, .ireturn, 1)]
def mX7_isFree : xM := (yX7_isFree, cX7_isFree, 3, some .boolean, DX7_isFree, [12], FX7)
theorem kX7_isFree : xOK mX7_isFree := ⟨by decide +kernel, Or.inr (xmem_of (by decide +kernel)), by decide +kernel, xFok_of FX7_ok⟩
def DX7_free : List (Nat × Instr × Nat) := [(0, .iconst 0, 1), (1, .istore_n 1, 1), (2, .iload_n 1, 1), (3, .sipush 128, 3), (6, .if_icmp .ge 19, 3), (9, .aload_n 0, 1), (10, .iload_n 1, 1), (11, .invokevirtual 111, 3), (14, .ifCond .eq 5, 3), (17, .iload_n 1, 1), (18, .ireturn, 1), (19, .iinc 1 1, 3), (22, .goto (-20), 3), (25, .iconst (-1), 1), (26, .ireturn, 1)]
def mX7_free : xM := (yX7_free, cX7_free, 2, some .int, DX7_free, [2], FX7)
theorem kX7_free : xOK mX7_free := ⟨by decide +kernel, Or.inr (xmem_of (by decide +kernel)), by decide +kernel, xFok_of FX7_ok⟩
def DX7_plane : List (Nat × Instr × Nat) := [(0, .iconst (-1), 1), (1, .istore_n 3, 1), (2, .iconst 0, 1), (3, .istore 4, 2), (5, .iload 4, 2), (7, .sipush 128, 3), (10, .if_icmp .ge 112, 3), (13, .aload_n 0, 1), (14, .iload_n 1, 1), (15, .iload 4, 2), (17, .invokevirtual 114, 3), (20, .ifCond .ne 6, 3), (23, .goto 93, 3), (26, .iconst 0, 1), (27, .istore 5, 2), (29, .iload 5, 2), (31, .iconst 2, 1), (32, .if_icmp .ge 84, 3), (35, .aload_n 0, 1), (36, .getfield 23, 3), (39, .bipush 8, 2), (41, .iload 4, 2), (43, .imul, 1), (44, .iconst 1, 1), (45, .iadd, 1), (46, .iconst 2, 1), (47, .iload_n 2, 1), (48, .imul, 1), (49, .iadd, 1), (50, .iload 5, 2), (52, .iadd, 1), (53, .iaload, 1), (54, .istore 6, 2), (56, .iload 6, 2), (58, .aload_n 0, 1), (59, .getfield 23, 3), (62, .bipush 8, 2), (64, .iload_n 1, 1), (65, .imul, 1), (66, .iconst 1, 1), (67, .iadd, 1), (68, .iconst 2, 1), (69, .iload_n 2, 1), (70, .imul, 1), (71, .iadd, 1), (72, .iaload, 1), (73, .if_icmp .le 37, 3), (76, .iload 6, 2), (78, .aload_n 0, 1), (79, .getfield 23, 3), (82, .bipush 8, 2), (84, .iload_n 1, 1), (85, .imul, 1), (86, .iconst 2, 1), (87, .iadd, 1), (88, .iconst 2, 1), (89, .iload_n 2, 1), (90, .imul, 1), (91, .iadd, 1), (92, .iaload, 1), (93, .if_icmp .ge 17, 3), (96, .iload_n 3, 1), (97, .iconst (-1), 1), (98, .if_icmp .eq 9, 3), (101, .iload 6, 2), (103, .iload_n 3, 1), (104, .if_icmp .ge 6, 3), (107, .iload 6, 2), (109, .istore_n 3, 1), (110, .iinc 5 1, 3), (113, .goto (-84), 3), (116, .iinc 4 1, 3), (119, .goto (-114), 3), (122, .iload_n 3, 1), (123, .ireturn, 1)]
def mX7_plane : xM := (yX7_plane, cX7_plane, 7, some .int, DX7_plane, [5, 29], FX7)
theorem kX7_plane : xOK mX7_plane := ⟨by decide +kernel, Or.inr (xmem_of (by decide +kernel)), by decide +kernel, xFok_of FX7_ok⟩
def DX7_cut : List (Nat × Instr × Nat) := [(0, .aload_n 0, 1), (1, .invokevirtual 117, 3), (4, .iconst 0, 1), (5, .istore_n 1, 1), (6, .iload_n 1, 1), (7, .sipush 128, 3), (10, .if_icmp .ge 188, 3), (13, .iconst 0, 1), (14, .istore_n 2, 1), (15, .iload_n 2, 1), (16, .iconst 3, 1), (17, .if_icmp .ge 175, 3), (20, .aload_n 0, 1), (21, .iload_n 1, 1), (22, .invokevirtual 104, 3), (25, .ifCond .eq 167, 3), (28, .aload_n 0, 1), (29, .iload_n 1, 1), (30, .iload_n 2, 1), (31, .invokevirtual 120, 3), (34, .istore_n 3, 1), (35, .iload_n 3, 1), (36, .iconst (-1), 1), (37, .if_icmp .ne 6, 3), (40, .goto 146, 3), (43, .aload_n 0, 1), (44, .getfield 123, 3), (47, .istore 4, 2), (49, .aload_n 0, 1), (50, .dup, 1), (51, .getfield 123, 3), (54, .iconst 1, 1), (55, .iadd, 1), (56, .putfield 123, 3), (59, .iconst 0, 1), (60, .istore 5, 2), (62, .iload 5, 2), (64, .bipush 8, 2), (66, .if_icmp .ge 34, 3), (69, .aload_n 0, 1), (70, .getfield 23, 3), (73, .bipush 8, 2), (75, .iload 4, 2), (77, .imul, 1), (78, .iload 5, 2), (80, .iadd, 1), (81, .aload_n 0, 1), (82, .getfield 23, 3), (85, .bipush 8, 2), (87, .iload_n 1, 1), (88, .imul, 1), (89, .iload 5, 2), (91, .iadd, 1), (92, .iaload, 1), (93, .iastore, 1), (94, .iinc 5 1, 3), (97, .goto (-35), 3), (100, .aload_n 0, 1), (101, .getfield 23, 3), (104, .bipush 8, 2), (106, .iload_n 1, 1), (107, .imul, 1), (108, .iconst 2, 1), (109, .iadd, 1), (110, .iconst 2, 1), (111, .iload_n 2, 1), (112, .imul, 1), (113, .iadd, 1), (114, .iload_n 3, 1), (115, .iastore, 1), (116, .aload_n 0, 1), (117, .getfield 23, 3), (120, .bipush 8, 2), (122, .iload 4, 2), (124, .imul, 1), (125, .iconst 1, 1), (126, .iadd, 1), (127, .iconst 2, 1), (128, .iload_n 2, 1), (129, .imul, 1), (130, .iadd, 1), (131, .iload_n 3, 1), (132, .iastore, 1), (133, .iconst 0, 1), (134, .istore 5, 2), (136, .iload 5, 2), (138, .sipush 128, 3), (141, .if_icmp .ge 37, 3), (144, .aload_n 0, 1), (145, .getfield 26, 3), (148, .sipush 128, 3), (151, .iload_n 1, 1), (152, .imul, 1), (153, .iload 5, 2), (155, .iadd, 1), (156, .iconst 0, 1), (157, .bastore, 1), (158, .aload_n 0, 1), (159, .getfield 26, 3), (162, .sipush 128, 3), (165, .iload 5, 2), (167, .imul, 1), (168, .iload_n 1, 1), (169, .iadd, 1), (170, .iconst 0, 1), (171, .bastore, 1), (172, .iinc 5 1, 3), (175, .goto (-39), 3), (178, .aload_n 0, 1), (179, .iload_n 1, 1), (180, .iload 4, 2), (182, .invokevirtual 107, 3), (185, .return_, 1), (186, .iinc 2 1, 3), (189, .goto (-174), 3), (192, .iinc 1 1, 3), (195, .goto (-189), 3), (198, .return_, 1)]
def mX7_cut : xM := (yX7_cut, cX7_cut, 6, none, DX7_cut, [6, 15, 62, 136], FX7)
theorem kX7_cut : xOK mX7_cut := ⟨by decide +kernel, Or.inr (xmem_of (by decide +kernel)), by decide +kernel, xFok_of FX7_ok⟩
def DX7_draw : List (Nat × Instr × Nat) := [(0, .aload_n 0, 1), (1, .invokevirtual 127, 3), (4, .aload_n 0, 1), (5, .bipush 24, 2), (7, .putfield 123, 3), (10, .iconst 0, 1), (11, .istore_n 1, 1), (12, .iconst 0, 1), (13, .istore_n 2, 1), (14, .iload_n 2, 1), (15, .bipush 24, 2), (17, .if_icmp .ge 25, 3), (20, .iload_n 1, 1), (21, .aload_n 0, 1), (22, .iload_n 2, 1), (23, .invokevirtual 64, 3), (26, .ifCond .eq 7, 3), (29, .iconst 1, 1), (30, .goto 4, 3), (33, .iconst 0, 1), (34, .iadd, 1), (35, .istore_n 1, 1), (36, .iinc 2 1, 3), (39, .goto (-25), 3), (42, .iload_n 1, 1), (43, .istore_n 2, 1), (44, .iconst 0, 1), (45, .istore_n 3, 1), (46, .iload_n 3, 1), (47, .iload_n 2, 1), (48, .if_icmp .ge 61, 3), (51, .aload_n 0, 1), (52, .invokevirtual 130, 3), (55, .istore 4, 2), (57, .iload 4, 2), (59, .iconst (-1), 1), (60, .if_icmp .eq 31, 3), (63, .aload_n 0, 1), (64, .getfield 23, 3), (67, .bipush 8, 2), (69, .iload 4, 2), (71, .imul, 1), (72, .bipush 7, 2), (74, .iadd, 1), (75, .iconst 1, 1), (76, .iastore, 1), (77, .aload_n 0, 1), (78, .getfield 35, 3), (81, .iload_n 3, 1), (82, .iload 4, 2), (84, .iastore, 1), (85, .iinc 3 1, 3), (88, .goto 18, 3), (91, .iload_n 2, 1), (92, .bipush 96, 2), (94, .if_icmp .ne 5, 3), (97, .iconst (-1), 1), (98, .ireturn, 1), (99, .iinc 2 1, 3), (102, .aload_n 0, 1), (103, .invokevirtual 134, 3), (106, .goto (-60), 3), (109, .aload_n 0, 1), (110, .iload_n 2, 1), (111, .putfield 137, 3), (114, .aload_n 0, 1), (115, .iload_n 2, 1), (116, .iload_n 1, 1), (117, .isub, 1), (118, .putfield 140, 3), (121, .aload_n 0, 1), (122, .iconst 0, 1), (123, .putfield 143, 3), (126, .iconst 0, 1), (127, .istore 4, 2), (129, .iload 4, 2), (131, .bipush 24, 2), (133, .if_icmp .ge 32, 3), (136, .aload_n 0, 1), (137, .dup, 1), (138, .getfield 143, 3), (141, .aload_n 0, 1), (142, .iload 4, 2), (144, .invokevirtual 146, 3), (147, .ifCond .eq 7, 3), (150, .iconst 1, 1), (151, .goto 4, 3), (154, .iconst 0, 1), (155, .iadd, 1), (156, .putfield 143, 3), (159, .iinc 4 1, 3), (162, .goto (-33), 3), (165, .iconst 0, 1), (166, .istore 4, 2), (168, .iload 4, 2), (170, .iload_n 2, 1), (171, .if_icmp .ge 102, 3), (174, .aload_n 0, 1), (175, .getfield 38, 3), (178, .bipush 8, 2), (180, .iload 4, 2), (182, .imul, 1), (183, .aload_n 0, 1), (184, .getfield 23, 3), (187, .bipush 8, 2), (189, .aload_n 0, 1), (190, .getfield 35, 3), (193, .iload 4, 2), (195, .iaload, 1), (196, .imul, 1), (197, .iaload, 1), (198, .iastore, 1), (199, .aload_n 0, 1), (200, .getfield 38, 3), (203, .bipush 8, 2), (205, .iload 4, 2), (207, .imul, 1), (208, .iconst 1, 1), (209, .iadd, 1), (210, .aload_n 0, 1), (211, .getfield 35, 3), (214, .iload 4, 2), (216, .iaload, 1), (217, .iastore, 1), (218, .iconst 1, 1), (219, .istore 5, 2), (221, .iload 5, 2), (223, .bipush 7, 2), (225, .if_icmp .ge 42, 3), (228, .aload_n 0, 1), (229, .getfield 38, 3), (232, .bipush 8, 2), (234, .iload 4, 2), (236, .imul, 1), (237, .iconst 1, 1), (238, .iadd, 1), (239, .iload 5, 2), (241, .iadd, 1), (242, .aload_n 0, 1), (243, .getfield 23, 3), (246, .bipush 8, 2), (248, .aload_n 0, 1), (249, .getfield 35, 3), (252, .iload 4, 2), (254, .iaload, 1), (255, .imul, 1), (256, .iload 5, 2), (258, .iadd, 1), (259, .iaload, 1), (260, .iastore, 1), (261, .iinc 5 1, 3), (264, .goto (-43), 3), (267, .iinc 4 1, 3), (270, .goto (-102), 3), (273, .aload_n 0, 1), (274, .invokevirtual 149, 3), (277, .aload_n 0, 1), (278, .dup, 1), (279, .getfield 152, 3), (282, .iconst 1, 1), (283, .iadd, 1), (284, .putfield 152, 3), (287, .iload_n 2, 1), (288, .ireturn, 1)]
def mX7_draw : xM := (yX7_draw, cX7_draw, 6, some .int, DX7_draw, [14, 46, 129, 168, 221], FX7)
theorem kX7_draw : xOK mX7_draw := ⟨by decide +kernel, Or.inr (xmem_of (by decide +kernel)), by decide +kernel, xFok_of FX7_ok⟩
def DX7_isCut : List (Nat × Instr × Nat) := [(0, .bipush 24, 2), (2, .istore_n 2, 1), (3, .iload_n 2, 1), (4, .aload_n 0, 1), (5, .getfield 123, 3), (8, .if_icmp .ge 24, 3), (11, .aload_n 0, 1), (12, .getfield 23, 3), (15, .bipush 8, 2), (17, .iload_n 2, 1), (18, .imul, 1), (19, .iaload, 1), (20, .iload_n 1, 1), (21, .if_icmp .ne 5, 3), (24, .iconst 1, 1), (25, .ireturn, 1), (26, .iinc 2 1, 3), (29, .goto (-26), 3), (32, .iconst 0, 1), (33, .ireturn, 1)]
def mX7_isCut : xM := (yX7_isCut, cX7_isCut, 3, some .boolean, DX7_isCut, [3], FX7)
theorem kX7_isCut : xOK mX7_isCut := ⟨by decide +kernel, Or.inr (xmem_of (by decide +kernel)), by decide +kernel, xFok_of FX7_ok⟩
def DX7_paintAll : List (Nat × Instr × Nat) := [(0, .aload_n 0, 1), (1, .iconst 0, 1), (2, .putfield 155, 3), (5, .aload_n 0, 1), (6, .iconst 0, 1), (7, .putfield 158, 3), (10, .iconst 0, 1), (11, .istore_n 1, 1), (12, .iload_n 1, 1), (13, .sipush 8192, 3), (16, .if_icmp .ge 188, 3), (19, .aload_n 0, 1), (20, .getfield 44, 3), (23, .iload_n 1, 1), (24, .aload_n 0, 1), (25, .getfield 41, 3), (28, .iload_n 1, 1), (29, .iaload, 1), (30, .iastore, 1), (31, .iconst 0, 1), (32, .istore_n 2, 1), (33, .iconst (-1), 1), (34, .istore_n 3, 1), (35, .aload_n 0, 1), (36, .getfield 47, 3), (39, .iload_n 1, 1), (40, .iconst 0, 1), (41, .iastore, 1), (42, .iconst 0, 1), (43, .istore 4, 2), (45, .iload 4, 2), (47, .bipush 24, 2), (49, .if_icmp .ge 108, 3), (52, .aload_n 0, 1), (53, .iload 4, 2), (55, .iload_n 1, 1), (56, .invokevirtual 161, 3), (59, .istore 5, 2), (61, .iload 5, 2), (63, .ifCond .le 15, 3), (66, .aload_n 0, 1), (67, .iload 4, 2), (69, .iload_n 1, 1), (70, .iload 5, 2), (72, .invokevirtual 164, 3), (75, .goto 4, 3), (78, .iconst 0, 1), (79, .istore 6, 2), (81, .iload 6, 2), (83, .ifCond .ne 6, 3), (86, .goto 65, 3), (89, .aload_n 0, 1), (90, .getfield 47, 3), (93, .iload_n 1, 1), (94, .dup2, 1), (95, .iaload, 1), (96, .iconst 1, 1), (97, .iadd, 1), (98, .iastore, 1), (99, .iload 5, 2), (101, .iload_n 2, 1), (102, .if_icmp .ge 6, 3), (105, .goto 46, 3), (108, .iload 5, 2), (110, .istore_n 2, 1), (111, .iload 4, 2), (113, .bipush 32, 2), (115, .aload_n 0, 1), (116, .iload 4, 2), (118, .iload_n 1, 1), (119, .iload 5, 2), (121, .invokevirtual 79, 3), (124, .imul, 1), (125, .iadd, 1), (126, .sipush 128, 3), (129, .aload_n 0, 1), (130, .getfield 7, 3), (133, .bipush 11, 2), (135, .iload 4, 2), (137, .imul, 1), (138, .bipush 7, 2), (140, .iadd, 1), (141, .iaload, 1), (142, .bipush 16, 2), (144, .iload 6, 2), (146, .imul, 1), (147, .iadd, 1), (148, .imul, 1), (149, .iadd, 1), (150, .istore_n 3, 1), (151, .iinc 4 1, 3), (154, .goto (-109), 3), (157, .aload_n 0, 1), (158, .getfield 41, 3), (161, .iload_n 1, 1), (162, .iload_n 3, 1), (163, .iastore, 1), (164, .aload_n 0, 1), (165, .dup, 1), (166, .getfield 155, 3), (169, .iload_n 3, 1), (170, .iconst (-1), 1), (171, .if_icmp .ne 7, 3), (174, .iconst 0, 1), (175, .goto 4, 3), (178, .iconst 1, 1), (179, .iadd, 1), (180, .putfield 155, 3), (183, .aload_n 0, 1), (184, .dup, 1), (185, .getfield 158, 3), (188, .aload_n 0, 1), (189, .getfield 47, 3), (192, .iload_n 1, 1), (193, .iaload, 1), (194, .iadd, 1), (195, .putfield 158, 3), (198, .iinc 1 1, 3), (201, .goto (-189), 3), (204, .return_, 1)]
def mX7_paintAll : xM := (yX7_paintAll, cX7_paintAll, 7, none, DX7_paintAll, [12, 45], FX7)
theorem kX7_paintAll : xOK mX7_paintAll := ⟨by decide +kernel, Or.inr (xmem_of (by decide +kernel)), by decide +kernel, xFok_of FX7_ok⟩
def DX7_piece : List (Nat × Instr × Nat) := [(0, .iload_n 1, 1), (1, .aload_n 0, 1), (2, .getfield 137, 3), (5, .invokestatic 56, 3), (8, .ifCond .eq 26, 3), (11, .iload_n 2, 1), (12, .bipush 8, 2), (14, .invokestatic 56, 3), (17, .ifCond .eq 17, 3), (20, .aload_n 0, 1), (21, .getfield 38, 3), (24, .bipush 8, 2), (26, .iload_n 1, 1), (27, .imul, 1), (28, .iload_n 2, 1), (29, .iadd, 1), (30, .iaload, 1), (31, .goto 4, 3), (34, .iconst (-1), 1), (35, .ireturn, 1)]
def mX7_piece : xM := (yX7_piece, cX7_piece, 3, some .int, DX7_piece, [], FX7)
theorem kX7_piece : xOK mX7_piece := ⟨by decide +kernel, Or.inr (xmem_of (by decide +kernel)), by decide +kernel, xFok_of FX7_ok⟩
def DX7_pixel : List (Nat × Instr × Nat) := [(0, .iload_n 1, 1), (1, .iload_n 2, 1), (2, .invokestatic 167, 3), (5, .istore 4, 2), (7, .iload 4, 2), (9, .iconst (-1), 1), (10, .if_icmp .eq 18, 3), (13, .iload_n 3, 1), (14, .iconst 4, 1), (15, .invokestatic 56, 3), (18, .ifCond .eq 10, 3), (21, .aload_n 0, 1), (22, .getfield 152, 3), (25, .ifCond .ne 5, 3), (28, .iconst (-1), 1), (29, .ireturn, 1), (30, .iload_n 3, 1), (31, .iconst 3, 1), (32, .if_icmp .ne 11, 3), (35, .aload_n 0, 1), (36, .getfield 47, 3), (39, .iload 4, 2), (41, .iaload, 1), (42, .ireturn, 1), (43, .aload_n 0, 1), (44, .getfield 41, 3), (47, .iload 4, 2), (49, .iaload, 1), (50, .istore 5, 2), (52, .iload 5, 2), (54, .iconst (-1), 1), (55, .if_icmp .ne 5, 3), (58, .iconst (-1), 1), (59, .ireturn, 1), (60, .iload_n 3, 1), (61, .ifCond .ne 11, 3), (64, .iload 5, 2), (66, .bipush 32, 2), (68, .irem, 1), (69, .goto 24, 3), (72, .iload_n 3, 1), (73, .iconst 1, 1), (74, .if_icmp .ne 13, 3), (77, .iload 5, 2), (79, .bipush 32, 2), (81, .idiv, 1), (82, .iconst 4, 1), (83, .irem, 1), (84, .goto 9, 3), (87, .iload 5, 2), (89, .sipush 128, 3), (92, .idiv, 1), (93, .ireturn, 1)]
def mX7_pixel : xM := (yX7_pixel, cX7_pixel, 6, some .int, DX7_pixel, [], FX7)
theorem kX7_pixel : xOK mX7_pixel := ⟨by decide +kernel, Or.inr (xmem_of (by decide +kernel)), by decide +kernel, xFok_of FX7_ok⟩
def DX7_seen : List (Nat × Instr × Nat) := [(0, .iconst 0, 1), (1, .istore_n 2, 1), (2, .iconst 0, 1), (3, .istore_n 3, 1), (4, .iload_n 3, 1), (5, .sipush 8192, 3), (8, .if_icmp .ge 40, 3), (11, .iload_n 2, 1), (12, .aload_n 0, 1), (13, .getfield 41, 3), (16, .iload_n 3, 1), (17, .iaload, 1), (18, .iconst (-1), 1), (19, .if_icmp .eq 20, 3), (22, .aload_n 0, 1), (23, .getfield 41, 3), (26, .iload_n 3, 1), (27, .iaload, 1), (28, .bipush 32, 2), (30, .irem, 1), (31, .iload_n 1, 1), (32, .if_icmp .ne 7, 3), (35, .iconst 1, 1), (36, .goto 4, 3), (39, .iconst 0, 1), (40, .iadd, 1), (41, .istore_n 2, 1), (42, .iinc 3 1, 3), (45, .goto (-41), 3), (48, .iload_n 2, 1), (49, .ireturn, 1)]
def mX7_seen : xM := (yX7_seen, cX7_seen, 4, some .int, DX7_seen, [4], FX7)
theorem kX7_seen : xOK mX7_seen := ⟨by decide +kernel, Or.inr (xmem_of (by decide +kernel)), by decide +kernel, xFok_of FX7_ok⟩
def DX7_changed : List (Nat × Instr × Nat) := [(0, .iload_n 1, 1), (1, .iconst 5, 1), (2, .invokestatic 56, 3), (5, .ifCond .ne 5, 3), (8, .iconst (-1), 1), (9, .ireturn, 1), (10, .iconst 0, 1), (11, .istore_n 2, 1), (12, .bipush 100, 2), (14, .istore_n 3, 1), (15, .bipush 100, 2), (17, .istore 4, 2), (19, .iconst 0, 1), (20, .istore 5, 2), (22, .iload 5, 2), (24, .sipush 8192, 3), (27, .if_icmp .ge 95, 3), (30, .aload_n 0, 1), (31, .getfield 41, 3), (34, .iload 5, 2), (36, .iaload, 1), (37, .aload_n 0, 1), (38, .getfield 44, 3), (41, .iload 5, 2), (43, .iaload, 1), (44, .if_icmp .ne 6, 3), (47, .goto 69, 3), (50, .iload_n 1, 1), (51, .iconst 3, 1), (52, .if_icmp .ge 14, 3), (55, .iload 5, 2), (57, .bipush 64, 2), (59, .irem, 1), (60, .bipush 32, 2), (62, .isub, 1), (63, .goto 11, 3), (66, .iload 5, 2), (68, .bipush 64, 2), (70, .idiv, 1), (71, .bipush 64, 2), (73, .isub, 1), (74, .istore 6, 2), (76, .iload_n 2, 1), (77, .ifCond .eq 9, 3), (80, .iload 6, 2), (82, .iload_n 3, 1), (83, .if_icmp .ge 8, 3), (86, .iload 6, 2), (88, .goto 4, 3), (91, .iload_n 3, 1), (92, .istore_n 3, 1), (93, .iload_n 2, 1), (94, .ifCond .eq 10, 3), (97, .iload 6, 2), (99, .iload 4, 2), (101, .if_icmp .le 8, 3), (104, .iload 6, 2), (106, .goto 5, 3), (109, .iload 4, 2), (111, .istore 4, 2), (113, .iinc 2 1, 3), (116, .iinc 5 1, 3), (119, .goto (-97), 3), (122, .iload_n 1, 1), (123, .ifCond .ne 7, 3), (126, .iload_n 2, 1), (127, .goto 16, 3), (130, .iload_n 1, 1), (131, .iconst 2, 1), (132, .irem, 1), (133, .iconst 1, 1), (134, .if_icmp .ne 7, 3), (137, .iload_n 3, 1), (138, .goto 5, 3), (141, .iload 4, 2), (143, .ireturn, 1)]
def mX7_changed : xM := (yX7_changed, cX7_changed, 7, some .int, DX7_changed, [22], FX7)
theorem kX7_changed : xOK mX7_changed := ⟨by decide +kernel, Or.inr (xmem_of (by decide +kernel)), by decide +kernel, xFok_of FX7_ok⟩
def DX7_count : List (Nat × Instr × Nat) := [(0, .iconst 0, 1), (1, .istore_n 2, 1), (2, .iconst 0, 1), (3, .istore_n 3, 1), (4, .iload_n 3, 1), (5, .bipush 24, 2), (7, .if_icmp .ge 25, 3), (10, .iload_n 2, 1), (11, .aload_n 0, 1), (12, .iload_n 3, 1), (13, .invokevirtual 64, 3), (16, .ifCond .eq 7, 3), (19, .iconst 1, 1), (20, .goto 4, 3), (23, .iconst 0, 1), (24, .iadd, 1), (25, .istore_n 2, 1), (26, .iinc 3 1, 3), (29, .goto (-25), 3), (32, .iload_n 1, 1), (33, .tableswitch 75 0 6 #[43, 48, 53, 58, 63, 68, 70], 43), (76, .aload_n 0, 1), (77, .getfield 137, 3), (80, .ireturn, 1), (81, .aload_n 0, 1), (82, .getfield 140, 3), (85, .ireturn, 1), (86, .aload_n 0, 1), (87, .getfield 143, 3), (90, .ireturn, 1), (91, .aload_n 0, 1), (92, .getfield 155, 3), (95, .ireturn, 1), (96, .aload_n 0, 1), (97, .getfield 158, 3), (100, .ireturn, 1), (101, .iload_n 2, 1), (102, .ireturn, 1), (103, .aload_n 0, 1), (104, .getfield 152, 3), (107, .ireturn, 1), (108, .iconst (-1), 1), (109, .ireturn, 1)]
def mX7_count : xM := (yX7_count, cX7_count, 4, some .int, DX7_count, [4], FX7)
theorem kX7_count : xOK mX7_count := ⟨by decide +kernel, Or.inr (xmem_of (by decide +kernel)), by decide +kernel, xFok_of FX7_ok⟩
def DX7_covers : List (Nat × Instr × Nat) := [(0, .aload_n 0, 1), (1, .iload_n 1, 1), (2, .invokevirtual 64, 3), (5, .ifCond .eq 16, 3), (8, .aload_n 0, 1), (9, .iload_n 2, 1), (10, .invokevirtual 64, 3), (13, .ifCond .eq 8, 3), (16, .iload_n 1, 1), (17, .iload_n 2, 1), (18, .if_icmp .ne 5, 3), (21, .iconst (-1), 1), (22, .ireturn, 1), (23, .iconst 0, 1), (24, .istore_n 3, 1), (25, .iconst 0, 1), (26, .istore 4, 2), (28, .iload 4, 2), (30, .sipush 8192, 3), (33, .if_icmp .ge 52, 3), (36, .aload_n 0, 1), (37, .iload_n 1, 1), (38, .iload 4, 2), (40, .invokevirtual 161, 3), (43, .istore 5, 2), (45, .aload_n 0, 1), (46, .iload_n 2, 1), (47, .iload 4, 2), (49, .invokevirtual 161, 3), (52, .istore 6, 2), (54, .iload_n 3, 1), (55, .iload 5, 2), (57, .ifCond .le 19, 3), (60, .iload 6, 2), (62, .ifCond .le 14, 3), (65, .iload 5, 2), (67, .iload 6, 2), (69, .if_icmp .le 7, 3), (72, .iconst 1, 1), (73, .goto 4, 3), (76, .iconst 0, 1), (77, .iadd, 1), (78, .istore_n 3, 1), (79, .iinc 4 1, 3), (82, .goto (-54), 3), (85, .iload_n 3, 1), (86, .ireturn, 1)]
def mX7_covers : xM := (yX7_covers, cX7_covers, 7, some .int, DX7_covers, [28], FX7)
theorem kX7_covers : xOK mX7_covers := ⟨by decide +kernel, Or.inr (xmem_of (by decide +kernel)), by decide +kernel, xFok_of FX7_ok⟩
def DX7_tangled : List (Nat × Instr × Nat) := [(0, .aload_n 0, 1), (1, .iload_n 1, 1), (2, .invokevirtual 64, 3), (5, .ifCond .ne 5, 3), (8, .iconst (-1), 1), (9, .ireturn, 1), (10, .aload_n 0, 1), (11, .invokevirtual 127, 3), (14, .aload_n 0, 1), (15, .invokevirtual 117, 3), (18, .iconst 0, 1), (19, .istore_n 2, 1), (20, .iconst 0, 1), (21, .istore_n 3, 1), (22, .iload_n 3, 1), (23, .bipush 24, 2), (25, .if_icmp .ge 26, 3), (28, .iload_n 2, 1), (29, .aload_n 0, 1), (30, .iload_n 1, 1), (31, .iload_n 3, 1), (32, .invokevirtual 114, 3), (35, .ifCond .eq 7, 3), (38, .iconst 1, 1), (39, .goto 4, 3), (42, .iconst 0, 1), (43, .iadd, 1), (44, .istore_n 2, 1), (45, .iinc 3 1, 3), (48, .goto (-26), 3), (51, .iload_n 2, 1), (52, .ifCond .ne 7, 3), (55, .iconst 0, 1), (56, .goto 6, 3), (59, .iload_n 2, 1), (60, .iconst 1, 1), (61, .iadd, 1), (62, .ireturn, 1)]
def mX7_tangled : xM := (yX7_tangled, cX7_tangled, 4, some .int, DX7_tangled, [22], FX7)
theorem kX7_tangled : xOK mX7_tangled := ⟨by decide +kernel, Or.inr (xmem_of (by decide +kernel)), by decide +kernel, xFok_of FX7_ok⟩
def DX7_under : List (Nat × Instr × Nat) := [(0, .iload_n 1, 1), (1, .iload_n 2, 1), (2, .invokestatic 167, 3), (5, .istore 4, 2), (7, .iload 4, 2), (9, .iconst (-1), 1), (10, .if_icmp .eq 7, 3), (13, .iload_n 3, 1), (14, .ifCond .ge 5, 3), (17, .iconst (-1), 1), (18, .ireturn, 1), (19, .iconst 0, 1), (20, .istore 5, 2), (22, .iload 5, 2), (24, .bipush 24, 2), (26, .if_icmp .ge 75, 3), (29, .aload_n 0, 1), (30, .iload 5, 2), (32, .iload 4, 2), (34, .invokevirtual 161, 3), (37, .istore 6, 2), (39, .iconst 0, 1), (40, .istore 7, 2), (42, .iconst 0, 1), (43, .istore 8, 2), (45, .iload 8, 2), (47, .bipush 24, 2), (49, .if_icmp .ge 32, 3), (52, .iload 7, 2), (54, .aload_n 0, 1), (55, .iload 8, 2), (57, .iload 4, 2), (59, .invokevirtual 161, 3), (62, .iload 6, 2), (64, .if_icmp .le 7, 3), (67, .iconst 1, 1), (68, .goto 4, 3), (71, .iconst 0, 1), (72, .iadd, 1), (73, .istore 7, 2), (75, .iinc 8 1, 3), (78, .goto (-33), 3), (81, .iload 6, 2), (83, .ifCond .le 12, 3), (86, .iload 7, 2), (88, .iload_n 3, 1), (89, .if_icmp .ne 6, 3), (92, .iload 5, 2), (94, .ireturn, 1), (95, .iinc 5 1, 3), (98, .goto (-76), 3), (101, .iconst (-1), 1), (102, .ireturn, 1)]
def mX7_under : xM := (yX7_under, cX7_under, 9, some .int, DX7_under, [22, 45], FX7)
theorem kX7_under : xOK mX7_under := ⟨by decide +kernel, Or.inr (xmem_of (by decide +kernel)), by decide +kernel, xFok_of FX7_ok⟩
def DX7_box : List (Nat × Instr × Nat) := [(0, .aload_n 0, 1), (1, .iload_n 1, 1), (2, .invokevirtual 64, 3), (5, .ifCond .eq 28, 3), (8, .iload_n 2, 1), (9, .bipush 10, 2), (11, .invokestatic 56, 3), (14, .ifCond .eq 19, 3), (17, .aload_n 0, 1), (18, .getfield 7, 3), (21, .bipush 11, 2), (23, .iload_n 1, 1), (24, .imul, 1), (25, .iconst 1, 1), (26, .iadd, 1), (27, .iload_n 2, 1), (28, .iadd, 1), (29, .iaload, 1), (30, .goto 4, 3), (33, .iconst (-1), 1), (34, .ireturn, 1)]
def mX7_box : xM := (yX7_box, cX7_box, 3, some .int, DX7_box, [], FX7)
theorem kX7_box : xOK mX7_box := ⟨by decide +kernel, Or.inr (xmem_of (by decide +kernel)), by decide +kernel, xFok_of FX7_ok⟩
def DX7_keep : List (Nat × Instr × Nat) := [(0, .iload_n 1, 1), (1, .iconst 4, 1), (2, .invokestatic 56, 3), (5, .ifCond .ne 5, 3), (8, .iconst 0, 1), (9, .ireturn, 1), (10, .iconst 0, 1), (11, .istore_n 2, 1), (12, .iload_n 2, 1), (13, .sipush 264, 3), (16, .if_icmp .ge 27, 3), (19, .aload_n 0, 1), (20, .getfield 16, 3), (23, .sipush 328, 3), (26, .iload_n 1, 1), (27, .imul, 1), (28, .iload_n 2, 1), (29, .iadd, 1), (30, .aload_n 0, 1), (31, .getfield 7, 3), (34, .iload_n 2, 1), (35, .iaload, 1), (36, .iastore, 1), (37, .iinc 2 1, 3), (40, .goto (-28), 3), (43, .iconst 0, 1), (44, .istore_n 2, 1), (45, .iload_n 2, 1), (46, .bipush 64, 2), (48, .if_icmp .ge 31, 3), (51, .aload_n 0, 1), (52, .getfield 16, 3), (55, .sipush 328, 3), (58, .iload_n 1, 1), (59, .imul, 1), (60, .sipush 264, 3), (63, .iadd, 1), (64, .iload_n 2, 1), (65, .iadd, 1), (66, .aload_n 0, 1), (67, .getfield 13, 3), (70, .iload_n 2, 1), (71, .iaload, 1), (72, .iastore, 1), (73, .iinc 2 1, 3), (76, .goto (-31), 3), (79, .aload_n 0, 1), (80, .getfield 19, 3), (83, .iload_n 1, 1), (84, .iconst 1, 1), (85, .bastore, 1), (86, .iconst 1, 1), (87, .ireturn, 1)]
def mX7_keep : xM := (yX7_keep, cX7_keep, 3, some .boolean, DX7_keep, [12, 45], FX7)
theorem kX7_keep : xOK mX7_keep := ⟨by decide +kernel, Or.inr (xmem_of (by decide +kernel)), by decide +kernel, xFok_of FX7_ok⟩
def DX7_back : List (Nat × Instr × Nat) := [(0, .iload_n 1, 1), (1, .iconst 4, 1), (2, .invokestatic 56, 3), (5, .ifCond .eq 12, 3), (8, .aload_n 0, 1), (9, .getfield 19, 3), (12, .iload_n 1, 1), (13, .baload, 1), (14, .ifCond .ne 5, 3), (17, .iconst 0, 1), (18, .ireturn, 1), (19, .iconst 0, 1), (20, .istore_n 2, 1), (21, .iload_n 2, 1), (22, .sipush 264, 3), (25, .if_icmp .ge 27, 3), (28, .aload_n 0, 1), (29, .getfield 7, 3), (32, .iload_n 2, 1), (33, .aload_n 0, 1), (34, .getfield 16, 3), (37, .sipush 328, 3), (40, .iload_n 1, 1), (41, .imul, 1), (42, .iload_n 2, 1), (43, .iadd, 1), (44, .iaload, 1), (45, .iastore, 1), (46, .iinc 2 1, 3), (49, .goto (-28), 3), (52, .iconst 0, 1), (53, .istore_n 2, 1), (54, .iload_n 2, 1), (55, .bipush 64, 2), (57, .if_icmp .ge 31, 3), (60, .aload_n 0, 1), (61, .getfield 13, 3), (64, .iload_n 2, 1), (65, .aload_n 0, 1), (66, .getfield 16, 3), (69, .sipush 328, 3), (72, .iload_n 1, 1), (73, .imul, 1), (74, .sipush 264, 3), (77, .iadd, 1), (78, .iload_n 2, 1), (79, .iadd, 1), (80, .iaload, 1), (81, .iastore, 1), (82, .iinc 2 1, 3), (85, .goto (-31), 3), (88, .iconst 1, 1), (89, .ireturn, 1)]
def mX7_back : xM := (yX7_back, cX7_back, 3, some .boolean, DX7_back, [21, 54], FX7)
theorem kX7_back : xOK mX7_back := ⟨by decide +kernel, Or.inr (xmem_of (by decide +kernel)), by decide +kernel, xFok_of FX7_ok⟩
def DJ6_bitCount_0f7a4 : List (Nat × Instr × Nat) := [(0, .iload_n 0, 1), (1, .iload_n 0, 1), (2, .iconst 1, 1), (3, .iushr, 1), (4, .ldc_w 265, 3), (7, .iand, 1), (8, .isub, 1), (9, .istore_n 0, 1), (10, .iload_n 0, 1), (11, .ldc_w 266, 3), (14, .iand, 1), (15, .iload_n 0, 1), (16, .iconst 2, 1), (17, .iushr, 1), (18, .ldc_w 266, 3), (21, .iand, 1), (22, .iadd, 1), (23, .istore_n 0, 1), (24, .iload_n 0, 1), (25, .iload_n 0, 1), (26, .iconst 4, 1), (27, .iushr, 1), (28, .iadd, 1), (29, .ldc_w 267, 3), (32, .iand, 1), (33, .istore_n 0, 1), (34, .iload_n 0, 1), (35, .iload_n 0, 1), (36, .bipush 8, 2), (38, .iushr, 1), (39, .iadd, 1), (40, .istore_n 0, 1), (41, .iload_n 0, 1), (42, .iload_n 0, 1), (43, .bipush 16, 2), (45, .iushr, 1), (46, .iadd, 1), (47, .istore_n 0, 1), (48, .iload_n 0, 1), (49, .bipush 63, 2), (51, .iand, 1), (52, .ireturn, 1)]
def mJ6_bitCount_0f7a4 : xM := (yJ6_bitCount_0f7a4, cJ6_bitCount_0f7a4, 1, some .int, DJ6_bitCount_0f7a4, [], [])
theorem kJ6_bitCount_0f7a4 : xOK mJ6_bitCount_0f7a4 := ⟨by decide +kernel, Or.inr (xmem_of (by decide +kernel)), by decide +kernel, fun _ hq => absurd hq List.not_mem_nil⟩
def DJ13_bitCount_95d88 : List (Nat × Instr × Nat) := [(0, .lload_n 0, 1), (1, .lload_n 0, 1), (2, .iconst 1, 1), (3, .lushr, 1), (4, .ldc2_w 314, 3), (7, .land, 1), (8, .lsub, 1), (9, .lstore_n 0, 1), (10, .lload_n 0, 1), (11, .ldc2_w 316, 3), (14, .land, 1), (15, .lload_n 0, 1), (16, .iconst 2, 1), (17, .lushr, 1), (18, .ldc2_w 316, 3), (21, .land, 1), (22, .ladd, 1), (23, .lstore_n 0, 1), (24, .lload_n 0, 1), (25, .lload_n 0, 1), (26, .iconst 4, 1), (27, .lushr, 1), (28, .ladd, 1), (29, .ldc2_w 318, 3), (32, .land, 1), (33, .lstore_n 0, 1), (34, .lload_n 0, 1), (35, .lload_n 0, 1), (36, .bipush 8, 2), (38, .lushr, 1), (39, .ladd, 1), (40, .lstore_n 0, 1), (41, .lload_n 0, 1), (42, .lload_n 0, 1), (43, .bipush 16, 2), (45, .lushr, 1), (46, .ladd, 1), (47, .lstore_n 0, 1), (48, .lload_n 0, 1), (49, .lload_n 0, 1), (50, .bipush 32, 2), (52, .lushr, 1), (53, .ladd, 1), (54, .lstore_n 0, 1), (55, .lload_n 0, 1), (56, .l2i, 1), (57, .bipush 127, 2), (59, .iand, 1), (60, .ireturn, 1)]
def mJ13_bitCount_95d88 : xM := (yJ13_bitCount_95d88, cJ13_bitCount_95d88, 2, some .int, DJ13_bitCount_95d88, [], [])
theorem kJ13_bitCount_95d88 : xOK mJ13_bitCount_95d88 := ⟨by decide +kernel, Or.inr (xmem_of (by decide +kernel)), by decide +kernel, fun _ hq => absurd hq List.not_mem_nil⟩
def DJ7_fill_53178 : List (Nat × Instr × Nat) := [(0, .iconst 0, 1), (1, .istore_n 2, 1), (2, .aload_n 0, 1), (3, .arraylength, 1), (4, .istore_n 3, 1), (5, .iload_n 2, 1), (6, .iload_n 3, 1), (7, .if_icmp .ge 13, 3), (10, .aload_n 0, 1), (11, .iload_n 2, 1), (12, .iload_n 1, 1), (13, .iastore, 1), (14, .iinc 2 1, 3), (17, .goto (-12), 3), (20, .return_, 1)]
def mJ7_fill_53178 : xM := (yJ7_fill_53178, cJ7_fill_53178, 4, none, DJ7_fill_53178, [5], [])
theorem kJ7_fill_53178 : xOK mJ7_fill_53178 := ⟨by decide +kernel, Or.inr (xmem_of (by decide +kernel)), by decide +kernel, fun _ hq => absurd hq List.not_mem_nil⟩
end
section
def DL_0 : List (Nat × Instr × Nat) := [(0, .new 7, 3), (3, .dup, 1), (4, .invokespecial 9, 3), (7, .astore_n 1, 1), (8, .new 10, 3), (11, .dup, 1), (12, .invokespecial 12, 3), (15, .astore_n 2, 1), (16, .iconst 0, 1), (17, .istore_n 3, 1), (18, .iload_n 3, 1), (19, .aload_n 0, 1), (20, .arraylength, 1), (21, .bipush 8, 2), (23, .isub, 1), (24, .if_icmp .gt 710, 3), (27, .aload_n 0, 1), (28, .iload_n 3, 1), (29, .iaload, 1), (30, .bipush 31, 2), (32, .iand, 1), (33, .tableswitch 695 0 17 #[87, 174, 197, 260, 303, 346, 359, 372, 405, 448, 471, 494, 517, 550, 573, 616, 649, 672], 87), (120, .aload_n 1, 1), (121, .aload_n 0, 1), (122, .iload_n 3, 1), (123, .iconst 1, 1), (124, .iadd, 1), (125, .iaload, 1), (126, .aload_n 0, 1), (127, .iload_n 3, 1), (128, .iconst 2, 1), (129, .iadd, 1), (130, .iaload, 1), (131, .aload_n 0, 1), (132, .iload_n 3, 1), (133, .iconst 3, 1), (134, .iadd, 1), (135, .iaload, 1), (136, .aload_n 0, 1), (137, .iload_n 3, 1), (138, .iconst 4, 1), (139, .iadd, 1), (140, .iaload, 1), (141, .aload_n 0, 1), (142, .iload_n 3, 1), (143, .iconst 5, 1), (144, .iadd, 1), (145, .iaload, 1), (146, .aload_n 0, 1), (147, .iload_n 3, 1)]
theorem DLk_0 : ∀ q ∈ DL_0, decode cL_law q.1 = .ok q.2 := by decide +kernel
def DL_1 : List (Nat × Instr × Nat) := [(148, .bipush 6, 2), (150, .iadd, 1), (151, .iaload, 1), (152, .aload_n 0, 1), (153, .iload_n 3, 1), (154, .bipush 7, 2), (156, .iadd, 1), (157, .iaload, 1), (158, .invokevirtual 13, 3), (161, .aload_n 2, 1), (162, .aload_n 0, 1), (163, .iload_n 3, 1), (164, .iconst 1, 1), (165, .iadd, 1), (166, .iaload, 1), (167, .aload_n 0, 1), (168, .iload_n 3, 1), (169, .iconst 2, 1), (170, .iadd, 1), (171, .iaload, 1), (172, .aload_n 0, 1), (173, .iload_n 3, 1), (174, .iconst 3, 1), (175, .iadd, 1), (176, .iaload, 1), (177, .aload_n 0, 1), (178, .iload_n 3, 1), (179, .iconst 4, 1), (180, .iadd, 1), (181, .iaload, 1), (182, .aload_n 0, 1), (183, .iload_n 3, 1), (184, .iconst 5, 1), (185, .iadd, 1), (186, .iaload, 1), (187, .aload_n 0, 1), (188, .iload_n 3, 1), (189, .bipush 6, 2), (191, .iadd, 1), (192, .iaload, 1), (193, .aload_n 0, 1), (194, .iload_n 3, 1), (195, .bipush 7, 2), (197, .iadd, 1), (198, .iaload, 1), (199, .invokevirtual 17, 3), (202, .if_icmp .eq 526, 3), (205, .iconst 0, 1), (206, .ireturn, 1), (207, .aload_n 1, 1)]
theorem DLk_1 : ∀ q ∈ DL_1, decode cL_law q.1 = .ok q.2 := by decide +kernel
def DL_2 : List (Nat × Instr × Nat) := [(208, .aload_n 0, 1), (209, .iload_n 3, 1), (210, .iconst 1, 1), (211, .iadd, 1), (212, .iaload, 1), (213, .invokevirtual 18, 3), (216, .pop, 1), (217, .aload_n 2, 1), (218, .aload_n 0, 1), (219, .iload_n 3, 1), (220, .iconst 1, 1), (221, .iadd, 1), (222, .iaload, 1), (223, .invokevirtual 22, 3), (226, .pop, 1), (227, .goto 501, 3), (230, .aload_n 1, 1), (231, .aload_n 0, 1), (232, .iload_n 3, 1), (233, .iconst 1, 1), (234, .iadd, 1), (235, .iaload, 1), (236, .aload_n 0, 1), (237, .iload_n 3, 1), (238, .iconst 2, 1), (239, .iadd, 1), (240, .iaload, 1), (241, .aload_n 0, 1), (242, .iload_n 3, 1), (243, .iconst 3, 1), (244, .iadd, 1), (245, .iaload, 1), (246, .aload_n 0, 1), (247, .iload_n 3, 1), (248, .iconst 4, 1), (249, .iadd, 1), (250, .iaload, 1), (251, .aload_n 0, 1), (252, .iload_n 3, 1), (253, .iconst 5, 1), (254, .iadd, 1), (255, .iaload, 1), (256, .invokevirtual 23, 3), (259, .pop, 1), (260, .aload_n 2, 1), (261, .aload_n 0, 1), (262, .iload_n 3, 1), (263, .iconst 1, 1), (264, .iadd, 1), (265, .iaload, 1)]
theorem DLk_2 : ∀ q ∈ DL_2, decode cL_law q.1 = .ok q.2 := by decide +kernel
def DL_3 : List (Nat × Instr × Nat) := [(266, .aload_n 0, 1), (267, .iload_n 3, 1), (268, .iconst 2, 1), (269, .iadd, 1), (270, .iaload, 1), (271, .aload_n 0, 1), (272, .iload_n 3, 1), (273, .iconst 3, 1), (274, .iadd, 1), (275, .iaload, 1), (276, .aload_n 0, 1), (277, .iload_n 3, 1), (278, .iconst 4, 1), (279, .iadd, 1), (280, .iaload, 1), (281, .aload_n 0, 1), (282, .iload_n 3, 1), (283, .iconst 5, 1), (284, .iadd, 1), (285, .iaload, 1), (286, .invokevirtual 27, 3), (289, .pop, 1), (290, .goto 438, 3), (293, .aload_n 1, 1), (294, .aload_n 0, 1), (295, .iload_n 3, 1), (296, .iconst 1, 1), (297, .iadd, 1), (298, .iaload, 1), (299, .aload_n 0, 1), (300, .iload_n 3, 1), (301, .iconst 2, 1), (302, .iadd, 1), (303, .iaload, 1), (304, .aload_n 0, 1), (305, .iload_n 3, 1), (306, .iconst 3, 1), (307, .iadd, 1), (308, .iaload, 1), (309, .invokevirtual 28, 3), (312, .pop, 1), (313, .aload_n 2, 1), (314, .aload_n 0, 1), (315, .iload_n 3, 1), (316, .iconst 1, 1), (317, .iadd, 1), (318, .iaload, 1), (319, .aload_n 0, 1), (320, .iload_n 3, 1), (321, .iconst 2, 1)]
theorem DLk_3 : ∀ q ∈ DL_3, decode cL_law q.1 = .ok q.2 := by decide +kernel
def DL_4 : List (Nat × Instr × Nat) := [(322, .iadd, 1), (323, .iaload, 1), (324, .aload_n 0, 1), (325, .iload_n 3, 1), (326, .iconst 3, 1), (327, .iadd, 1), (328, .iaload, 1), (329, .invokevirtual 32, 3), (332, .pop, 1), (333, .goto 395, 3), (336, .aload_n 1, 1), (337, .aload_n 0, 1), (338, .iload_n 3, 1), (339, .iconst 1, 1), (340, .iadd, 1), (341, .iaload, 1), (342, .aload_n 0, 1), (343, .iload_n 3, 1), (344, .iconst 2, 1), (345, .iadd, 1), (346, .iaload, 1), (347, .aload_n 0, 1), (348, .iload_n 3, 1), (349, .iconst 3, 1), (350, .iadd, 1), (351, .iaload, 1), (352, .invokevirtual 33, 3), (355, .pop, 1), (356, .aload_n 2, 1), (357, .aload_n 0, 1), (358, .iload_n 3, 1), (359, .iconst 1, 1), (360, .iadd, 1), (361, .iaload, 1), (362, .aload_n 0, 1), (363, .iload_n 3, 1), (364, .iconst 2, 1), (365, .iadd, 1), (366, .iaload, 1), (367, .aload_n 0, 1), (368, .iload_n 3, 1), (369, .iconst 3, 1), (370, .iadd, 1), (371, .iaload, 1), (372, .invokevirtual 37, 3), (375, .pop, 1), (376, .goto 352, 3), (379, .aload_n 1, 1), (380, .invokevirtual 38, 3), (383, .pop, 1)]
theorem DLk_4 : ∀ q ∈ DL_4, decode cL_law q.1 = .ok q.2 := by decide +kernel
def DL_5 : List (Nat × Instr × Nat) := [(384, .aload_n 2, 1), (385, .invokevirtual 42, 3), (388, .pop, 1), (389, .goto 339, 3), (392, .aload_n 1, 1), (393, .invokevirtual 43, 3), (396, .pop, 1), (397, .aload_n 2, 1), (398, .invokevirtual 46, 3), (401, .pop, 1), (402, .goto 326, 3), (405, .aload_n 1, 1), (406, .aload_n 0, 1), (407, .iload_n 3, 1), (408, .iconst 1, 1), (409, .iadd, 1), (410, .iaload, 1), (411, .aload_n 0, 1), (412, .iload_n 3, 1), (413, .iconst 2, 1), (414, .iadd, 1), (415, .iaload, 1), (416, .invokevirtual 47, 3), (419, .pop, 1), (420, .aload_n 2, 1), (421, .aload_n 0, 1), (422, .iload_n 3, 1), (423, .iconst 1, 1), (424, .iadd, 1), (425, .iaload, 1), (426, .aload_n 0, 1), (427, .iload_n 3, 1), (428, .iconst 2, 1), (429, .iadd, 1), (430, .iaload, 1), (431, .invokevirtual 51, 3), (434, .pop, 1), (435, .goto 293, 3), (438, .aload_n 1, 1), (439, .aload_n 0, 1), (440, .iload_n 3, 1), (441, .iconst 1, 1), (442, .iadd, 1), (443, .iaload, 1), (444, .aload_n 0, 1), (445, .iload_n 3, 1), (446, .iconst 2, 1), (447, .iadd, 1), (448, .iaload, 1), (449, .aload_n 0, 1)]
theorem DLk_5 : ∀ q ∈ DL_5, decode cL_law q.1 = .ok q.2 := by decide +kernel
def DL_6 : List (Nat × Instr × Nat) := [(450, .iload_n 3, 1), (451, .iconst 3, 1), (452, .iadd, 1), (453, .iaload, 1), (454, .invokevirtual 52, 3), (457, .pop, 1), (458, .aload_n 2, 1), (459, .aload_n 0, 1), (460, .iload_n 3, 1), (461, .iconst 1, 1), (462, .iadd, 1), (463, .iaload, 1), (464, .aload_n 0, 1), (465, .iload_n 3, 1), (466, .iconst 2, 1), (467, .iadd, 1), (468, .iaload, 1), (469, .aload_n 0, 1), (470, .iload_n 3, 1), (471, .iconst 3, 1), (472, .iadd, 1), (473, .iaload, 1), (474, .invokevirtual 55, 3), (477, .pop, 1), (478, .goto 250, 3), (481, .aload_n 1, 1), (482, .aload_n 0, 1), (483, .iload_n 3, 1), (484, .iconst 1, 1), (485, .iadd, 1), (486, .iaload, 1), (487, .invokevirtual 56, 3), (490, .pop, 1), (491, .aload_n 2, 1), (492, .aload_n 0, 1), (493, .iload_n 3, 1), (494, .iconst 1, 1), (495, .iadd, 1), (496, .iaload, 1), (497, .invokevirtual 60, 3), (500, .pop, 1), (501, .goto 227, 3), (504, .aload_n 1, 1), (505, .aload_n 0, 1), (506, .iload_n 3, 1), (507, .iconst 1, 1), (508, .iadd, 1), (509, .iaload, 1), (510, .invokevirtual 61, 3), (513, .pop, 1)]
theorem DLk_6 : ∀ q ∈ DL_6, decode cL_law q.1 = .ok q.2 := by decide +kernel
def DL_7 : List (Nat × Instr × Nat) := [(514, .aload_n 2, 1), (515, .aload_n 0, 1), (516, .iload_n 3, 1), (517, .iconst 1, 1), (518, .iadd, 1), (519, .iaload, 1), (520, .invokevirtual 64, 3), (523, .pop, 1), (524, .goto 204, 3), (527, .aload_n 1, 1), (528, .aload_n 0, 1), (529, .iload_n 3, 1), (530, .iconst 1, 1), (531, .iadd, 1), (532, .iaload, 1), (533, .invokevirtual 65, 3), (536, .pop, 1), (537, .aload_n 2, 1), (538, .aload_n 0, 1), (539, .iload_n 3, 1), (540, .iconst 1, 1), (541, .iadd, 1), (542, .iaload, 1), (543, .invokevirtual 68, 3), (546, .pop, 1), (547, .goto 181, 3), (550, .aload_n 1, 1), (551, .aload_n 0, 1), (552, .iload_n 3, 1), (553, .iconst 1, 1), (554, .iadd, 1), (555, .iaload, 1), (556, .aload_n 0, 1), (557, .iload_n 3, 1), (558, .iconst 2, 1), (559, .iadd, 1), (560, .iaload, 1), (561, .invokevirtual 69, 3), (564, .pop, 1), (565, .aload_n 2, 1), (566, .aload_n 0, 1), (567, .iload_n 3, 1), (568, .iconst 1, 1), (569, .iadd, 1), (570, .iaload, 1), (571, .aload_n 0, 1), (572, .iload_n 3, 1), (573, .iconst 2, 1), (574, .iadd, 1), (575, .iaload, 1)]
theorem DLk_7 : ∀ q ∈ DL_7, decode cL_law q.1 = .ok q.2 := by decide +kernel
def DL_8 : List (Nat × Instr × Nat) := [(576, .invokevirtual 72, 3), (579, .pop, 1), (580, .goto 148, 3), (583, .aload_n 1, 1), (584, .aload_n 0, 1), (585, .iload_n 3, 1), (586, .iconst 1, 1), (587, .iadd, 1), (588, .iaload, 1), (589, .invokevirtual 73, 3), (592, .pop, 1), (593, .aload_n 2, 1), (594, .aload_n 0, 1), (595, .iload_n 3, 1), (596, .iconst 1, 1), (597, .iadd, 1), (598, .iaload, 1), (599, .invokevirtual 76, 3), (602, .pop, 1), (603, .goto 125, 3), (606, .aload_n 1, 1), (607, .aload_n 0, 1), (608, .iload_n 3, 1), (609, .iconst 1, 1), (610, .iadd, 1), (611, .iaload, 1), (612, .aload_n 0, 1), (613, .iload_n 3, 1), (614, .iconst 2, 1), (615, .iadd, 1), (616, .iaload, 1), (617, .aload_n 0, 1), (618, .iload_n 3, 1), (619, .iconst 3, 1), (620, .iadd, 1), (621, .iaload, 1), (622, .invokevirtual 77, 3), (625, .pop, 1), (626, .aload_n 2, 1), (627, .aload_n 0, 1), (628, .iload_n 3, 1), (629, .iconst 1, 1), (630, .iadd, 1), (631, .iaload, 1), (632, .aload_n 0, 1), (633, .iload_n 3, 1), (634, .iconst 2, 1), (635, .iadd, 1), (636, .iaload, 1), (637, .aload_n 0, 1)]
theorem DLk_8 : ∀ q ∈ DL_8, decode cL_law q.1 = .ok q.2 := by decide +kernel
def DL_9 : List (Nat × Instr × Nat) := [(638, .iload_n 3, 1), (639, .iconst 3, 1), (640, .iadd, 1), (641, .iaload, 1), (642, .invokevirtual 80, 3), (645, .pop, 1), (646, .goto 82, 3), (649, .aload_n 1, 1), (650, .aload_n 0, 1), (651, .iload_n 3, 1), (652, .iconst 1, 1), (653, .iadd, 1), (654, .iaload, 1), (655, .aload_n 0, 1), (656, .iload_n 3, 1), (657, .iconst 2, 1), (658, .iadd, 1), (659, .iaload, 1), (660, .invokevirtual 81, 3), (663, .pop, 1), (664, .aload_n 2, 1), (665, .aload_n 0, 1), (666, .iload_n 3, 1), (667, .iconst 1, 1), (668, .iadd, 1), (669, .iaload, 1), (670, .aload_n 0, 1), (671, .iload_n 3, 1), (672, .iconst 2, 1), (673, .iadd, 1), (674, .iaload, 1), (675, .invokevirtual 84, 3), (678, .pop, 1), (679, .goto 49, 3), (682, .aload_n 1, 1), (683, .aload_n 0, 1), (684, .iload_n 3, 1), (685, .iconst 1, 1), (686, .iadd, 1), (687, .iaload, 1), (688, .invokevirtual 85, 3), (691, .pop, 1), (692, .aload_n 2, 1), (693, .aload_n 0, 1), (694, .iload_n 3, 1), (695, .iconst 1, 1), (696, .iadd, 1), (697, .iaload, 1), (698, .invokevirtual 88, 3), (701, .pop, 1)]
theorem DLk_9 : ∀ q ∈ DL_9, decode cL_law q.1 = .ok q.2 := by decide +kernel
def DL_10 : List (Nat × Instr × Nat) := [(702, .goto 26, 3), (705, .aload_n 1, 1), (706, .aload_n 0, 1), (707, .iload_n 3, 1), (708, .iconst 1, 1), (709, .iadd, 1), (710, .iaload, 1), (711, .invokevirtual 89, 3), (714, .pop, 1), (715, .aload_n 2, 1), (716, .aload_n 0, 1), (717, .iload_n 3, 1), (718, .iconst 1, 1), (719, .iadd, 1), (720, .iaload, 1), (721, .invokevirtual 92, 3), (724, .pop, 1), (725, .goto 3, 3), (728, .iinc 3 8, 3), (731, .goto (-713), 3), (734, .iconst 1, 1), (735, .ireturn, 1)]
theorem DLk_10 : ∀ q ∈ DL_10, decode cL_law q.1 = .ok q.2 := by decide +kernel
def DL_law : List (Nat × Instr × Nat) := DL_0 ++ (DL_1 ++ (DL_2 ++ (DL_3 ++ (DL_4 ++ (DL_5 ++ (DL_6 ++ (DL_7 ++ (DL_8 ++ (DL_9 ++ (DL_10))))))))))
def mL_law : xM := (yL_law, cL_law, 4, ret, DL_law, [18], [])
theorem kL_law : xOK mL_law := ⟨by decide +kernel, Or.inl rfl, List.forall_mem_append.mpr ⟨DLk_0, List.forall_mem_append.mpr ⟨DLk_1, List.forall_mem_append.mpr ⟨DLk_2, List.forall_mem_append.mpr ⟨DLk_3, List.forall_mem_append.mpr ⟨DLk_4, List.forall_mem_append.mpr ⟨DLk_5, List.forall_mem_append.mpr ⟨DLk_6, List.forall_mem_append.mpr ⟨DLk_7, List.forall_mem_append.mpr ⟨DLk_8, List.forall_mem_append.mpr ⟨DLk_9, DLk_10⟩⟩⟩⟩⟩⟩⟩⟩⟩⟩, fun _ hq => absurd hq List.not_mem_nil⟩
end
section
/-! ints as whole numbers: iI z is the Java int of z -/
def iI (z : Int) : Int32 := Int32.ofInt z
def inI (z : Int) : Prop := -2147483648 ≤ z ∧ z < 2147483648
theorem iI_add (a b : Int) : iI a + iI b = iI (a + b) := (Int32.ofInt_add a b).symm
theorem iI_sub (a b : Int) : iI a - iI b = iI (a - b) := (Int32.ofInt_sub a b).symm
theorem iI_mul (a b : Int) : iI a * iI b = iI (a * b) := (Int32.ofInt_mul a b).symm
theorem iI_neg (a : Int) : -iI a = iI (-a) := (Int32.ofInt_neg a).symm
theorem iI_toInt {z : Int} (h1 : -2147483648 ≤ z) (h2 : z < 2147483648) : (iI z).toInt = z := Int32.toInt_ofInt_of_le (by omega) (by omega)
theorem iI_of (x : Int32) : x = iI x.toInt := (Int32.ofInt_toInt x).symm
theorem iI_rng (x : Int32) : -2147483648 ≤ x.toInt ∧ x.toInt < 2147483648 := ⟨by have := x.le_toInt; omega, by have := x.toInt_lt; omega⟩
theorem iI_lt {a b : Int} (ha1 : -2147483648 ≤ a) (ha2 : a < 2147483648) (hb1 : -2147483648 ≤ b) (hb2 : b < 2147483648) : iI a < iI b ↔ a < b := by
  rw [Int32.lt_iff_toInt_lt, iI_toInt ha1 ha2, iI_toInt hb1 hb2]
theorem iI_le {a b : Int} (ha1 : -2147483648 ≤ a) (ha2 : a < 2147483648) (hb1 : -2147483648 ≤ b) (hb2 : b < 2147483648) : iI a ≤ iI b ↔ a ≤ b := by
  rw [Int32.le_iff_toInt_le, iI_toInt ha1 ha2, iI_toInt hb1 hb2]
theorem iI_eq {a b : Int} (ha1 : -2147483648 ≤ a) (ha2 : a < 2147483648) (hb1 : -2147483648 ≤ b) (hb2 : b < 2147483648) : iI a = iI b ↔ a = b := by
  rw [← Int32.toInt_inj, iI_toInt ha1 ha2, iI_toInt hb1 hb2]
theorem iI_nat {z : Int} (h1 : 0 ≤ z) (h2 : z < 2147483648) : (iI z).toNatClampNeg = z.toNat := Int32.toNatClampNeg_ofInt_of_le (by omega) (by omega)
theorem iI_in {z : Int} {N : Nat} (h1 : 0 ≤ z) (h2 : z < N) (h3 : z < 2147483648) : vp_in (iI z) N := by
  rw [vp_in_iff, iI_toInt (by omega) h3]
  exact ⟨h1, h2⟩
theorem iI_0 : iI 0 = 0 := rfl
theorem iI_1 : iI 1 = 1 := rfl
end
section
/-! THE LAYER: the machine is hidden behind XW (a stretch of a method's code) and XM (a method's contract), over a heap that is a function. -/
abbrev xE : Type := (Nat × vp_A) ⊕ (Nat × List Value)
abbrev xH : Type := Nat → Option xE
abbrev xG : Type := va_G × (Nat → ClassId) × (State → (Nat → Prop) → Prop)
/-- nothing more is known of the start -/
abbrev gT (G : xG) : xG := (G.1, G.2.1, fun _ _ => True)
/-- what may be written, and what more is known -/
def xAo (G : xG) (s : State) (A : Nat → Prop) : Prop := (∀ q, s.heap.size ≤ q → A q) ∧ G.2.2 s A
def xe (G : xG) : xE → va_E
  | .inl x => .inl (G.2.1 x.1, x.2)
  | .inr o => .inr o
def xup (h : xH) (a : Nat) (e : xE) : xH := fun q => if q = a then some e else h q
theorem xup_eq (h : xH) (a : Nat) (e : xE) : xup h a e a = some e := by simp [xup]
theorem xup_ne (h : xH) {a q : Nat} (e : xE) (hq : q ≠ a) : xup h a e q = h q := by simp [xup, hq]
def xRep (G : xG) (h : xH) (n : Nat) (H : Heap) : Prop := H.size = n ∧ ∀ (a : Nat) (e : xE), h a = some e → va_at G.1 vwCl (a, xe G e) H
theorem xRep.lt {G : xG} {h : xH} {n : Nat} {H : Heap} (hR : xRep G h n H) {a : Nat} {e : xE} (ha : h a = some e) : a < n := by
  have h1 := (hR.2 a e ha).lt
  rw [hR.1] at h1
  exact h1
theorem xRep.put {G : xG} {h : xH} {n : Nat} {H H1 : Heap} (hR : xRep G h n H) {a : Nat} {e : xE} (hz : H1.size = H.size) (he : va_at G.1 vwCl (a, xe G e) H1) (oq : ∀ q : Nat, q ≠ a → H1[q]? = H[q]?) : xRep G (xup h a e) n H1 := by
  refine ⟨hz.trans hR.1, fun q e' hq => ?_⟩
  by_cases c : q = a
  · subst c
    rw [xup_eq] at hq
    cases hq
    exact he
  · rw [xup_ne h e c] at hq
    exact (hR.2 q e' hq).kept (oq q c)
theorem xRep.new {G : xG} {h : xH} {n : Nat} {H H1 : Heap} (hR : xRep G h n H) {e : xE} (hz : H1.size = n + 1) (he : va_at G.1 vwCl (n, xe G e) H1) (oq : ∀ q : Nat, q < n → H1[q]? = H[q]?) : xRep G (xup h n e) (n + 1) H1 := by
  refine ⟨hz, fun q e' hq => ?_⟩
  by_cases c : q = n
  · subst c
    rw [xup_eq] at hq
    cases hq
    exact he
  · rw [xup_ne h e c] at hq
    exact (hR.2 q e' hq).kept (oq q (hR.lt hq))
/-- the cells that a method may write -/
def xA (h : xH) (n : Nat) : Nat → Prop := fun q => (∃ e, h q = some e) ∨ n ≤ q
def xIn (A : Nat → Prop) (h : xH) : Prop := ∀ (a : Nat) (e : xE), h a = some e → A a
theorem xIn.put {A : Nat → Prop} {h : xH} (hi : xIn A h) {a : Nat} (e : xE) (ha : A a) : xIn A (xup h a e) := by
  intro q e' hq
  by_cases c : q = a
  · subst c; exact ha
  · rw [xup_ne h e c] at hq
    exact hi q e' hq
/-- the kinds of arrays -/
def xTl (G : xG) : List (ClassId × FieldType) := xTys.zipIdx.map (fun q => (G.2.1 q.2, q.1))
theorem xTl_at (G : xG) {t : Nat} {ty : FieldType} (h : xTys[t]? = some ty) : (xTl G)[t]? = some (G.2.1 t, ty) := by
  unfold xTl
  rw [List.getElem?_map, List.getElem?_zipIdx, h]
  simp
theorem xgood_of {w : Cond} (h : w ∈ xws) : (w.onTables && w.keeps) = true ∨ ∃ ty, w = .arrayClass ty := by
  have h1 := (List.mem_filter.mp h).2
  unfold xgood at h1
  rcases Bool.or_eq_true_iff.mp h1 with h2 | h2
  · exact Or.inl h2
  · cases w <;> first | exact Or.inr ⟨_, rfl⟩ | cases h2
def xK (G : xG) (U : State) : Prop := va_K G.1 vwCl (xTl G) U ∧ (∀ q ∈ xNest, va_Nw (.methodLinkNest q.1 q.2.1 q.2.2.1 q.2.2.2) U) ∧ ∀ C ∈ xOver, va_AO C U
theorem xK.warm {G : xG} {s U : State} (hW : s.WarmedH U.vm) (h : xK G s) : xK G U := ⟨h.1.moved hW.alike, fun q hq => (h.2.1 q hq).warmM hW, fun C hC => (h.2.2 C hC).moved hW.alike⟩
theorem xK.same {G : xG} {u U : State} (hv : u.vm = U.vm) (h : xK G u) : xK G U := ⟨h.1.moved (by rw [hv]; exact Vm.Alike.refl _), fun q hq => (h.2.1 q hq).same rfl hv, fun C hC => (h.2.2 C hC).moved (by rw [hv]; exact Vm.Alike.refl _)⟩
theorem xlook {α : Type} {k : Nat} {v : α} : ∀ {D : List (Nat × α)}, D.lookup k = some v → (k, v) ∈ D := by
  intro D h
  induction D with
  | nil => cases h
  | cons q D ih =>
    obtain ⟨a, b⟩ := q
    rw [List.lookup_cons] at h
    by_cases c : k = a
    · subst c
      simp at h
      subst h
      exact List.mem_cons_self
    · have : (k == a) = false := by simpa using c
      rw [this] at h
      exact List.mem_cons_of_mem _ (ih h)
def xat (M : xM) (pc : Nat) : Option (Instr × Nat) := M.2.2.2.2.1.lookup pc
theorem xOK.dec {M : xM} (hM : xOK M) {pc : Nat} {i : Instr × Nat} (h : xat M pc = some i) : decode M.2.1 pc = .ok i := by
  have h1 := hM.2.2.1 (pc, i) (xlook h)
  exact h1
def xC (G : xG) (M : xM) (p : Program) (s : State) (m : MethodId) (args : Array Value) (meth : Method) (c : Code) : Prop :=
  p.tables.exec = Jvm.exec ∧ c.code = M.2.1 ∧ c.maxLocals = M.2.2.1 ∧ s.vm.findClass M.1.cls = some m.cls ∧ (∀ w ∈ xws, w.before args s = true) ∧ meth.sig.returnType = M.2.2.2.1 ∧ meth.locks = false ∧ (M.1.name = "<init>" → meth.name = "<init>") ∧ xK G s
/-- the slots by place -/
def xL (ls : Array Slot) (nL : Nat) (L : List (Option Value)) : Prop := ls.size = nL ∧ lv_wf ls ∧ ∀ (i : Nat) (v : Value), L[i]? = some (some v) → ls[i]? = some (.val v)
def xprs (L : List (Option Value)) : List (Nat × Value) := L.zipIdx.filterMap (fun q => q.1.map (fun v => (q.2, v)))
theorem xprs_mem {L : List (Option Value)} {i : Nat} {v : Value} : (i, v) ∈ xprs L ↔ L[i]? = some (some v) := by
  unfold xprs
  rw [List.mem_filterMap]
  constructor
  · rintro ⟨⟨o, j⟩, hq, he⟩
    cases o with
    | none => cases he
    | some w =>
      simp at he
      obtain ⟨rfl, rfl⟩ := he
      exact List.mem_zipIdx_iff_getElem?.mp hq
  · intro h
    exact ⟨(some v, i), List.mem_zipIdx_iff_getElem?.mpr h, rfl⟩
theorem xL.has {ls : Array Slot} {nL : Nat} {L : List (Option Value)} (h : xL ls nL L) : lv_has ls nL (xprs L) := ⟨h.1, h.2.1, fun q hq => h.2.2 q.1 q.2 (xprs_mem.mp hq)⟩
def xkill (o : Option Value) : Option Value := match o with
  | some (.long _) => none
  | some (.double _) => none
  | o => o
theorem xkill_some {o : Option Value} {v : Value} (h : xkill o = some v) : o = some v ∧ v.category ≠ 2 := by
  cases o with
  | none => cases h
  | some w => cases w <;> simp [xkill] at h <;> subst h <;> simp [Value.category]
/-- storing a value of one slot, of two -/
def xst1 : List (Option Value) → Nat → Value → List (Option Value)
  | [], _, _ => []
  | _ :: t, 0, v => some v :: t
  | o :: t, 1, v => xkill o :: xst1 t 0 v
  | o :: t, i + 2, v => o :: xst1 t (i + 1) v
def xst2 : List (Option Value) → Nat → Value → List (Option Value)
  | [], _, _ => []
  | _ :: t, 0, v => some v :: t.set 0 none
  | o :: t, 1, v => xkill o :: xst2 t 0 v
  | o :: t, i + 2, v => o :: xst2 t (i + 1) v
theorem xst1_at : ∀ (L : List (Option Value)) (i : Nat) (v : Value) (j : Nat) (w : Value), (xst1 L i v)[j]? = some (some w) → (j = i ∧ w = v) ∨ (j ≠ i ∧ L[j]? = some (some w) ∧ (j + 1 = i → w.category ≠ 2))
  | [], _, _, j, w, h => by simp [xst1] at h
  | o :: t, 0, v, j, w, h => by
    cases j with
    | zero => simp [xst1] at h; exact Or.inl ⟨rfl, h.symm⟩
    | succ j => simp [xst1] at h; exact Or.inr ⟨by omega, by simpa using h, by omega⟩
  | o :: t, 1, v, j, w, h => by
    cases j with
    | zero =>
      simp [xst1] at h
      obtain ⟨h1, h2⟩ := xkill_some h
      exact Or.inr ⟨by omega, by simp [h1], fun _ => h2⟩
    | succ j =>
      simp only [xst1, List.getElem?_cons_succ] at h
      rcases xst1_at t 0 v j w h with ⟨h1, h2⟩ | ⟨h1, h2, h3⟩
      · exact Or.inl ⟨by omega, h2⟩
      · exact Or.inr ⟨by omega, by simpa using h2, fun e => h3 (by omega)⟩
  | o :: t, i + 2, v, j, w, h => by
    cases j with
    | zero => simp [xst1] at h; exact Or.inr ⟨by omega, by simp [h], by omega⟩
    | succ j =>
      simp only [xst1, List.getElem?_cons_succ] at h
      rcases xst1_at t (i + 1) v j w h with ⟨h1, h2⟩ | ⟨h1, h2, h3⟩
      · exact Or.inl ⟨by omega, h2⟩
      · exact Or.inr ⟨by omega, by simpa using h2, fun e => h3 (by omega)⟩
theorem xst2_at : ∀ (L : List (Option Value)) (i : Nat) (v : Value) (j : Nat) (w : Value), (xst2 L i v)[j]? = some (some w) → (j = i ∧ w = v) ∨ (j ≠ i ∧ j ≠ i + 1 ∧ L[j]? = some (some w) ∧ (j + 1 = i → w.category ≠ 2))
  | [], _, _, j, w, h => by simp [xst2] at h
  | o :: t, 0, v, j, w, h => by
    cases j with
    | zero => simp [xst2] at h; exact Or.inl ⟨rfl, h.symm⟩
    | succ j =>
      simp only [xst2, List.getElem?_cons_succ] at h
      by_cases c : j = 0
      · subst c
        rw [List.getElem?_set_self'] at h
        cases ht : t[0]? <;> simp [ht] at h
      · rw [List.getElem?_set_ne (by omega)] at h
        exact Or.inr ⟨by omega, by omega, by simpa using h, by omega⟩
  | o :: t, 1, v, j, w, h => by
    cases j with
    | zero =>
      simp [xst2] at h
      obtain ⟨h1, h2⟩ := xkill_some h
      exact Or.inr ⟨by omega, by omega, by simp [h1], fun _ => h2⟩
    | succ j =>
      simp only [xst2, List.getElem?_cons_succ] at h
      rcases xst2_at t 0 v j w h with ⟨h1, h2⟩ | ⟨h1, h2, h3, h4⟩
      · exact Or.inl ⟨by omega, h2⟩
      · exact Or.inr ⟨by omega, by omega, by simpa using h3, fun e => h4 (by omega)⟩
  | o :: t, i + 2, v, j, w, h => by
    cases j with
    | zero => simp [xst2] at h; exact Or.inr ⟨by omega, by omega, by simp [h], by omega⟩
    | succ j =>
      simp only [xst2, List.getElem?_cons_succ] at h
      rcases xst2_at t (i + 1) v j w h with ⟨h1, h2⟩ | ⟨h1, h2, h3, h4⟩
      · exact Or.inl ⟨by omega, h2⟩
      · exact Or.inr ⟨by omega, by omega, by simpa using h3, fun e => h4 (by omega)⟩
theorem xL.st1 {ls : Array Slot} {nL : Nat} {L : List (Option Value)} (h : xL ls nL L) {i : Nat} {v : Value} {lv : List (Nat × Value)} {ls' : Array Slot} (he : lv = (i, v) :: (xprs L).filter (fun q => !(q.1 == i) && !(q.1 + 1 == i && q.2.category == 2))) (h' : lv_has ls' nL lv) : xL ls' nL (xst1 L i v) := by
  subst he
  refine ⟨h'.1, h'.2.1, fun j w hj => ?_⟩
  rcases xst1_at L i v j w hj with ⟨rfl, rfl⟩ | ⟨h1, h2, h3⟩
  · exact h'.2.2 _ List.mem_cons_self
  · refine h'.2.2 (j, w) (List.mem_cons_of_mem _ (List.mem_filter.mpr ⟨xprs_mem.mpr h2, ?_⟩))
    by_cases c : j + 1 = i
    · simp [h1, h3 c]
    · simp [h1, c]
theorem xL.st2 {ls : Array Slot} {nL : Nat} {L : List (Option Value)} (h : xL ls nL L) {i : Nat} {v : Value} {lv : List (Nat × Value)} {ls' : Array Slot} (he : lv = (i, v) :: (xprs L).filter (fun q => !(q.1 == i) && (!(q.1 == i + 1) && !(q.1 + 1 == i && q.2.category == 2)))) (h' : lv_has ls' nL lv) : xL ls' nL (xst2 L i v) := by
  subst he
  refine ⟨h'.1, h'.2.1, fun j w hj => ?_⟩
  rcases xst2_at L i v j w hj with ⟨rfl, rfl⟩ | ⟨h1, h2, h3, h4⟩
  · exact h'.2.2 _ List.mem_cons_self
  · refine h'.2.2 (j, w) (List.mem_cons_of_mem _ (List.mem_filter.mpr ⟨xprs_mem.mpr h3, ?_⟩))
    by_cases c : j + 1 = i
    · simp [h1, h2, h4 c]
    · simp [h1, h2, c]
end
section
/-! XW: from this place of the method, with these slots, this stack and this heap, it comes to its end with Φ -/
def xQ (G : xG) (A : Nat → Prop) (Φ : Option Value → xH → Nat → Prop) : Array Value → State → Outcome → State → Prop := fun _ st o t =>
  ∃ (v : Option Value) (h' : xH) (n' : Nat), o = .returned v ∧ Φ v h' n' ∧ xRep G h' n' t.heap ∧ xIn A h' ∧ va_F A st t
def XW (l : Launch) (G : xG) (M : xM) (d kc ks : Nat) (Φ : Option Value → xH → Nat → Prop) (pc : Nat) (L : List (Option Value)) (st : List Value) (h : xH) (n : Nat) : Prop :=
  ∀ (p : Program) (e : Env) (R : Room) (s : State) (m : MethodId) (args : Array Value) (below : List Frame) (meth : Method) (c : Code) (H : Heap) (locs : List Loc) (cells slots : Nat) (ls : Array Slot) (A : Nat → Prop),
    xC G M p s m args meth c → xRep G h n H → va_S A s.heap H locs → xIn A h → xAo G s A → d ≤ R.frames → 37 * d ≤ R.locals → cells + kc ≤ R.cells → slots + ks ≤ R.slots → xL ls M.2.2.1 L →
    W p l e R s m args below meth c H locs cells slots (MQ below (xQ G A Φ) args s R.cells R.slots A) (F0 m pc ls st)
def xrm (d mc ms : Nat) : Room := { frames := d, cells := mc, slots := ms, locals := 37 * d }
def XM (l : Launch) (G : xG) (M : xM) (d mc ms : Nat) (av : List Value) (h : xH) (n : Nat) (Φ : Option Value → xH → Nat → Prop) : Prop :=
  Met l M.1 (.code M.1 M.2.1 M.2.2.1 M.2.2.2.1 :: xws) (xrm d mc ms) (va_Pc av (fun U => xRep G h n U.heap ∧ xK G U)) (xQ G (xA h n) Φ) mc ms (xA h n)
/-- the slots at a method's entry -/
def xarg : List Value → List (Option Value)
  | [] => []
  | v :: vs => match v.category with
    | 2 => some v :: none :: xarg vs
    | _ => some v :: xarg vs
def xent (av : List Value) (nL : Nat) : List (Option Value) := xarg av ++ List.replicate (nL - (xarg av).length) none
theorem xarg_at : ∀ (av : List Value) (k i : Nat) (v : Value), (xarg av)[i]? = some (some v) → (k + i, v) ∈ lv_args k av
  | [], k, i, v, h => by simp [xarg] at h
  | w :: vs, k, i, v, h => by
    unfold xarg at h
    unfold lv_args
    rcases lv_cat w with c | c
    · rw [c] at h
      rw [if_neg (by omega)]
      cases i with
      | zero => simp at h; rw [h]; exact List.mem_cons_self
      | succ i =>
        simp only [List.getElem?_cons_succ] at h
        have := xarg_at vs (k + 1) i v h
        rw [show k + (i + 1) = k + 1 + i by omega]
        exact List.mem_cons_of_mem _ this
    · rw [c] at h
      rw [if_pos c]
      match i, h with
      | 0, h => simp at h; rw [h]; exact List.mem_cons_self
      | 1, h => simp at h
      | i + 2, h =>
        simp only [List.getElem?_cons_succ] at h
        have := xarg_at vs (k + 2) i v h
        rw [show k + (i + 2) = k + 2 + i by omega]
        exact List.mem_cons_of_mem _ this
theorem xent_at {av : List Value} {nL i : Nat} {v : Value} (h : (xent av nL)[i]? = some (some v)) : (i, v) ∈ lv_args 0 av := by
  unfold xent at h
  by_cases c : i < (xarg av).length
  · rw [List.getElem?_append_left c] at h
    have := xarg_at av 0 i v h
    simpa using this
  · rw [List.getElem?_append_right (by omega), List.getElem?_replicate] at h
    split at h <;> simp at h
theorem XM.of {l : Launch} {G : xG} {M : xM} {d mc ms : Nat} {av : List Value} {h : xH} {n : Nat} {Φ : Option Value → xH → Nat → Prop} (hM : xOK M) (hn : (lg_sl av).length ≤ M.2.2.1) (hW : XW l (gT G) M d mc ms Φ 0 (xent av M.2.2.1) [] h n) : XM l G M d mc ms av h n Φ := by
  refine Met.ofW (cc := M.2.1) (maxL := M.2.2.1) (ret := M.2.2.2.1) hM.1 rfl ?_
  intro p e s m args below meth c s₁ B hml hv
  obtain ⟨rfl, hR, hK⟩ := hv
  have hts := atoms_spec (ws := Cond.code M.1 M.2.1 M.2.2.1 M.2.2.2.1 :: xws) B.pre
  have hown : s.vm.findClass M.1.cls = some m.cls := findClass_of_methodNamed B.named
  have hin : meth.name = M.1.name := (name_of_methodNamed B.named B.method).1
  have hl := lv_entry av (n := M.2.2.1) hn
  rw [lg_entry_eq]
  have hsz := hR.1
  refine hW p e (xrm d mc ms) s m av.toArray below meth c s.heap [] 0 0 _ (xA h n) ⟨B.exec, B.bytes, hml, hown, fun w hw => hts w (List.mem_cons_of_mem _ hw), B.returns, B.notSynchronized, fun e => hin.trans e, hK⟩ hR va_S.rf (fun a e ha => Or.inl ⟨e, ha⟩) ⟨fun q hq => Or.inr (by rw [← hsz]; exact hq), trivial⟩ (Nat.le_refl _) (Nat.le_refl _) (by show 0 + mc ≤ mc; omega) (by show 0 + ms ≤ ms; omega) ⟨hl.1, hl.2.1, fun i v hi => hl.2.2 (i, v) (xent_at hi)⟩
section XS
variable {l : Launch} {G : xG} {M : xM} {d kc ks : Nat} {Φ : Option Value → xH → Nat → Prop} {pc : Nat} {L : List (Option Value)} {st : List Value} {h : xH} {n : Nat}
/-- a stretch that only moves the machine's own frame -/
theorem XW.by {pc' : Nat} {L' : List (Option Value)} {st' : List Value}
    (f : ∀ (p : Program) (e : Env) (R : Room) (s : State) (m : MethodId) (args : Array Value) (below : List Frame) (meth : Method) (c : Code) (H : Heap) (locs : List Loc) (cells slots : Nat) (ls : Array Slot) (Q : State → Prop), p.tables.exec = Jvm.exec → c.code = M.2.1 → xL ls M.2.2.1 L →
      (∀ ls' : Array Slot, xL ls' M.2.2.1 L' → W p l e R s m args below meth c H locs cells slots Q (F0 m pc' ls' st')) → W p l e R s m args below meth c H locs cells slots Q (F0 m pc ls st))
    (k : XW l G M d kc ks Φ pc' L' st' h n) : XW l G M d kc ks Φ pc L st h n := by
  intro p e R s m args below meth c H locs cells slots ls A hC hR hS hI hA h1 h2 h3 h4 hL
  exact f p e R s m args below meth c H locs cells slots ls _ hC.1 hC.2.1 hL (fun ls' hL' => k p e R s m args below meth c H locs cells slots ls' A hC hR hS hI hA h1 h2 h3 h4 hL')
end XS
/-- one instruction that needs neither heap nor branch: the new slots and stack -/
def xs (i : Instr) (nL : Nat) (L : List (Option Value)) (st : List Value) : Option (List (Option Value) × List Value) :=
  match i with
  | .iconst z => some (L, .int (iI z) :: st)
  | .bipush z => if (Int8.ofInt z).toInt32 = iI z then some (L, .int (iI z) :: st) else none
  | .sipush z => if (Int16.ofInt z).toInt32 = iI z then some (L, .int (iI z) :: st) else none
  | .lconst z => some (L, .long (Int64.ofNat z) :: st)
  | .aconst_null => some (L, .null :: st)
  | .iload_n k => match L[(k : Nat)]? with | some (some (.int x)) => some (L, .int x :: st) | _ => none
  | .iload k => match L[k]? with | some (some (.int x)) => some (L, .int x :: st) | _ => none
  | .lload_n k => match L[(k : Nat)]? with | some (some (.long x)) => some (L, .long x :: st) | _ => none
  | .lload k => match L[k]? with | some (some (.long x)) => some (L, .long x :: st) | _ => none
  | .aload_n k => match L[(k : Nat)]? with | some (some (.ref x)) => some (L, .ref x :: st) | _ => none
  | .aload k => match L[k]? with | some (some (.ref x)) => some (L, .ref x :: st) | _ => none
  | .istore_n k => match st with | .int x :: st => if (k : Nat) < nL then some (xst1 L k (.int x), st) else none | _ => none
  | .istore k => match st with | .int x :: st => if k < nL then some (xst1 L k (.int x), st) else none | _ => none
  | .astore_n k => match st with | .ref x :: st => if (k : Nat) < nL then some (xst1 L k (.ref x), st) else none | _ => none
  | .astore k => match st with | .ref x :: st => if k < nL then some (xst1 L k (.ref x), st) else none | _ => none
  | .lstore_n k => match st with | .long x :: st => if (k : Nat) + 1 < nL then some (xst2 L k (.long x), st) else none | _ => none
  | .lstore k => match st with | .long x :: st => if k + 1 < nL then some (xst2 L k (.long x), st) else none | _ => none
  | .iinc k z => match L[k]? with | some (some (.int x)) => if k < nL then some (xst1 L k (.int (x + iI z)), st) else none | _ => none
  | .iadd => match st with | .int y :: .int x :: st => some (L, .int (x + y) :: st) | _ => none
  | .isub => match st with | .int y :: .int x :: st => some (L, .int (x - y) :: st) | _ => none
  | .imul => match st with | .int y :: .int x :: st => some (L, .int (x * y) :: st) | _ => none
  | .iand => match st with | .int y :: .int x :: st => some (L, .int (x &&& y) :: st) | _ => none
  | .ior => match st with | .int y :: .int x :: st => some (L, .int (x ||| y) :: st) | _ => none
  | .ixor => match st with | .int y :: .int x :: st => some (L, .int (x ^^^ y) :: st) | _ => none
  | .ishl => match st with | .int y :: .int x :: st => some (L, .int (x <<< (y &&& 31)) :: st) | _ => none
  | .ishr => match st with | .int y :: .int x :: st => some (L, .int (x >>> (y &&& 31)) :: st) | _ => none
  | .iushr => match st with | .int y :: .int x :: st => some (L, .int (x.toUInt32 >>> (y.toUInt32 &&& Int32.toUInt32 31)).toInt32 :: st) | _ => none
  | .ineg => match st with | .int x :: st => some (L, .int (-x) :: st) | _ => none
  | .i2l => match st with | .int x :: st => some (L, .long x.toInt64 :: st) | _ => none
  | .l2i => match st with | .long x :: st => some (L, .int x.toInt32 :: st) | _ => none
  | .ladd => match st with | .long y :: .long x :: st => some (L, .long (x + y) :: st) | _ => none
  | .lsub => match st with | .long y :: .long x :: st => some (L, .long (x - y) :: st) | _ => none
  | .lmul => match st with | .long y :: .long x :: st => some (L, .long (x * y) :: st) | _ => none
  | .land => match st with | .long y :: .long x :: st => some (L, .long (x &&& y) :: st) | _ => none
  | .lor => match st with | .long y :: .long x :: st => some (L, .long (x ||| y) :: st) | _ => none
  | .lxor => match st with | .long y :: .long x :: st => some (L, .long (x ^^^ y) :: st) | _ => none
  | .lneg => match st with | .long x :: st => some (L, .long (-x) :: st) | _ => none
  | .lshl => match st with | .int y :: .long x :: st => some (L, .long (x <<< (y.toInt64 &&& 63)) :: st) | _ => none
  | .lshr => match st with | .int y :: .long x :: st => some (L, .long (x >>> (y.toInt64 &&& 63)) :: st) | _ => none
  | .lushr => match st with | .int y :: .long x :: st => some (L, .long (x.toUInt64 >>> (y.toInt64.toUInt64 &&& Int64.toUInt64 63)).toInt64 :: st) | _ => none
  | .lcmp => match st with | .long y :: .long x :: st => some (L, .int (lg_cmp x y) :: st) | _ => none
  | .dup => match st with
    | .int x :: st => some (L, .int x :: .int x :: st)
    | .ref x :: st => some (L, .ref x :: .ref x :: st)
    | _ => none
  | .dup_x1 => match st with
    | .int x :: .ref y :: st => some (L, .int x :: .ref y :: .int x :: st)
    | .int x :: .int y :: st => some (L, .int x :: .int y :: .int x :: st)
    | _ => none
  | .dup_x2 => match st with
    | .int x :: .int y :: .ref z :: st => some (L, .int x :: .int y :: .ref z :: .int x :: st)
    | _ => none
  | .dup2 => match st with
    | .int x :: .ref y :: st => some (L, .int x :: .ref y :: .int x :: .ref y :: st)
    | .int x :: .int y :: st => some (L, .int x :: .int y :: .int x :: .int y :: st)
    | .long x :: st => some (L, .long x :: .long x :: st)
    | _ => none
  | .pop => match st with
    | .int _ :: st => some (L, st)
    | .ref _ :: st => some (L, st)
    | _ => none
  | _ => none
/-- its length -/
def xlen : Instr → Nat
  | .bipush _ => 2
  | .sipush _ => 3
  | .iload _ => 2
  | .lload _ => 2
  | .aload _ => 2
  | .istore _ => 2
  | .lstore _ => 2
  | .astore _ => 2
  | .iinc _ _ => 3
  | _ => 1
end
section
section XSOK
variable {p : Program} {l : Launch} {e : Env} {R : Room} {s : State} {m : MethodId} {args : Array Value} {below : List Frame} {meth : Method} {c : Code} {H : Heap} {locs : List Loc} {cells slots : Nat} {Q : State → Prop}
set_option maxHeartbeats 4000000 in
theorem xs_ok {cc : ByteArray} {nL pc : Nat} {ls : Array Slot} {L L' : List (Option Value)} {st st' : List Value} {i : Instr} (hx : p.tables.exec = Jvm.exec) (hb : c.code = cc) (hL : xL ls nL L) (hd : decode cc pc = .ok (i, xlen i)) (hs : xs i nL L st = some (L', st')) (k : ∀ ls' : Array Slot, xL ls' nL L' → W p l e R s m args below meth c H locs cells slots Q (F0 m (pc + xlen i) ls' st')) : W p l e R s m args below meth c H locs cells slots Q (F0 m pc ls st) := by
  cases i
  case iconst z =>
    simp only [xs] at hs
    cases hs
    exact lv_iconst hx hb hd rfl (k ls hL)
  case bipush z =>
    simp only [xs] at hs
    split at hs
    · rename_i hz
      cases hs
      exact lv_bipush hx hb hd hz (k ls hL)
    · cases hs
  case sipush z =>
    simp only [xs] at hs
    split at hs
    · rename_i hz
      cases hs
      exact lv_sipush hx hb hd hz (k ls hL)
    · cases hs
  case lconst z =>
    simp only [xs] at hs
    cases hs
    exact lv_lconst hx hb hd rfl (k ls hL)
  case aconst_null =>
    simp only [xs] at hs
    cases hs
    exact lv_null hx hb hd (k ls hL)
  case iload_n q =>
    simp only [xs] at hs
    split at hs
    · rename_i x hq
      cases hs
      exact lv_iload_n hx hb hd rfl (hL.2.2 _ _ hq) (k ls hL)
    · cases hs
  case iload q =>
    simp only [xs] at hs
    split at hs
    · rename_i x hq
      cases hs
      exact lv_iload hx hb hd (hL.2.2 _ _ hq) (k ls hL)
    · cases hs
  case lload_n q =>
    simp only [xs] at hs
    split at hs
    · rename_i x hq
      cases hs
      exact lv_lload_n hx hb hd rfl (hL.2.2 _ _ hq) (k ls hL)
    · cases hs
  case lload q =>
    simp only [xs] at hs
    split at hs
    · rename_i x hq
      cases hs
      exact lv_lload hx hb hd (hL.2.2 _ _ hq) (k ls hL)
    · cases hs
  case aload_n q =>
    simp only [xs] at hs
    split at hs
    · rename_i x hq
      cases hs
      exact lv_aload_n hx hb hd rfl (hL.2.2 _ _ hq) (k ls hL)
    · cases hs
  case aload q =>
    simp only [xs] at hs
    split at hs
    · rename_i x hq
      cases hs
      exact lv_aload hx hb hd (hL.2.2 _ _ hq) (k ls hL)
    · cases hs
  case istore_n q =>
    simp only [xs] at hs
    split at hs
    · split at hs
      · rename_i hq
        cases hs
        exact lv_istore_n hx hb hd rfl hL.has hq rfl (fun ls' h' => k ls' (hL.st1 rfl h'))
      · cases hs
    · cases hs
  case istore q =>
    simp only [xs] at hs
    split at hs
    · split at hs
      · rename_i hq
        cases hs
        exact lv_istore hx hb hd hL.has hq rfl (fun ls' h' => k ls' (hL.st1 rfl h'))
      · cases hs
    · cases hs
  case astore_n q =>
    simp only [xs] at hs
    split at hs
    · split at hs
      · rename_i hq
        cases hs
        exact lv_astore_n hx hb hd rfl hL.has hq rfl (fun ls' h' => k ls' (hL.st1 rfl h'))
      · cases hs
    · cases hs
  case astore q =>
    simp only [xs] at hs
    split at hs
    · split at hs
      · rename_i hq
        cases hs
        exact lv_astore hx hb hd hL.has hq rfl (fun ls' h' => k ls' (hL.st1 rfl h'))
      · cases hs
    · cases hs
  case lstore_n q =>
    simp only [xs] at hs
    split at hs
    · split at hs
      · rename_i hq
        cases hs
        exact lv_lstore_n hx hb hd rfl hL.has hq rfl (fun ls' h' => k ls' (hL.st2 rfl h'))
      · cases hs
    · cases hs
  case lstore q =>
    simp only [xs] at hs
    split at hs
    · split at hs
      · rename_i hq
        cases hs
        exact lv_lstore hx hb hd hL.has hq rfl (fun ls' h' => k ls' (hL.st2 rfl h'))
      · cases hs
    · cases hs
  case iinc q z =>
    simp only [xs] at hs
    split at hs
    · split at hs
      · rename_i x hq hn
        cases hs
        obtain ⟨j, hj⟩ := List.getElem?_of_mem (xprs_mem.mpr hq)
        exact lv_iinc hx hb hd hL.has hj rfl hn rfl (fun ls' h' => k ls' (hL.st1 rfl h'))
      · cases hs
    · cases hs
  case iadd =>
    simp only [xs] at hs
    split at hs
    · cases hs
      exact lv_iadd hx hb hd (k ls hL)
    · cases hs
  case isub =>
    simp only [xs] at hs
    split at hs
    · cases hs
      exact lv_isub hx hb hd (k ls hL)
    · cases hs
  case imul =>
    simp only [xs] at hs
    split at hs
    · cases hs
      exact lv_imul hx hb hd (k ls hL)
    · cases hs
  case iand =>
    simp only [xs] at hs
    split at hs
    · cases hs
      exact lv_iand hx hb hd (k ls hL)
    · cases hs
  case ior =>
    simp only [xs] at hs
    split at hs
    · cases hs
      exact lv_ior hx hb hd (k ls hL)
    · cases hs
  case ixor =>
    simp only [xs] at hs
    split at hs
    · cases hs
      exact lv_ixor hx hb hd (k ls hL)
    · cases hs
  case ishl =>
    simp only [xs] at hs
    split at hs
    · cases hs
      exact lv_ishl hx hb hd (k ls hL)
    · cases hs
  case ishr =>
    simp only [xs] at hs
    split at hs
    · cases hs
      exact lv_ishr hx hb hd (k ls hL)
    · cases hs
  case ineg =>
    simp only [xs] at hs
    split at hs
    · cases hs
      exact lv_ineg hx hb hd (k ls hL)
    · cases hs
  case ladd =>
    simp only [xs] at hs
    split at hs
    · cases hs
      exact lv_ladd hx hb hd (k ls hL)
    · cases hs
  case lsub =>
    simp only [xs] at hs
    split at hs
    · cases hs
      exact lv_lsub hx hb hd (k ls hL)
    · cases hs
  case lmul =>
    simp only [xs] at hs
    split at hs
    · cases hs
      exact lv_lmul hx hb hd (k ls hL)
    · cases hs
  case land =>
    simp only [xs] at hs
    split at hs
    · cases hs
      exact lv_land hx hb hd (k ls hL)
    · cases hs
  case lor =>
    simp only [xs] at hs
    split at hs
    · cases hs
      exact lv_lor hx hb hd (k ls hL)
    · cases hs
  case lxor =>
    simp only [xs] at hs
    split at hs
    · cases hs
      exact lv_lxor hx hb hd (k ls hL)
    · cases hs
  case lneg =>
    simp only [xs] at hs
    split at hs
    · cases hs
      exact lv_lneg hx hb hd (k ls hL)
    · cases hs
  case iushr =>
    simp only [xs] at hs
    split at hs
    · cases hs
      exact lv_iushr hx hb hd rfl (k ls hL)
    · cases hs
  case i2l =>
    simp only [xs] at hs
    split at hs
    · cases hs
      exact lv_i2l hx hb hd rfl (k ls hL)
    · cases hs
  case l2i =>
    simp only [xs] at hs
    split at hs
    · cases hs
      exact lv_l2i hx hb hd rfl (k ls hL)
    · cases hs
  case lshl =>
    simp only [xs] at hs
    split at hs
    · cases hs
      exact lv_lshl hx hb hd rfl (k ls hL)
    · cases hs
  case lshr =>
    simp only [xs] at hs
    split at hs
    · cases hs
      exact lv_lshr hx hb hd rfl (k ls hL)
    · cases hs
  case lushr =>
    simp only [xs] at hs
    split at hs
    · cases hs
      exact lv_lushr hx hb hd rfl (k ls hL)
    · cases hs
  case lcmp =>
    simp only [xs] at hs
    split at hs
    · cases hs
      exact W.lcmp hx hb hd (k ls hL)
    · cases hs
  case dup =>
    simp only [xs] at hs
    split at hs
    · cases hs
      exact lv_dup hx hb hd rfl (k ls hL)
    · cases hs
      exact lv_dup hx hb hd rfl (k ls hL)
    · cases hs
  case dup_x1 =>
    simp only [xs] at hs
    split at hs
    · cases hs
      exact lv_dup_x1 hx hb hd rfl rfl (k ls hL)
    · cases hs
      exact lv_dup_x1 hx hb hd rfl rfl (k ls hL)
    · cases hs
  case dup_x2 =>
    simp only [xs] at hs
    split at hs
    · cases hs
      exact lv_dup_x2 hx hb hd rfl rfl rfl (k ls hL)
    · cases hs
  case dup2 =>
    simp only [xs] at hs
    split at hs
    · cases hs
      exact lv_dup2_11 hx hb hd rfl rfl (k ls hL)
    · cases hs
      exact lv_dup2_11 hx hb hd rfl rfl (k ls hL)
    · cases hs
      exact lv_dup2_2 hx hb hd rfl (k ls hL)
    · cases hs
  case pop =>
    simp only [xs] at hs
    split at hs
    · cases hs
      exact lv_pop hx hb hd rfl (k ls hL)
    · cases hs
      exact lv_pop hx hb hd rfl (k ls hL)
    · cases hs
  all_goals (simp [xs] at hs)
end XSOK
end
section
/-- a jump's target, out of the rows -/
def xtg (M : xM) (pc : Nat) (off : Int) : Option Nat := (M.2.2.2.2.1.find? (fun q => decide ((q.1 : Int) = (pc : Int) + off))).map (fun q => q.1)
theorem xtg_of {M : xM} {pc : Nat} {off : Int} {tgt : Nat} (h : xtg M pc off = some tgt) : (pc : Int) + off = (tgt : Int) := by
  unfold xtg at h
  cases hf : M.2.2.2.2.1.find? (fun q => decide ((q.1 : Int) = (pc : Int) + off)) with
  | none => rw [hf] at h; cases h
  | some q =>
    rw [hf] at h
    have h1 := List.find?_some hf
    have h2 := of_decide_eq_true h1
    have h3 : q.1 = tgt := Option.some.inj h
    rw [← h3]
    exact h2.symm
/-- the place behind this one, out of the rows -/
def xnx : List (Nat × Instr × Nat) → Nat → Nat
  | [], _ => 0
  | q :: r, pc => match Nat.beq q.1 pc with
    | true => match r with
      | [] => 0
      | q2 :: _ => q2.1
    | false => xnx r pc
/-- runs on to the next instruction that is none of xs, or to a loop's head -/
def xgo (M : xM) : Nat → Bool → Nat → List (Option Value) → List Value → Nat × List (Option Value) × List Value
  | 0, _, pc, L, st => (pc, L, st)
  | f + 1, b, pc, L, st => match !b && M.2.2.2.2.2.1.contains pc with
    | true => (pc, L, st)
    | false => match xat M pc with
      | some (.goto off, 3) => match xtg M pc off with
        | some q => xgo M f false q L st
        | none => (pc, L, st)
      | some (i, len) => match Nat.beq len (xlen i) && Nat.beq (xnx M.2.2.2.2.1 pc) (pc + len) with
        | true => match xs i M.2.2.1 L st with
          | some (L', st') => xgo M f false (xnx M.2.2.2.2.1 pc) L' st'
          | none => (pc, L, st)
        | false => (pc, L, st)
      | none => (pc, L, st)
section XR
variable {l : Launch} {G : xG} {M : xM} {d kc ks : Nat} {Φ : Option Value → xH → Nat → Prop} {h : xH} {n : Nat}
set_option maxHeartbeats 1000000 in
theorem x_go (hM : xOK M) : ∀ (f : Nat) (b : Bool) (pc : Nat) (L : List (Option Value)) (st : List Value), (XW l G M d kc ks Φ (xgo M f b pc L st).1 (xgo M f b pc L st).2.1 (xgo M f b pc L st).2.2 h n) → XW l G M d kc ks Φ pc L st h n := by
  intro f
  induction f with
  | zero => intro b pc L st k; exact k
  | succ f ih =>
    intro b pc L st k
    unfold xgo at k
    split at k
    · exact k
    · split at k
      · rename_i off hat
        split at k
        · rename_i q hq
          have k := ih false q L st k
          exact XW.by (fun p e R s m args below meth c H locs cells slots ls Q hx hb hL kk => lv_goto (tgt := q) hx hb (hM.dec hat) (xtg_of hq) (kk ls hL)) k
        · exact k
      · rename_i i len hno hat
        split at k
        · rename_i hlen
          rw [Bool.and_eq_true] at hlen
          have hnx := Nat.eq_of_beq_eq_true hlen.2
          have hlen := Nat.eq_of_beq_eq_true hlen.1
          subst hlen
          split at k
          · rename_i L' st' hs
            rw [hnx] at k
            have k := ih false (pc + xlen i) L' st' k
            exact XW.by (fun p e R s m args below meth c H locs cells slots ls Q hx hb hL kk => xs_ok hx hb hL (hM.dec hat) hs kk) k
          · exact k
        · exact k
      · exact k
/-- the run to the next stop: 'refine x_run hM rfl ?_' -/
theorem x_run (hM : xOK M) {pc pc' : Nat} {L L' : List (Option Value)} {st st' : List Value} (hr : xgo M 80 true pc L st = (pc', L', st')) (k : XW l G M d kc ks Φ pc' L' st' h n) : XW l G M d kc ks Φ pc L st h n := by
  refine x_go hM 80 true pc L st ?_
  rw [hr]
  exact k
variable {pc : Nat} {L : List (Option Value)} {st : List Value}
theorem x_if_eq (hM : xOK M) {x : Int32} {off : Int} {tgt : Nat} (hd : xat M pc = some (.ifCond .eq off, 3)) (ht : xtg M pc off = some tgt) (kt : x = 0 → XW l G M d kc ks Φ tgt L st h n) (kf : ¬ x = 0 → XW l G M d kc ks Φ (pc + 3) L st h n) : XW l G M d kc ks Φ pc L (.int x :: st) h n := by
  intro p e R s m args below meth c H locs cells slots ls A hC hR hS hI hA h1 h2 h3 h4 hL
  exact lv_if_eq hC.1 hC.2.1 (hM.dec hd) (xtg_of ht) (fun c1 => kt c1 p e R s m args below meth c H locs cells slots ls A hC hR hS hI hA h1 h2 h3 h4 hL) (fun c1 => kf c1 p e R s m args below meth c H locs cells slots ls A hC hR hS hI hA h1 h2 h3 h4 hL)
theorem x_ic_eq (hM : xOK M) {x y : Int32} {off : Int} {tgt : Nat} (hd : xat M pc = some (.if_icmp .eq off, 3)) (ht : xtg M pc off = some tgt) (kt : x = y → XW l G M d kc ks Φ tgt L st h n) (kf : ¬ x = y → XW l G M d kc ks Φ (pc + 3) L st h n) : XW l G M d kc ks Φ pc L (.int y :: .int x :: st) h n := by
  intro p e R s m args below meth c H locs cells slots ls A hC hR hS hI hA h1 h2 h3 h4 hL
  exact lv_icmp_eq hC.1 hC.2.1 (hM.dec hd) (xtg_of ht) (fun c1 => kt c1 p e R s m args below meth c H locs cells slots ls A hC hR hS hI hA h1 h2 h3 h4 hL) (fun c1 => kf c1 p e R s m args below meth c H locs cells slots ls A hC hR hS hI hA h1 h2 h3 h4 hL)
theorem x_if_ne (hM : xOK M) {x : Int32} {off : Int} {tgt : Nat} (hd : xat M pc = some (.ifCond .ne off, 3)) (ht : xtg M pc off = some tgt) (kt : ¬ x = 0 → XW l G M d kc ks Φ tgt L st h n) (kf : x = 0 → XW l G M d kc ks Φ (pc + 3) L st h n) : XW l G M d kc ks Φ pc L (.int x :: st) h n := by
  intro p e R s m args below meth c H locs cells slots ls A hC hR hS hI hA h1 h2 h3 h4 hL
  exact lv_if_ne hC.1 hC.2.1 (hM.dec hd) (xtg_of ht) (fun c1 => kt c1 p e R s m args below meth c H locs cells slots ls A hC hR hS hI hA h1 h2 h3 h4 hL) (fun c1 => kf c1 p e R s m args below meth c H locs cells slots ls A hC hR hS hI hA h1 h2 h3 h4 hL)
theorem x_ic_ne (hM : xOK M) {x y : Int32} {off : Int} {tgt : Nat} (hd : xat M pc = some (.if_icmp .ne off, 3)) (ht : xtg M pc off = some tgt) (kt : ¬ x = y → XW l G M d kc ks Φ tgt L st h n) (kf : x = y → XW l G M d kc ks Φ (pc + 3) L st h n) : XW l G M d kc ks Φ pc L (.int y :: .int x :: st) h n := by
  intro p e R s m args below meth c H locs cells slots ls A hC hR hS hI hA h1 h2 h3 h4 hL
  exact lv_icmp_ne hC.1 hC.2.1 (hM.dec hd) (xtg_of ht) (fun c1 => kt c1 p e R s m args below meth c H locs cells slots ls A hC hR hS hI hA h1 h2 h3 h4 hL) (fun c1 => kf c1 p e R s m args below meth c H locs cells slots ls A hC hR hS hI hA h1 h2 h3 h4 hL)
theorem x_if_lt (hM : xOK M) {x : Int32} {off : Int} {tgt : Nat} (hd : xat M pc = some (.ifCond .lt off, 3)) (ht : xtg M pc off = some tgt) (kt : x < 0 → XW l G M d kc ks Φ tgt L st h n) (kf : ¬ x < 0 → XW l G M d kc ks Φ (pc + 3) L st h n) : XW l G M d kc ks Φ pc L (.int x :: st) h n := by
  intro p e R s m args below meth c H locs cells slots ls A hC hR hS hI hA h1 h2 h3 h4 hL
  exact lv_if_lt hC.1 hC.2.1 (hM.dec hd) (xtg_of ht) (fun c1 => kt c1 p e R s m args below meth c H locs cells slots ls A hC hR hS hI hA h1 h2 h3 h4 hL) (fun c1 => kf c1 p e R s m args below meth c H locs cells slots ls A hC hR hS hI hA h1 h2 h3 h4 hL)
theorem x_ic_lt (hM : xOK M) {x y : Int32} {off : Int} {tgt : Nat} (hd : xat M pc = some (.if_icmp .lt off, 3)) (ht : xtg M pc off = some tgt) (kt : x < y → XW l G M d kc ks Φ tgt L st h n) (kf : ¬ x < y → XW l G M d kc ks Φ (pc + 3) L st h n) : XW l G M d kc ks Φ pc L (.int y :: .int x :: st) h n := by
  intro p e R s m args below meth c H locs cells slots ls A hC hR hS hI hA h1 h2 h3 h4 hL
  exact lv_icmp_lt hC.1 hC.2.1 (hM.dec hd) (xtg_of ht) (fun c1 => kt c1 p e R s m args below meth c H locs cells slots ls A hC hR hS hI hA h1 h2 h3 h4 hL) (fun c1 => kf c1 p e R s m args below meth c H locs cells slots ls A hC hR hS hI hA h1 h2 h3 h4 hL)
theorem x_if_ge (hM : xOK M) {x : Int32} {off : Int} {tgt : Nat} (hd : xat M pc = some (.ifCond .ge off, 3)) (ht : xtg M pc off = some tgt) (kt : 0 ≤ x → XW l G M d kc ks Φ tgt L st h n) (kf : ¬ 0 ≤ x → XW l G M d kc ks Φ (pc + 3) L st h n) : XW l G M d kc ks Φ pc L (.int x :: st) h n := by
  intro p e R s m args below meth c H locs cells slots ls A hC hR hS hI hA h1 h2 h3 h4 hL
  exact lv_if_ge hC.1 hC.2.1 (hM.dec hd) (xtg_of ht) (fun c1 => kt c1 p e R s m args below meth c H locs cells slots ls A hC hR hS hI hA h1 h2 h3 h4 hL) (fun c1 => kf c1 p e R s m args below meth c H locs cells slots ls A hC hR hS hI hA h1 h2 h3 h4 hL)
theorem x_ic_ge (hM : xOK M) {x y : Int32} {off : Int} {tgt : Nat} (hd : xat M pc = some (.if_icmp .ge off, 3)) (ht : xtg M pc off = some tgt) (kt : y ≤ x → XW l G M d kc ks Φ tgt L st h n) (kf : ¬ y ≤ x → XW l G M d kc ks Φ (pc + 3) L st h n) : XW l G M d kc ks Φ pc L (.int y :: .int x :: st) h n := by
  intro p e R s m args below meth c H locs cells slots ls A hC hR hS hI hA h1 h2 h3 h4 hL
  exact lv_icmp_ge hC.1 hC.2.1 (hM.dec hd) (xtg_of ht) (fun c1 => kt c1 p e R s m args below meth c H locs cells slots ls A hC hR hS hI hA h1 h2 h3 h4 hL) (fun c1 => kf c1 p e R s m args below meth c H locs cells slots ls A hC hR hS hI hA h1 h2 h3 h4 hL)
theorem x_if_gt (hM : xOK M) {x : Int32} {off : Int} {tgt : Nat} (hd : xat M pc = some (.ifCond .gt off, 3)) (ht : xtg M pc off = some tgt) (kt : 0 < x → XW l G M d kc ks Φ tgt L st h n) (kf : ¬ 0 < x → XW l G M d kc ks Φ (pc + 3) L st h n) : XW l G M d kc ks Φ pc L (.int x :: st) h n := by
  intro p e R s m args below meth c H locs cells slots ls A hC hR hS hI hA h1 h2 h3 h4 hL
  exact lv_if_gt hC.1 hC.2.1 (hM.dec hd) (xtg_of ht) (fun c1 => kt c1 p e R s m args below meth c H locs cells slots ls A hC hR hS hI hA h1 h2 h3 h4 hL) (fun c1 => kf c1 p e R s m args below meth c H locs cells slots ls A hC hR hS hI hA h1 h2 h3 h4 hL)
theorem x_ic_gt (hM : xOK M) {x y : Int32} {off : Int} {tgt : Nat} (hd : xat M pc = some (.if_icmp .gt off, 3)) (ht : xtg M pc off = some tgt) (kt : y < x → XW l G M d kc ks Φ tgt L st h n) (kf : ¬ y < x → XW l G M d kc ks Φ (pc + 3) L st h n) : XW l G M d kc ks Φ pc L (.int y :: .int x :: st) h n := by
  intro p e R s m args below meth c H locs cells slots ls A hC hR hS hI hA h1 h2 h3 h4 hL
  exact lv_icmp_gt hC.1 hC.2.1 (hM.dec hd) (xtg_of ht) (fun c1 => kt c1 p e R s m args below meth c H locs cells slots ls A hC hR hS hI hA h1 h2 h3 h4 hL) (fun c1 => kf c1 p e R s m args below meth c H locs cells slots ls A hC hR hS hI hA h1 h2 h3 h4 hL)
theorem x_if_le (hM : xOK M) {x : Int32} {off : Int} {tgt : Nat} (hd : xat M pc = some (.ifCond .le off, 3)) (ht : xtg M pc off = some tgt) (kt : x ≤ 0 → XW l G M d kc ks Φ tgt L st h n) (kf : ¬ x ≤ 0 → XW l G M d kc ks Φ (pc + 3) L st h n) : XW l G M d kc ks Φ pc L (.int x :: st) h n := by
  intro p e R s m args below meth c H locs cells slots ls A hC hR hS hI hA h1 h2 h3 h4 hL
  exact lv_if_le hC.1 hC.2.1 (hM.dec hd) (xtg_of ht) (fun c1 => kt c1 p e R s m args below meth c H locs cells slots ls A hC hR hS hI hA h1 h2 h3 h4 hL) (fun c1 => kf c1 p e R s m args below meth c H locs cells slots ls A hC hR hS hI hA h1 h2 h3 h4 hL)
theorem x_ic_le (hM : xOK M) {x y : Int32} {off : Int} {tgt : Nat} (hd : xat M pc = some (.if_icmp .le off, 3)) (ht : xtg M pc off = some tgt) (kt : x ≤ y → XW l G M d kc ks Φ tgt L st h n) (kf : ¬ x ≤ y → XW l G M d kc ks Φ (pc + 3) L st h n) : XW l G M d kc ks Φ pc L (.int y :: .int x :: st) h n := by
  intro p e R s m args below meth c H locs cells slots ls A hC hR hS hI hA h1 h2 h3 h4 hL
  exact lv_icmp_le hC.1 hC.2.1 (hM.dec hd) (xtg_of ht) (fun c1 => kt c1 p e R s m args below meth c H locs cells slots ls A hC hR hS hI hA h1 h2 h3 h4 hL) (fun c1 => kf c1 p e R s m args below meth c H locs cells slots ls A hC hR hS hI hA h1 h2 h3 h4 hL)
/-- the ends -/
theorem x_iret (hM : xOK M) {v : Int32} {ty : FieldType} (hd : xat M pc = some (.ireturn, 1)) (hr : M.2.2.2.1 = some ty) (hn : narrow ty (.int v) = .int v) (hΦ : Φ (some (.int v)) h n) : XW l G M d kc ks Φ pc L [.int v] h n := by
  intro p e R s m args below meth c H locs cells slots ls A hC hR hS hI hA h1 h2 h3 h4 hL
  refine W.widen (k := R.cells) (n := R.slots) (by omega) (by omega) ?_
  exact W.zret (free := A) hC.1 hC.2.1 (hC.2.2.2.2.2.1.trans hr) hn (fun t ht hW => ⟨_, h, n, rfl, hΦ, by rw [ht]; exact hR, hI, hS.F ht⟩) hS.2.2 (hM.dec hd) hC.2.2.2.2.2.2.1
theorem x_lret (hM : xOK M) {v : Int64} (hd : xat M pc = some (.lreturn, 1)) (hr : M.2.2.2.1 = some .long) (hΦ : Φ (some (.long v)) h n) : XW l G M d kc ks Φ pc L [.long v] h n := by
  intro p e R s m args below meth c H locs cells slots ls A hC hR hS hI hA h1 h2 h3 h4 hL
  refine W.widen (k := R.cells) (n := R.slots) (by omega) (by omega) ?_
  exact W.lret (free := A) hC.1 hC.2.1 (hC.2.2.2.2.2.1.trans hr) (fun t ht hW => ⟨_, h, n, rfl, hΦ, by rw [ht]; exact hR, hI, hS.F ht⟩) hS.2.2 (hM.dec hd) hC.2.2.2.2.2.2.1
theorem x_vret (hM : xOK M) (hd : xat M pc = some (.return_, 1)) (hr : M.2.2.2.1 = none) (hΦ : Φ none h n) : XW l G M d kc ks Φ pc L [] h n := by
  intro p e R s m args below meth c H locs cells slots ls A hC hR hS hI hA h1 h2 h3 h4 hL
  refine W.widen (k := R.cells) (n := R.slots) (by omega) (by omega) ?_
  exact W.vret (free := A) hC.1 hC.2.1 (hC.2.2.2.2.2.1.trans hr) (fun t ht hW => ⟨_, h, n, rfl, hΦ, by rw [ht]; exact hR, hI, hS.F ht⟩) hS.2.2 (hM.dec hd) hC.2.2.2.2.2.2.1
end XR
end
section
section XHP
variable {l : Launch} {G : xG} {M : xM} {d kc ks : Nat} {Φ : Option Value → xH → Nat → Prop} {h : xH} {n : Nat} {pc : Nat} {L : List (Option Value)} {st : List Value}
theorem xone {G : xG} {h : xH} {n : Nat} {H : Heap} (hR : xRep G h n H) {a : Nat} {e : xE} (ha : h a = some e) : va_P G.1 vwCl [(a, xe G e)] H := by
  intro k q hq
  match k, hq with
  | 0, hq => cases hq; exact hR.2 a e ha
  | k + 1, hq => simp at hq
theorem x_get (hM : xOK M) {idx a ci k : Nat} {fs : List Value} {v : Value} (hd : xat M pc = some (.getfield idx, 3)) (hf : M.2.2.2.2.2.2.lookup idx = some (ci, k)) (ha : h a = some (.inr (ci, fs))) (hv : fs[k]? = some v) (kk : XW l G M d kc ks Φ (pc + 3) L (v :: st) h n) : XW l G M d kc ks Φ pc L (.ref a :: st) h n := by
  intro p e R s m args below meth c H locs cells slots ls A hC hR hS hI hA h1 h2 h3 h4 hL
  obtain ⟨C, T, N, hc, hk, hw⟩ := hM.2.2.2 _ (xlook hf)
  exact va_get (D := G.1) (cl := vwCl) (ws := [(a, .inr (ci, fs))]) hC.1 hC.2.1 hC.2.2.2.2.1 (xcl_in hc) hC.2.2.2.1 hC.2.2.2.2.2.2.2.2.1 (xone hR ha) 0 rfl hc k hk (hC.2.2.2.2.1 _ hw) (fun _ q => q) hv (hM.dec hd) (kk p e R s m args below meth c H locs cells slots ls A hC hR hS hI hA h1 h2 h3 h4 hL)
theorem x_put (hM : xOK M) {idx a ci k : Nat} {fs : List Value} {v : Value} (hd : xat M pc = some (.putfield idx, 3)) (hf : M.2.2.2.2.2.2.lookup idx = some (ci, k)) (ha : h a = some (.inr (ci, fs))) (hfin : xfin ci k = false) (hn : narrow (xty ci k) v = v) (hfit : fits (xty ci k) v = true) (hl : k < fs.length) (kk : XW l G M d kc ks Φ (pc + 3) L st (xup h a (.inr (ci, fs.set k v))) n) : XW l G M d kc ks Φ pc L (v :: .ref a :: st) h n := by
  intro p e R s m args below meth c H locs cells slots ls A hC hR hS hI hA h1 h2 h3 h4 hL
  obtain ⟨hx, hb, hml, hown, hts, hr, hlk, hnm, hK⟩ := id hC
  obtain ⟨C, T, N, hc, hk, hw⟩ := hM.2.2.2 _ (xlook hf)
  have hin := xcl_in hc
  have hap := va_apart (own := M.1.cls) hts hin (xty ci) (xcl_ty hc) (xcl_nm hc) hK.1 hc
  obtain ⟨r, e1, cell, q1, q2, q3, q4⟩ := hR.2 a _ ha
  have hr' : r = (C, T, N) := Option.some.inj (e1.symm.trans hc)
  subst hr'
  obtain ⟨hSl, hfc, kC, hkC, hkind⟩ := hK.1.1 ci _ hc
  obtain ⟨cf, kf, fi, f, hi, hsl⟩ := hSl k hk
  have hlay := hts _ (hin _ (u_in_lay hk))
  unfold u_lay at hlay
  have hfin' : (T k).2.2.2 = false := by
    have := hfin
    unfold xfin at this
    rw [hc] at this
    exact this
  rw [if_neg (by rw [hfin']; decide)] at hlay
  have hst := (u_facts hfc hkC (u_lays hts hin hk) hi).1
  have h6 := u_store hfc hkC hkind hlay hi (xcl_ty hc k hk) hn hfit
  refine W.putK hx hb (f := f) ⟨hown, hts _ hw, ⟨_, _, _, hi⟩, hst⟩ (by rw [q2]; exact h6) q1 q3 (by rw [hsl]; exact k2_hasslot (q4 k hk)) rfl rfl (hM.dec hd) fun H' g1 g2 g3 => ?_
  rw [hsl] at g1 ⊢
  exact kk p e R s m args below meth c H' _ cells slots ls A hC (hR.put g2 ⟨_, hc, t_OB.to (V := updV (vp_V fs) k v) ⟨_, g1, q2, q3, t_set q4 hap hk v⟩ (fun j _ => vp_updV_set hl v j)⟩ g3) (hS.put g2 g3 (hI a _ ha)) (hI.put _ (hI a _ ha)) hA h1 h2 h3 h4 hL
theorem x_putF (hM : xOK M) {idx a ci k : Nat} {fs : List Value} {v : Value} (hd : xat M pc = some (.putfield idx, 3)) (hf : M.2.2.2.2.2.2.lookup idx = some (ci, k)) (ha : h a = some (.inr (ci, fs))) (hfin : xfin ci k = true) (hi0 : M.1.name = "<init>") (ho : xdec ci k = M.1.cls) (hn : narrow (xty ci k) v = v) (hfit : fits (xty ci k) v = true) (hl : k < fs.length) (kk : XW l G M d kc ks Φ (pc + 3) L st (xup h a (.inr (ci, fs.set k v))) n) : XW l G M d kc ks Φ pc L (v :: .ref a :: st) h n := by
  intro p e R s m args below meth c H locs cells slots ls A hC hR hS hI hA h1 h2 h3 h4 hL
  obtain ⟨hx, hb, hml, hown, hts, hr, hlk, hnm, hK⟩ := id hC
  obtain ⟨C, T, N, hc, hk, hw⟩ := hM.2.2.2 _ (xlook hf)
  have hin := xcl_in hc
  have hap := va_apart (own := M.1.cls) hts hin (xty ci) (xcl_ty hc) (xcl_nm hc) hK.1 hc
  obtain ⟨r, e1, cell, q1, q2, q3, q4⟩ := hR.2 a _ ha
  have hr' : r = (C, T, N) := Option.some.inj (e1.symm.trans hc)
  subst hr'
  obtain ⟨hSl, hfc, kC, hkC, hkind⟩ := hK.1.1 ci _ hc
  obtain ⟨cf, kf, fi, f, hi, hsl⟩ := hSl k hk
  have hlay := hts _ (hin _ (u_in_lay hk))
  unfold u_lay at hlay
  have hfin' : (T k).2.2.2 = true := by
    have := hfin
    unfold xfin at this
    rw [hc] at this
    exact this
  have hdecl : (T k).1 = M.1.cls := by
    have := ho
    unfold xdec at this
    rw [hc] at this
    exact this
  rw [if_pos hfin'] at hlay
  have hst := (u_facts hfc hkC (u_lays hts hin hk) hi).1
  have hcf : m.cls = cf := by
    obtain ⟨_, _, c', _, _, _, -, -, hf', -, -, -, hown2, -⟩ := Cond.laysFinal_spec hlay
    have e1 : c' = cf := by have := hi.symm.trans hf'; simp at this; exact this.1.symm
    rw [hdecl] at hown2
    rw [← e1]; exact Option.some.inj (hown.symm.trans hown2)
  have h6 := u_fits hfc hkC hkind (Or.inr hlay) hi (xcl_ty hc k hk) hn hfit
  refine W.putFinK hx hb hown (hts _ hw) hi hst hcf (hnm hi0) (by rw [q2]; exact h6) q1 q3 (by rw [hsl]; exact k2_hasslot (q4 k hk)) rfl rfl (hM.dec hd) fun H' g1 g2 g3 => ?_
  rw [hsl] at g1 ⊢
  exact kk p e R s m args below meth c H' _ cells slots ls A hC (hR.put g2 ⟨_, hc, t_OB.to (V := updV (vp_V fs) k v) ⟨_, g1, q2, q3, t_set q4 hap hk v⟩ (fun j _ => vp_updV_set hl v j)⟩ g3) (hS.put g2 g3 (hI a _ ha)) (hI.put _ (hI a _ ha)) hA h1 h2 h3 h4 hL
/-- arrays -/
theorem x_iald (hM : xOK M) {a t N : Nat} {f : Nat → Int32} {i : Int32} (hd : xat M pc = some (.iaload, 1)) (ha : h a = some (.inl (t, N, .inl f))) (ht : xTys[t]? = some .int) (hin : vp_in i N) (kk : XW l G M d kc ks Φ (pc + 1) L (.int (f i.toNatClampNeg) :: st) h n) : XW l G M d kc ks Φ pc L (.int i :: .ref a :: st) h n := by
  intro p e R s m args below meth c H locs cells slots ls A hC hR hS hI hA h1 h2 h3 h4 hL
  exact va_iald (D := G.1) (cl := vwCl) (ws := [(a, .inl (G.2.1 t, N, .inl f))]) hC.1 hC.2.1 hC.2.2.2.2.2.2.2.2.1 (xone hR ha) 0 t rfl (xTl_at G ht) hin (hM.dec hd) (kk p e R s m args below meth c H locs cells slots ls A hC hR hS hI hA h1 h2 h3 h4 hL)
theorem x_zald (hM : xOK M) {a t N : Nat} {f : Nat → Int32} {i : Int32} (hd : xat M pc = some (.baload, 1)) (ha : h a = some (.inl (t, N, .inl f))) (ht : xTys[t]? = some .boolean) (hin : vp_in i N) (kk : XW l G M d kc ks Φ (pc + 1) L (.int (f i.toNatClampNeg) :: st) h n) : XW l G M d kc ks Φ pc L (.int i :: .ref a :: st) h n := by
  intro p e R s m args below meth c H locs cells slots ls A hC hR hS hI hA h1 h2 h3 h4 hL
  exact va_zald (D := G.1) (cl := vwCl) (ws := [(a, .inl (G.2.1 t, N, .inl f))]) hC.1 hC.2.1 hC.2.2.2.2.2.2.2.2.1 (xone hR ha) 0 t rfl (xTl_at G ht) hin (hM.dec hd) (kk p e R s m args below meth c H locs cells slots ls A hC hR hS hI hA h1 h2 h3 h4 hL)
theorem x_lald (hM : xOK M) {a t N : Nat} {f : Nat → Int64} {i : Int32} (hd : xat M pc = some (.laload, 1)) (ha : h a = some (.inl (t, N, .inr (.inl f)))) (ht : xTys[t]? = some .long) (hin : vp_in i N) (kk : XW l G M d kc ks Φ (pc + 1) L (.long (f i.toNatClampNeg) :: st) h n) : XW l G M d kc ks Φ pc L (.int i :: .ref a :: st) h n := by
  intro p e R s m args below meth c H locs cells slots ls A hC hR hS hI hA h1 h2 h3 h4 hL
  exact va_lald (D := G.1) (cl := vwCl) (ws := [(a, .inl (G.2.1 t, N, .inr (.inl f)))]) hC.1 hC.2.1 hC.2.2.2.2.2.2.2.2.1 (xone hR ha) 0 t rfl (xTl_at G ht) hin (hM.dec hd) (kk p e R s m args below meth c H locs cells slots ls A hC hR hS hI hA h1 h2 h3 h4 hL)
theorem x_aald (hM : xOK M) {a t N q : Nat} {C : String} {f : Nat → Option Nat} {i : Int32} (hd : xat M pc = some (.aaload, 1)) (ha : h a = some (.inl (t, N, .inr (.inr (.inr (.inr f)))))) (ht : xTys[t]? = some (.object C)) (hin : vp_in i N) (hq : f i.toNatClampNeg = some q) (kk : XW l G M d kc ks Φ (pc + 1) L (.ref q :: st) h n) : XW l G M d kc ks Φ pc L (.int i :: .ref a :: st) h n := by
  intro p e R s m args below meth c H locs cells slots ls A hC hR hS hI hA h1 h2 h3 h4 hL
  refine va_aldq (D := G.1) (cl := vwCl) (ws := [(a, .inl (G.2.1 t, N, .inr (.inr (.inr (.inr f)))))]) hC.1 hC.2.1 hC.2.2.2.2.2.2.2.2.1 (xone hR ha) 0 t rfl (xTl_at G ht) hin (hM.dec hd) ?_
  rw [hq]
  exact kk p e R s m args below meth c H locs cells slots ls A hC hR hS hI hA h1 h2 h3 h4 hL
theorem x_alen (hM : xOK M) {a t : Nat} {A0 : vp_A} {ty : FieldType} (hd : xat M pc = some (.arraylength, 1)) (ha : h a = some (.inl (t, A0))) (ht : xTys[t]? = some ty) (kk : XW l G M d kc ks Φ (pc + 1) L (.int (iI (A0.1 : Int)) :: st) h n) : XW l G M d kc ks Φ pc L (.ref a :: st) h n := by
  intro p e R s m args below meth c H locs cells slots ls A hC hR hS hI hA h1 h2 h3 h4 hL
  have hc : H[a]? = some (vp_cell (G.2.1 t) A0) := hR.2 a _ ha
  obtain ⟨N, fn⟩ := A0
  have hsz : (vp_cell (G.2.1 t) (N, fn)).slots.size = N := by
    unfold vp_cell
    rcases fn with f | f | f | f | f <;> exact arrV_size _ _ _
  have harr : s.isArrayOf (vp_cell (G.2.1 t) (N, fn)) ty := by
    have := (hC.2.2.2.2.2.2.2.2.1.2 t _ (xTl_at G ht)).1 N
    unfold vp_cell
    rcases fn with f | f | f | f | f <;> exact this _
  refine W.alen hC.1 hC.2.1 hc harr (n := iI (N : Int)) (by rw [hsz]; rfl) rfl rfl (hM.dec hd) ?_
  exact kk p e R s m args below meth c H locs cells slots ls A hC hR hS hI hA h1 h2 h3 h4 hL
theorem x_iast (hM : xOK M) {a t N : Nat} {f : Nat → Int32} {i x : Int32} (hd : xat M pc = some (.iastore, 1)) (ha : h a = some (.inl (t, N, .inl f))) (ht : xTys[t]? = some .int) (hin : vp_in i N) (kk : XW l G M d kc ks Φ (pc + 1) L st (xup h a (.inl (t, N, .inl (upd f i.toNatClampNeg x)))) n) : XW l G M d kc ks Φ pc L (.int x :: .int i :: .ref a :: st) h n := by
  intro p e R s m args below meth c H locs cells slots ls A hC hR hS hI hA h1 h2 h3 h4 hL
  refine W.iast hC.1 hC.2.1 (hR.2 a _ ha) ((hC.2.2.2.2.2.2.2.2.1.2 t _ (xTl_at G ht)).1 N (fun j => .int (f j))) (fun q => by cases q) (by show ¬ (i < 0 ∨ (arrV _ _ _).slots.size ≤ _); rw [arrV_size]; exact hin) rfl rfl (hM.dec hd) fun H1 g1 g2 g3 => ?_
  refine kk p e R s m args below meth c H1 _ cells slots ls A hC (hR.put g2 ?_ g3) (hS.put g2 g3 (hI a _ ha)) (hI.put _ (hI a _ ha)) hA h1 h2 h3 h4 hL
  have g1' : H1[a]? = some ((arrV (G.2.1 t) N (fun j => .int (f j))).setSlot i.toNatClampNeg (.int x)) := g1
  show H1[a]? = some (vp_cell (G.2.1 t) (N, .inl (upd f i.toNatClampNeg x)))
  rw [g1', arrV_store, vp_cell_i]
  congr 2
  funext q
  by_cases hq : q = i.toNatClampNeg
  · subst hq
    simp [updV, upd]
  · simp [updV, upd, hq]
theorem x_zast (hM : xOK M) {a t N : Nat} {f : Nat → Int32} {i x : Int32} (hd : xat M pc = some (.bastore, 1)) (ha : h a = some (.inl (t, N, .inl f))) (ht : xTys[t]? = some .boolean) (hin : vp_in i N) (kk : XW l G M d kc ks Φ (pc + 1) L st (xup h a (.inl (t, N, .inl (upd f i.toNatClampNeg (vp_nar .boolean x))))) n) : XW l G M d kc ks Φ pc L (.int x :: .int i :: .ref a :: st) h n := by
  intro p e R s m args below meth c H locs cells slots ls A hC hR hS hI hA h1 h2 h3 h4 hL
  refine W.zast hC.1 hC.2.1 (hR.2 a _ ha) ((hC.2.2.2.2.2.2.2.2.1.2 t _ (xTl_at G ht)).1 N (fun j => .int (f j))) (fun q => by cases q) (by show ¬ (i < 0 ∨ (arrV _ _ _).slots.size ≤ _); rw [arrV_size]; exact hin) rfl rfl (hM.dec hd) fun H1 g1 g2 g3 => ?_
  refine kk p e R s m args below meth c H1 _ cells slots ls A hC (hR.put g2 ?_ g3) (hS.put g2 g3 (hI a _ ha)) (hI.put _ (hI a _ ha)) hA h1 h2 h3 h4 hL
  show H1[a]? = some (vp_cell _ _)
  rw [g1]
  rw [vp_cell_i, vp_cell_i, arrV_store]
  congr 2
  funext q
  by_cases hq : q = i.toNatClampNeg
  · subst hq
    simp [updV, upd, vp_nar]
    try rfl
  · simp [updV, upd, hq]
theorem x_aast (hM : xOK M) {a t N v ci : Nat} {vs : List Value} {f : Nat → Option Nat} {i : Int32} {r : vw_C} (hd : xat M pc = some (.aastore, 1)) (ha : h a = some (.inl (t, N, .inr (.inr (.inr (.inr f)))))) (hv : h v = some (.inr (ci, vs))) (hc : vwCl[ci]? = some r) (ht : xTys[t]? = some (.object r.1)) (hin : vp_in i N) (kk : XW l G M d kc ks Φ (pc + 1) L st (xup h a (.inl (t, N, .inr (.inr (.inr (.inr (va_up f i.toNatClampNeg (some v)))))))) n) : XW l G M d kc ks Φ pc L (.ref v :: .int i :: .ref a :: st) h n := by
  intro p e R s m args below meth c H locs cells slots ls A hC hR hS hI hA h1 h2 h3 h4 hL
  have hK := hC.2.2.2.2.2.2.2.2.1
  have hlt : i.toNatClampNeg < N := Nat.not_le.mp fun q => hin (Or.inr q)
  have h0 : ¬ i < 0 := fun q => hin (Or.inl q)
  obtain ⟨r', hr', cellV, g1, g2, g3, -⟩ := hR.2 v _ hv
  have hcls := (hK.1 ci r hc).2
  obtain ⟨kA, comp, k1, k2, k3, -⟩ := (hK.2 t _ (xTl_at G ht)).2
  have hcomp : comp = G.1.1 ci := Option.some.inj (k3.symm.trans hcls.1)
  subst hcomp
  obtain ⟨kC, hkC, -⟩ := hcls.2
  refine W.aast hC.1 hC.2.1 (hR.2 a _ ha) (fun q h => by cases h) (fun h => by cases h) k1 k2 rfl hkC ⟨h0, by show _ < (arrV _ _ _).slots.size; rw [arrV_size]; exact hlt⟩ g1 (fun q h => by rw [g3] at h; cases h) (by rw [g2]; exact hkC) (by rw [g2]; exact va_assign hcls) rfl rfl (hM.dec hd) fun H1 f1 f2 f3 => ?_
  refine kk p e R s m args below meth c H1 _ cells slots ls A hC (hR.put f2 ?_ f3) (hS.put f2 f3 (hI a _ ha)) (hI.put _ (hI a _ ha)) hA h1 h2 h3 h4 hL
  have f1' : H1[a]? = some ((arrV (G.2.1 t) N (fun j => va_rf (f j))).setSlot i.toNatClampNeg (.ref v)) := f1
  show H1[a]? = some (vp_cell (G.2.1 t) (N, .inr (.inr (.inr (.inr (va_up f i.toNatClampNeg (some v)))))))
  rw [f1', arrV_store, vp_cell_q]
  congr 2
  funext q
  by_cases hq : q = i.toNatClampNeg
  · subst hq
    simp [updV, va_up, va_rf]
  · simp [updV, va_up, hq]
theorem va_S.grow {A : Nat → Prop} {H0 H H1 : Heap} {locs : List Loc} (hS : va_S A H0 H locs) (z : H1.size = H.size + 1) (o1 : ∀ q : Nat, q < H.size → H1[q]? = H[q]?) : va_S A H0 H1 locs :=
  ⟨Nat.le_trans hS.1 (by omega), fun x g1 g2 => (o1 x (Nat.lt_of_lt_of_le g1 hS.1)).trans (hS.2.1 x g1 g2), hS.2.2⟩
theorem x_new (hM : xOK M) {idx ci N : Nat} {C : String} {T : u_T} {fs : List Value} (hd : xat M pc = some (.new idx, 3)) (hc : vwCl[ci]? = some (C, T, N)) (hw : Cond.classLink M.1.cls idx C ∈ xws) (hfs : ∀ j, j < N → defaultValue (xty ci j) = vp_V fs j) (hkc : 1 ≤ kc) (hks : N ≤ ks) (kk : XW l G M d (kc - 1) (ks - N) Φ (pc + 3) L (.ref n :: st) (xup h n (.inr (ci, fs))) (n + 1)) : XW l G M d kc ks Φ pc L st h n := by
  intro p e R s m args below meth c H locs cells slots ls A hC hR hS hI hA h1 h2 h3 h4 hL
  obtain ⟨hx, hb, hml, hown, hts, hr, hlk, hnm, hK⟩ := id hC
  have hin := xcl_in hc
  have hKn := hK.1.1 ci _ hc
  have hwn := xcl_new hc
  refine W.newcK hx hb hown (hts _ hw) (hts _ hwn.1) (hts _ hwn.2) rfl (hM.dec hd) (by omega) (by omega) hKn.2.1 hR.1 fun H1 kC hkC e1 z1 o1 => ?_
  refine kk p e R s m args below meth c H1 locs (cells + 1) (slots + N) ls A hC (hR.new z1 ⟨_, hc, (u_born (xty ci) hts hin hKn hkC e1 (xcl_ty hc)).to hfs⟩ o1) (hS.grow (by rw [z1, hR.1]) (by rw [hR.1]; exact o1)) (hI.put _ (hA.1 n (by rw [← hR.1]; exact hS.1))) hA h1 h2 (by omega) (by omega) hL
theorem x_newi (hM : xOK M) {t N : Nat} {z : Int32} (hd : xat M pc = some (.newarray .int, 2)) (ht : xTys[t]? = some .int) (hw : Cond.arrayClass .int ∈ xws) (hz : ¬ z < 0) (hN : z.toNatClampNeg = N) (hb2 : N * 4 ≤ 536870912) (hkc : 1 ≤ kc) (hks : N ≤ ks) (kk : XW l G M d (kc - 1) (ks - N) Φ (pc + 2) L (.ref n :: st) (xup h n (.inl (t, N, .inl (fun _ => 0)))) (n + 1)) : XW l G M d kc ks Φ pc L (.int z :: st) h n := by
  intro p e R s m args below meth c H locs cells slots ls A hC hR hS hI hA h1 h2 h3 h4 hL
  obtain ⟨hx, hb, hml, hown, hts, hr, hlk, hnm, hK⟩ := id hC
  refine va_newaK (atype := .int) hx hb (hts _ hw) rfl (hM.dec hd) rfl hz hN hb2 (by omega) (by omega) hR.1 fun H1 cA e1 z1 o1 hAr hNm => ?_
  have hcA : cA = G.2.1 t := Option.some.inj (hNm.symm.trans (hK.1.2 t _ (xTl_at G ht)).2)
  subst hcA
  exact kk p e R s m args below meth c H1 locs (cells + 1) (slots + N) ls A hC (hR.new z1 e1 o1) (hS.grow (by rw [z1, hR.1]) (by rw [hR.1]; exact o1)) (hI.put _ (hA.1 n (by rw [← hR.1]; exact hS.1))) hA h1 h2 (by omega) (by omega) hL
theorem x_newz (hM : xOK M) {t N : Nat} {z : Int32} (hd : xat M pc = some (.newarray .boolean, 2)) (ht : xTys[t]? = some .boolean) (hw : Cond.arrayClass .boolean ∈ xws) (hz : ¬ z < 0) (hN : z.toNatClampNeg = N) (hb2 : N * 1 ≤ 536870912) (hkc : 1 ≤ kc) (hks : N ≤ ks) (kk : XW l G M d (kc - 1) (ks - N) Φ (pc + 2) L (.ref n :: st) (xup h n (.inl (t, N, .inl (fun _ => 0)))) (n + 1)) : XW l G M d kc ks Φ pc L (.int z :: st) h n := by
  intro p e R s m args below meth c H locs cells slots ls A hC hR hS hI hA h1 h2 h3 h4 hL
  obtain ⟨hx, hb, hml, hown, hts, hr, hlk, hnm, hK⟩ := id hC
  refine va_newaK (atype := .boolean) hx hb (hts _ hw) rfl (hM.dec hd) rfl hz hN hb2 (by omega) (by omega) hR.1 fun H1 cA e1 z1 o1 hAr hNm => ?_
  have hcA : cA = G.2.1 t := Option.some.inj (hNm.symm.trans (hK.1.2 t _ (xTl_at G ht)).2)
  subst hcA
  exact kk p e R s m args below meth c H1 locs (cells + 1) (slots + N) ls A hC (hR.new z1 e1 o1) (hS.grow (by rw [z1, hR.1]) (by rw [hR.1]; exact o1)) (hI.put _ (hA.1 n (by rw [← hR.1]; exact hS.1))) hA h1 h2 (by omega) (by omega) hL
theorem x_newq (hM : xOK M) {idx t N : Nat} {C : String} {z : Int32} (hd : xat M pc = some (.anewarray idx, 3)) (ht : xTys[t]? = some (.object C)) (hw : Cond.classLink M.1.cls idx C ∈ xws) (ho : C ∈ xOver) (hz : ¬ z < 0) (hN : z.toNatClampNeg = N) (hb2 : N * 4 ≤ 536870912) (hkc : 1 ≤ kc) (hks : N ≤ ks) (kk : XW l G M d (kc - 1) (ks - N) Φ (pc + 3) L (.ref n :: st) (xup h n (.inl (t, N, .inr (.inr (.inr (.inr (fun _ => none))))))) (n + 1)) : XW l G M d kc ks Φ pc L (.int z :: st) h n := by
  intro p e R s m args below meth c H locs cells slots ls A hC hR hS hI hA h1 h2 h3 h4 hL
  obtain ⟨hx, hb, hml, hown, hts, hr, hlk, hnm, hK⟩ := id hC
  subst hN
  refine W.anew hx hb hown (hts _ hw) (va_AO.use (hK.2.2 C ho)) rfl (hM.dec hd) rfl hz hb2 (by omega) (by omega) fun cA kA comp f1 f2 f3 f4 => ?_
  obtain ⟨kA', comp', -, -, -, f5⟩ := (hK.1.2 t _ (xTl_at G ht)).2
  have hcA : cA = G.2.1 t := Option.some.inj (f1.symm.trans f5)
  subst hcA
  generalize hH1 : H.push ({ cls := G.2.1 t, slots := Array.replicate z.toNatClampNeg .null, vm := .none } : Cell) = H1
  have z1 : H1.size = H.size + 1 := by rw [← hH1, Array.size_push]
  have e1 : H1[H.size]? = some (arrV (G.2.1 t) z.toNatClampNeg (fun _ => .null)) := by rw [← hH1, Array.getElem?_push_size, ← arrV_new]
  have o1 : ∀ q : Nat, q < H.size → H1[q]? = H[q]? := fun q hq => by rw [← hH1, Array.getElem?_push, if_neg (Nat.ne_of_lt hq)]
  have hz0 := hR.1
  refine W.eq (g2 := F0 m (pc + 3) ls (.ref n :: st)) (by rw [← hz0]) ?_
  exact kk p e R s m args below meth c H1 locs (cells + 1) (slots + z.toNatClampNeg) ls A hC (hR.new (by rw [z1, hz0]) (by rw [← hz0]; exact e1) (by rw [← hz0]; exact o1)) (hS.grow z1 o1) (hI.put _ (hA.1 n (by rw [← hz0]; exact hS.1))) hA h1 h2 (by omega) (by omega) hL
end XHP
end
section
abbrev xLk (M N : xM) (idx na : Nat) : Prop := Cond.methodLink M.1.cls idx N.1 ∈ xws ∧ Cond.initialized N.1.cls ∈ xws ∧ N.1.cls ≠ "java/lang/invoke/MethodHandle" ∧ N.1.cls ≠ "java/lang/invoke/VarHandle" ∧ (parseMethodDescriptor N.1.desc).map (fun q => q.parameters.length) = some na
abbrev xLn (M N : xM) (idx na : Nat) (host : String) : Prop := (M.1.cls, idx, N.1, host) ∈ xNest ∧ Cond.initialized N.1.cls ∈ xws ∧ N.1.cls ≠ "java/lang/invoke/MethodHandle" ∧ N.1.cls ≠ "java/lang/invoke/VarHandle" ∧ (parseMethodDescriptor N.1.desc).map (fun q => q.parameters.length) = some na
/-- the words of a call, as a program decides them -/
def xlb (M N : xM) (idx na : Nat) : Bool := xmem (.methodLink M.1.cls idx N.1) && (xmem (.initialized N.1.cls) && (decide (N.1.cls ≠ "java/lang/invoke/MethodHandle") && (decide (N.1.cls ≠ "java/lang/invoke/VarHandle") && (decide ((parseMethodDescriptor N.1.desc).map (fun q => q.parameters.length) = some na) && (decide (N.2.2.1 ≤ 18) && decide (N.1 ≠ yL_law))))))
def xlnb (M N : xM) (idx na : Nat) (host : String) : Bool := decide ((M.1.cls, idx, N.1, host) ∈ xNest) && (xmem (.initialized N.1.cls) && (decide (N.1.cls ≠ "java/lang/invoke/MethodHandle") && (decide (N.1.cls ≠ "java/lang/invoke/VarHandle") && (decide ((parseMethodDescriptor N.1.desc).map (fun q => q.parameters.length) = some na) && (decide (N.2.2.1 ≤ 18) && decide (N.1 ≠ yL_law))))))
theorem xlb_of {M N : xM} {idx na : Nat} (h : xlb M N idx na = true) : xLk M N idx na ∧ N.2.2.1 ≤ 18 ∧ N.1 ≠ yL_law := by
  unfold xlb at h
  simp only [Bool.and_eq_true] at h
  obtain ⟨h1, h2, h3, h4, h5, h6, h7⟩ := h
  exact ⟨⟨xmem_of h1, xmem_of h2, of_decide_eq_true h3, of_decide_eq_true h4, of_decide_eq_true h5⟩, of_decide_eq_true h6, of_decide_eq_true h7⟩
theorem xlnb_of {M N : xM} {idx na : Nat} {host : String} (h : xlnb M N idx na host = true) : xLn M N idx na host ∧ N.2.2.1 ≤ 18 ∧ N.1 ≠ yL_law := by
  unfold xlnb at h
  simp only [Bool.and_eq_true] at h
  obtain ⟨h1, h2, h3, h4, h5, h6, h7⟩ := h
  exact ⟨⟨of_decide_eq_true h1, xmem_of h2, of_decide_eq_true h3, of_decide_eq_true h4, of_decide_eq_true h5⟩, of_decide_eq_true h6, of_decide_eq_true h7⟩
section XCL
variable {l : Launch} {G : xG} {M : xM} {d kc ks : Nat} {Φ Ψ : Option Value → xH → Nat → Prop} {h : xH} {n : Nat} {pc : Nat} {L : List (Option Value)} {st rest : List Value}
variable {p : Program} {e : Env} {R : Room} {s : State} {m : MethodId} {args : Array Value} {below : List Frame} {meth : Method} {c : Code} {H : Heap} {locs : List Loc} {cells slots : Nat} {ls : Array Slot} {A : Nat → Prop}
/-- behind a call -/
theorem x_back {a : Array Value} {st0 : List Value} {mc ms : Nat} (hr : va_Run p l e R s m args below meth c H locs cells slots mc ms (F0 m pc ls st0) rest (xQ G (xA h n) Ψ a) (xA h n)) (hC : xC G M p s m args meth c) (hR : xRep G h n H) (hS : va_S A s.heap H locs) (hI : xIn A h) (hA : xAo G s A) (h1 : d ≤ R.frames) (h2 : 37 * d ≤ R.locals) (h3 : cells + kc ≤ R.cells) (h4 : slots + ks ≤ R.slots) (hL : xL ls M.2.2.1 L) (hkc : mc ≤ kc) (hks : ms ≤ ks)
    (k : ∀ (v : Option Value) (h' : xH) (n' : Nat), Ψ v h' n' → XW l G M d (kc - mc) (ks - ms) Φ (pc + 3) L (v.toList ++ rest) h' n') : W p l e R s m args below meth c H locs cells slots (MQ below (xQ G A Φ) args s R.cells R.slots A) (F0 m pc ls st0) := by
  have sub : ∀ q, xA h n q → A q := by
    intro q hq
    rcases hq with ⟨e', hq⟩ | hq
    · exact hI q e' hq
    · exact hA.1 q (Nat.le_trans hS.1 (by rw [hR.1]; exact hq))
  intro T hT X
  obtain ⟨v, st₀, t, T', L', g0, X', hL', e1, e2, ⟨v', h', n', hv, hΨ, hR', hI', hF⟩, stp⟩ := hr T hT X
  cases hv
  unfold va_F at hF
  rw [g0] at hF
  obtain ⟨t2, a1, b1⟩ := k v h' n' hΨ p e R s m args below meth c T'.heap (locs ++ L') (cells + mc) (slots + ms) ls A hC (by rw [e1]; exact hR')
    ⟨Nat.le_trans hS.1 (by rw [e1]; exact hF.1), fun q g1 g2 => by rw [e1, hF.2 q (Nat.lt_of_lt_of_le g1 hS.1) (fun z => g2 (sub q z))]; exact hS.2.1 q g1 g2, fun q hq => by
      rcases List.mem_append.mp hq with g | g
      · exact hS.2.2 q g
      · exact sub _ (hL' q g)⟩ (fun a e' ha => sub a (hI' a e' ha)) hA h1 h2 (by omega) (by omega) hL T' rfl X'
  exact ⟨t2, stp t2 a1, b1⟩
theorem x_words {N : xM} (hN : xOK N) (hne : N.1 ≠ yL_law) (hts : ∀ w ∈ xws, w.before args s = true) : ∀ w ∈ (Cond.code N.1 N.2.1 N.2.2.1 N.2.2.2.1 :: xws), ∀ (a' : Array Value) (U : State), s.WarmedH U.vm → w.before a' U = true := by
  intro w hw a' U hW
  have hm : w ∈ xws := by
    rcases List.mem_cons.mp hw with rfl | q
    · exact hN.2.1.resolve_left hne
    · exact q
  exact word_at hW (xgood_of hm) (hts w hm)
theorem x_callB {N : xM} (hN : xOK N) {idx na d' mc ms : Nat} (hts : ∀ w ∈ xws, w.before args s = true) (hl : xLk M N idx na) (hd' : d' + 1 ≤ d) (hnl : N.2.2.1 ≤ 18 ∧ N.1 ≠ yL_law) (h1 : d ≤ R.frames) (h2 : 37 * d ≤ R.locals) : CallB R s args M.1.cls idx N.1 N.2.1 N.2.2.1 N.2.2.2.1 (Cond.code N.1 N.2.1 N.2.2.1 N.2.2.2.1 :: xws) (xrm d' mc ms) mc ms na := by
  obtain ⟨hnl, hne⟩ := hnl
  refine ⟨rfl, rfl, by show d' + 1 ≤ _; omega, by show 8 + (N.2.2.1 + 11) + 37 * d' ≤ _; omega, x_words hN hne hts, List.mem_cons_self, hts _ (hN.2.1.resolve_left hne), hts _ hl.2.1, ⟨hl.2.2.1, hl.2.2.2.1⟩, fun sig hsig => ?_, hts _ hl.1⟩
  have h5 := hl.2.2.2.2
  rw [hsig] at h5
  exact (Option.some.inj h5).symm
theorem x_callN {N : xM} (hN : xOK N) {idx na d' mc ms : Nat} {host : String} (hts : ∀ w ∈ xws, w.before args s = true) (hK : xK G s) (hl : xLn M N idx na host) (hd' : d' + 1 ≤ d) (hnl : N.2.2.1 ≤ 18 ∧ N.1 ≠ yL_law) (h1 : d ≤ R.frames) (h2 : 37 * d ≤ R.locals) : va_CN R s args M.1.cls idx N.1 host N.2.1 N.2.2.1 N.2.2.2.1 (Cond.code N.1 N.2.1 N.2.2.1 N.2.2.2.1 :: xws) (xrm d' mc ms) mc ms na := by
  obtain ⟨hnl, hne⟩ := hnl
  refine ⟨⟨rfl, rfl, by show d' + 1 ≤ _; omega, by show 8 + (N.2.2.1 + 11) + 37 * d' ≤ _; omega, x_words hN hne hts, List.mem_cons_self⟩, hts _ (hN.2.1.resolve_left hne), hts _ hl.2.1, ⟨hl.2.2.1, hl.2.2.2.1⟩, fun sig hsig => ?_, va_Nw.use rfl (hK.2.1 _ hl.1)⟩
  have h5 := hl.2.2.2.2
  rw [hsig] at h5
  exact (Option.some.inj h5).symm
theorem x_blind {av : List Value} : FrameBlind (va_Pc av (fun U => xRep G h n U.heap ∧ xK G U)) := fun _ U g mk q => ⟨q.1, q.2.1, q.2.2.same (u := U) (U := U.calling g mk _) rfl⟩
theorem x_preS {av : List Value} (hR : xRep G h n H) (hK : xK G s) : PreS s H (va_Pc av (fun U => xRep G h n U.heap ∧ xK G U)) av := ⟨x_blind, fun U hU hW => ⟨rfl, by rw [hU]; exact hR, hK.warm hW⟩⟩
theorem x_preV {b : Nat} {As : List Value} {ci : Nat} {fs : List Value} {q : vw_C} (hR : xRep G h n H) (hK : xK G s) (hb : h b = some (.inr (ci, fs))) (hc : vwCl[ci]? = some q) : PreV s H q.1 b (va_Pc (.ref b :: As) (fun U => xRep G h n U.heap ∧ xK G U)) As :=
  ⟨x_blind, va_recv hK.1 (xone hR hb) (ci := ci) (q0 := 0) hc rfl, fun U hU hW => ⟨rfl, by rw [hU]; exact hR, hK.warm hW⟩⟩
theorem x_callS (hM : xOK M) {N : xM} (hN : xOK N) {idx d' mc ms : Nat} {av : List Value} (hd : xat M pc = some (.invokestatic idx, 3)) (hl : xLk M N idx av.length) (hsw : Cond.static N.1 ∈ xws) (hX : XM l G N d' mc ms av h n Ψ) (hst : st = av.reverse ++ rest) (hd' : d' + 1 ≤ d) (hnl : N.2.2.1 ≤ 18 ∧ N.1 ≠ yL_law) (hkc : mc ≤ kc) (hks : ms ≤ ks) (hrest : (rest.map fun v => v.category).sum ≤ 8)
    (k : ∀ (v : Option Value) (h' : xH) (n' : Nat), Ψ v h' n' → XW l G M d (kc - mc) (ks - ms) Φ (pc + 3) L (v.toList ++ rest) h' n') : XW l G M d kc ks Φ pc L st h n := by
  intro p e R s m args below meth c H locs cells slots ls A hC hR hS hI hA h1 h2 h3 h4 hL
  exact x_back (va_runS (Ts := xws) ⟨hC.1, hC.2.1, hC.2.2.1, hC.2.2.2.1, hC.2.2.2.2.1⟩ hX ⟨x_callB hN hC.2.2.2.2.1 hl hd' hnl h1 h2, hC.2.2.2.2.1 _ hsw⟩ (x_preS hR hC.2.2.2.2.2.2.2.2) rfl rfl hL.1 hst (lv_room hrest) (hM.dec hd) ⟨by omega, by omega⟩) hC hR hS hI hA h1 h2 h3 h4 hL hkc hks k
theorem x_callSn (hM : xOK M) {N : xM} (hN : xOK N) {idx d' mc ms : Nat} {host : String} {av : List Value} (hd : xat M pc = some (.invokestatic idx, 3)) (hl : xLn M N idx av.length host) (hsw : Cond.static N.1 ∈ xws) (hX : XM l G N d' mc ms av h n Ψ) (hst : st = av.reverse ++ rest) (hd' : d' + 1 ≤ d) (hnl : N.2.2.1 ≤ 18 ∧ N.1 ≠ yL_law) (hkc : mc ≤ kc) (hks : ms ≤ ks) (hrest : (rest.map fun v => v.category).sum ≤ 8)
    (k : ∀ (v : Option Value) (h' : xH) (n' : Nat), Ψ v h' n' → XW l G M d (kc - mc) (ks - ms) Φ (pc + 3) L (v.toList ++ rest) h' n') : XW l G M d kc ks Φ pc L st h n := by
  intro p e R s m args below meth c H locs cells slots ls A hC hR hS hI hA h1 h2 h3 h4 hL
  exact x_back (va_runSN (Ts := xws) ⟨hC.1, hC.2.1, hC.2.2.1, hC.2.2.2.1, hC.2.2.2.2.1⟩ hX ⟨x_callN hN hC.2.2.2.2.1 hC.2.2.2.2.2.2.2.2 hl hd' hnl h1 h2, hC.2.2.2.2.1 _ hsw, trivial⟩ (x_preS hR hC.2.2.2.2.2.2.2.2) rfl rfl hL.1 hst (lv_room hrest) (hM.dec hd) ⟨by omega, by omega⟩) hC hR hS hI hA h1 h2 h3 h4 hL hkc hks k
theorem x_callV (hM : xOK M) {N : xM} (hN : xOK N) {idx d' mc ms b ci : Nat} {As fs : List Value} {q : vw_C} (hd : xat M pc = some (.invokevirtual idx, 3)) (hb : h b = some (.inr (ci, fs))) (hc : vwCl[ci]? = some q) (hl : xLk M N idx As.length) (hiw : Cond.instanceMethod N.1 ∈ xws) (hsw : Cond.selects q.1 N.1 N.1 ∈ xws) (hX : XM l G N d' mc ms (.ref b :: As) h n Ψ) (hst : st = As.reverse ++ .ref b :: rest) (hd' : d' + 1 ≤ d) (hnl : N.2.2.1 ≤ 18 ∧ N.1 ≠ yL_law) (hkc : mc ≤ kc) (hks : ms ≤ ks) (hrest : (rest.map fun v => v.category).sum ≤ 8)
    (k : ∀ (v : Option Value) (h' : xH) (n' : Nat), Ψ v h' n' → XW l G M d (kc - mc) (ks - ms) Φ (pc + 3) L (v.toList ++ rest) h' n') : XW l G M d kc ks Φ pc L st h n := by
  intro p e R s m args below meth c H locs cells slots ls A hC hR hS hI hA h1 h2 h3 h4 hL
  exact x_back (va_runV (Ts := xws) ⟨hC.1, hC.2.1, hC.2.2.1, hC.2.2.2.1, hC.2.2.2.2.1⟩ hX ⟨x_callB hN hC.2.2.2.2.1 hl hd' hnl h1 h2, hC.2.2.2.2.1 _ hiw, hC.2.2.2.2.1 _ hsw⟩ (x_preV hR hC.2.2.2.2.2.2.2.2 hb hc) rfl rfl hL.1 hst (lv_room hrest) (hM.dec hd) ⟨by omega, by omega⟩) hC hR hS hI hA h1 h2 h3 h4 hL hkc hks k
theorem x_callVn (hM : xOK M) {N : xM} (hN : xOK N) {idx d' mc ms b ci : Nat} {host : String} {As fs : List Value} {q : vw_C} (hd : xat M pc = some (.invokevirtual idx, 3)) (hb : h b = some (.inr (ci, fs))) (hc : vwCl[ci]? = some q) (hl : xLn M N idx As.length host) (hiw : Cond.instanceMethod N.1 ∈ xws) (hsw : Cond.selects q.1 N.1 N.1 ∈ xws) (hX : XM l G N d' mc ms (.ref b :: As) h n Ψ) (hst : st = As.reverse ++ .ref b :: rest) (hd' : d' + 1 ≤ d) (hnl : N.2.2.1 ≤ 18 ∧ N.1 ≠ yL_law) (hkc : mc ≤ kc) (hks : ms ≤ ks) (hrest : (rest.map fun v => v.category).sum ≤ 8)
    (k : ∀ (v : Option Value) (h' : xH) (n' : Nat), Ψ v h' n' → XW l G M d (kc - mc) (ks - ms) Φ (pc + 3) L (v.toList ++ rest) h' n') : XW l G M d kc ks Φ pc L st h n := by
  intro p e R s m args below meth c H locs cells slots ls A hC hR hS hI hA h1 h2 h3 h4 hL
  exact x_back (va_runVN (Ts := xws) ⟨hC.1, hC.2.1, hC.2.2.1, hC.2.2.2.1, hC.2.2.2.2.1⟩ hX ⟨x_callN hN hC.2.2.2.2.1 hC.2.2.2.2.2.2.2.2 hl hd' hnl h1 h2, hC.2.2.2.2.1 _ hiw, hC.2.2.2.2.1 _ hsw⟩ (x_preV hR hC.2.2.2.2.2.2.2.2 hb hc) rfl rfl hL.1 hst (lv_room hrest) (hM.dec hd) ⟨by omega, by omega⟩) hC hR hS hI hA h1 h2 h3 h4 hL hkc hks k
theorem x_callI (hM : xOK M) {N : xM} (hN : xOK N) {idx d' mc ms b : Nat} {As : List Value} (hd : xat M pc = some (.invokespecial idx, 3)) (hl : xLk M N idx As.length) (hiw : Cond.instanceMethod N.1 ∈ xws) (hni : N.1.name = "<init>") (hret : N.2.2.2.1 = none) (hX : XM l G N d' mc ms (.ref b :: As) h n Ψ) (hst : st = As.reverse ++ .ref b :: rest) (hd' : d' + 1 ≤ d) (hnl : N.2.2.1 ≤ 18 ∧ N.1 ≠ yL_law) (hkc : mc ≤ kc) (hks : ms ≤ ks) (hrest : (rest.map fun v => v.category).sum ≤ 8)
    (k : ∀ (v : Option Value) (h' : xH) (n' : Nat), Ψ v h' n' → XW l G M d (kc - mc) (ks - ms) Φ (pc + 3) L (v.toList ++ rest) h' n') : XW l G M d kc ks Φ pc L st h n := by
  intro p e R s m args below meth c H locs cells slots ls A hC hR hS hI hA h1 h2 h3 h4 hL
  have hB : CallB R s args M.1.cls idx N.1 N.2.1 N.2.2.1 none (Cond.code N.1 N.2.1 N.2.2.1 N.2.2.2.1 :: xws) (xrm d' mc ms) mc ms As.length := by
    have := x_callB (R := R) (mc := mc) (ms := ms) hN hC.2.2.2.2.1 hl hd' hnl h1 h2
    rw [← hret]
    exact this
  exact x_back (va_runI (Ts := xws) ⟨hC.1, hC.2.1, hC.2.2.1, hC.2.2.2.1, hC.2.2.2.2.1⟩ hX ⟨hB, hni, hC.2.2.2.2.1 _ hiw⟩ (x_preS hR hC.2.2.2.2.2.2.2.2) rfl rfl hL.1 hst (lv_room hrest) (hM.dec hd) ⟨by omega, by omega⟩) hC hR hS hI hA h1 h2 h3 h4 hL hkc hks k
theorem x_obj (hM : xOK M) {idx a : Nat} (hd : xat M pc = some (.invokespecial idx, 3)) (hw : Cond.methodLink M.1.cls idx Lib.objectInit ∈ xws) (hw2 : Cond.instanceMethod Lib.objectInit ∈ xws) (hw3 : Cond.code Lib.objectInit ⟨#[0xb1]⟩ 1 none ∈ xws) (hd1 : 1 ≤ d) (hrest : (st.map fun v => v.category).sum ≤ 8) (k : XW l G M d kc ks Φ (pc + 3) L st h n) : XW l G M d kc ks Φ pc L (.ref a :: st) h n := by
  intro p e R s m args below meth c H locs cells slots ls A hC hR hS hI hA h1 h2 h3 h4 hL
  exact W.objInit hC.1 hC.2.1 hC.2.2.2.1 (hC.2.2.2.2.1 _ hw) (hC.2.2.2.2.1 _ hw2) (hC.2.2.2.2.1 _ hw3) rfl (by rw [hC.2.2.1]; exact hL.1) rfl (hM.dec hd) (by omega) (by show 2 * 0 + _ + 12 ≤ _; omega) (k p e R s m args below meth c H locs cells slots ls A hC hR hS hI hA h1 h2 h3 h4 hL)
theorem x_max (hM : xOK M) {idx : Nat} {x y : Int32} (hd : xat M pc = some (.invokestatic idx, 3)) (hw : Cond.methodLink M.1.cls idx Lib.Math.max.name ∈ xws) (hw2 : Cond.static Lib.Math.max.name ∈ xws) (hw3 : Cond.initialized "java/lang/Math" ∈ xws) (hw4 : Cond.code Lib.Math.max.name Lib.Math.max.code 2 (some .int) ∈ xws) (hd1 : 1 ≤ d) (hrest : (st.map fun v => v.category).sum ≤ 8) (k : XW l G M d kc ks Φ (pc + 3) L (.int (if x < y then y else x) :: st) h n) : XW l G M d kc ks Φ pc L (.int y :: .int x :: st) h n := by
  intro p e R s m args below meth c H locs cells slots ls A hC hR hS hI hA h1 h2 h3 h4 hL
  exact va_mmax hC.1 hC.2.1 (by rw [hC.2.2.1]; exact hL.1.symm) hC.2.2.2.1 (hC.2.2.2.2.1 _ hw) (hC.2.2.2.2.1 _ hw2) (hC.2.2.2.2.1 _ hw3) (hC.2.2.2.2.1 _ hw4) (by omega) (by omega) (by omega) (by omega) (hM.dec hd) (k p e R s m args below meth c H locs cells slots ls A hC hR hS hI hA h1 h2 h3 h4 hL)
theorem x_min (hM : xOK M) {idx : Nat} {x y : Int32} (hd : xat M pc = some (.invokestatic idx, 3)) (hw : Cond.methodLink M.1.cls idx Lib.Math.min.name ∈ xws) (hw2 : Cond.static Lib.Math.min.name ∈ xws) (hw3 : Cond.initialized "java/lang/Math" ∈ xws) (hw4 : Cond.code Lib.Math.min.name Lib.Math.min.code 2 (some .int) ∈ xws) (hd1 : 1 ≤ d) (hrest : (st.map fun v => v.category).sum ≤ 8) (k : XW l G M d kc ks Φ (pc + 3) L (.int (if y < x then y else x) :: st) h n) : XW l G M d kc ks Φ pc L (.int y :: .int x :: st) h n := by
  intro p e R s m args below meth c H locs cells slots ls A hC hR hS hI hA h1 h2 h3 h4 hL
  exact va_mmin hC.1 hC.2.1 (by rw [hC.2.2.1]; exact hL.1.symm) hC.2.2.2.1 (hC.2.2.2.2.1 _ hw) (hC.2.2.2.2.1 _ hw2) (hC.2.2.2.2.1 _ hw3) (hC.2.2.2.2.1 _ hw4) (by omega) (by omega) (by omega) (by omega) (hM.dec hd) (k p e R s m args below meth c H locs cells slots ls A hC hR hS hI hA h1 h2 h3 h4 hL)
theorem x_cs (hM : xOK M) {N : xM} (hN : xOK N) (na : Nat) {idx d' mc ms : Nat} {av : List Value} (hd : xat M pc = some (.invokestatic idx, 3)) (hl : (xlb M N idx na && xmem (.static N.1)) = true) (hX : XM l G N d' mc ms av h n Ψ) (hst : st = av.reverse ++ rest) (hna : av.length = na)
    (k : ∀ (v : Option Value) (h' : xH) (n' : Nat), Ψ v h' n' → XW l G M d (kc - mc) (ks - ms) Φ (pc + 3) L (v.toList ++ rest) h' n') (hd' : d' + 1 ≤ d := by omega) (hkc : mc ≤ kc := by omega) (hks : ms ≤ ks := by omega) (hrest : (rest.map fun v => v.category).sum ≤ 8 := by exact Nat.le_of_ble_eq_true rfl) : XW l G M d kc ks Φ pc L st h n := by
  subst hna
  rw [Bool.and_eq_true] at hl
  exact x_callS hM hN hd (xlb_of hl.1).1 (xmem_of hl.2) hX hst hd' (xlb_of hl.1).2 hkc hks hrest k
theorem x_csn (hM : xOK M) {N : xM} (hN : xOK N) (host : String) (na : Nat) {idx d' mc ms : Nat} {av : List Value} (hd : xat M pc = some (.invokestatic idx, 3)) (hl : (xlnb M N idx na host && xmem (.static N.1)) = true) (hX : XM l G N d' mc ms av h n Ψ) (hst : st = av.reverse ++ rest) (hna : av.length = na)
    (k : ∀ (v : Option Value) (h' : xH) (n' : Nat), Ψ v h' n' → XW l G M d (kc - mc) (ks - ms) Φ (pc + 3) L (v.toList ++ rest) h' n') (hd' : d' + 1 ≤ d := by omega) (hkc : mc ≤ kc := by omega) (hks : ms ≤ ks := by omega) (hrest : (rest.map fun v => v.category).sum ≤ 8 := by exact Nat.le_of_ble_eq_true rfl) : XW l G M d kc ks Φ pc L st h n := by
  subst hna
  rw [Bool.and_eq_true] at hl
  exact x_callSn hM hN hd (xlnb_of hl.1).1 (xmem_of hl.2) hX hst hd' (xlnb_of hl.1).2 hkc hks hrest k
theorem x_cv (hM : xOK M) {N : xM} (hN : xOK N) (na : Nat) {idx d' mc ms b ci : Nat} {As fs : List Value} (hd : xat M pc = some (.invokevirtual idx, 3)) (hb : h b = some (.inr (ci, fs))) (hl : (xlb M N idx na && (xmem (.instanceMethod N.1) && (match vwCl[ci]? with | some r => xmem (.selects r.1 N.1 N.1) | none => false))) = true) (hX : XM l G N d' mc ms (.ref b :: As) h n Ψ) (hst : st = As.reverse ++ .ref b :: rest) (hna : As.length = na)
    (k : ∀ (v : Option Value) (h' : xH) (n' : Nat), Ψ v h' n' → XW l G M d (kc - mc) (ks - ms) Φ (pc + 3) L (v.toList ++ rest) h' n') (hd' : d' + 1 ≤ d := by omega) (hkc : mc ≤ kc := by omega) (hks : ms ≤ ks := by omega) (hrest : (rest.map fun v => v.category).sum ≤ 8 := by exact Nat.le_of_ble_eq_true rfl) : XW l G M d kc ks Φ pc L st h n := by
  subst hna
  rw [Bool.and_eq_true, Bool.and_eq_true] at hl
  obtain ⟨h1, h2, h3⟩ := hl
  cases hc : vwCl[ci]? with
  | none => rw [hc] at h3; cases h3
  | some q =>
    rw [hc] at h3
    exact x_callV hM hN hd hb hc (xlb_of h1).1 (xmem_of h2) (xmem_of h3) hX hst hd' (xlb_of h1).2 hkc hks hrest k
theorem x_ci (hM : xOK M) {N : xM} (hN : xOK N) (na : Nat) {idx d' mc ms b : Nat} {As : List Value} (hd : xat M pc = some (.invokespecial idx, 3)) (hl : (xlb M N idx na && (xmem (.instanceMethod N.1) && (decide (N.1.name = "<init>") && decide (N.2.2.2.1 = none)))) = true) (hX : XM l G N d' mc ms (.ref b :: As) h n Ψ) (hst : st = As.reverse ++ .ref b :: rest) (hna : As.length = na)
    (k : ∀ (v : Option Value) (h' : xH) (n' : Nat), Ψ v h' n' → XW l G M d (kc - mc) (ks - ms) Φ (pc + 3) L (v.toList ++ rest) h' n') (hd' : d' + 1 ≤ d := by omega) (hkc : mc ≤ kc := by omega) (hks : ms ≤ ks := by omega) (hrest : (rest.map fun v => v.category).sum ≤ 8 := by exact Nat.le_of_ble_eq_true rfl) : XW l G M d kc ks Φ pc L st h n := by
  subst hna
  rw [Bool.and_eq_true, Bool.and_eq_true, Bool.and_eq_true] at hl
  obtain ⟨h1, h2, h3, h4⟩ := hl
  exact x_callI hM hN hd (xlb_of h1).1 (xmem_of h2) (of_decide_eq_true h3) (of_decide_eq_true h4) hX hst hd' (xlb_of h1).2 hkc hks hrest k
theorem x_ob (hM : xOK M) {idx a : Nat} (hd : xat M pc = some (.invokespecial idx, 3)) (hl : (xmem (.methodLink M.1.cls idx Lib.objectInit) && (xmem (.instanceMethod Lib.objectInit) && xmem (.code Lib.objectInit ⟨#[0xb1]⟩ 1 none))) = true) (k : XW l G M d kc ks Φ (pc + 3) L st h n) (hd1 : 1 ≤ d := by omega) (hrest : (st.map fun v => v.category).sum ≤ 8 := by exact Nat.le_of_ble_eq_true rfl) : XW l G M d kc ks Φ pc L (.ref a :: st) h n := by
  rw [Bool.and_eq_true, Bool.and_eq_true] at hl
  exact x_obj hM hd (xmem_of hl.1) (xmem_of hl.2.1) (xmem_of hl.2.2) hd1 hrest k
theorem x_mx (hM : xOK M) {idx : Nat} {x y : Int32} (hd : xat M pc = some (.invokestatic idx, 3)) (hl : (xmem (.methodLink M.1.cls idx Lib.Math.max.name) && (xmem (.static Lib.Math.max.name) && (xmem (.initialized "java/lang/Math") && xmem (.code Lib.Math.max.name Lib.Math.max.code 2 (some .int))))) = true) (k : XW l G M d kc ks Φ (pc + 3) L (.int (if x < y then y else x) :: st) h n) (hd1 : 1 ≤ d := by omega) (hrest : (st.map fun v => v.category).sum ≤ 8 := by exact Nat.le_of_ble_eq_true rfl) : XW l G M d kc ks Φ pc L (.int y :: .int x :: st) h n := by
  rw [Bool.and_eq_true, Bool.and_eq_true, Bool.and_eq_true] at hl
  exact x_max hM hd (xmem_of hl.1) (xmem_of hl.2.1) (xmem_of hl.2.2.1) (xmem_of hl.2.2.2) hd1 hrest k
theorem x_mn (hM : xOK M) {idx : Nat} {x y : Int32} (hd : xat M pc = some (.invokestatic idx, 3)) (hl : (xmem (.methodLink M.1.cls idx Lib.Math.min.name) && (xmem (.static Lib.Math.min.name) && (xmem (.initialized "java/lang/Math") && xmem (.code Lib.Math.min.name Lib.Math.min.code 2 (some .int))))) = true) (k : XW l G M d kc ks Φ (pc + 3) L (.int (if y < x then y else x) :: st) h n) (hd1 : 1 ≤ d := by omega) (hrest : (st.map fun v => v.category).sum ≤ 8 := by exact Nat.le_of_ble_eq_true rfl) : XW l G M d kc ks Φ pc L (.int y :: .int x :: st) h n := by
  rw [Bool.and_eq_true, Bool.and_eq_true, Bool.and_eq_true] at hl
  exact x_min hM hd (xmem_of hl.1) (xmem_of hl.2.1) (xmem_of hl.2.2.1) (xmem_of hl.2.2.2) hd1 hrest k
end XCL
end
section
section XMO
variable {l : Launch} {G : xG} {M : xM} {d kc ks : Nat} {Φ Ψ : Option Value → xH → Nat → Prop} {h : xH} {n : Nat} {pc : Nat} {L : List (Option Value)} {st rest : List Value}
theorem x_ldc (hM : xOK M) {idx : Nat} {v : Int32} (hd : xat M pc = some (.ldc idx, 2)) (hl : xmem (.constant M.1.cls idx v) = true) (k : XW l G M d kc ks Φ (pc + 2) L (.int v :: st) h n) : XW l G M d kc ks Φ pc L st h n := by
  intro p e R s m args below meth c H locs cells slots ls A hC hR hS hI hA h1 h2 h3 h4 hL
  exact lv_ldc hC.1 hC.2.1 hC.2.2.2.1 (hC.2.2.2.2.1 _ (xmem_of hl)) (hM.dec hd) (k p e R s m args below meth c H locs cells slots ls A hC hR hS hI hA h1 h2 h3 h4 hL)
theorem x_ldc2 (hM : xOK M) {idx : Nat} {v : Int64} (hd : xat M pc = some (.ldc2_w idx, 3)) (hl : xmem (.constantLong M.1.cls idx v) = true) (k : XW l G M d kc ks Φ (pc + 3) L (.long v :: st) h n) : XW l G M d kc ks Φ pc L st h n := by
  intro p e R s m args below meth c H locs cells slots ls A hC hR hS hI hA h1 h2 h3 h4 hL
  exact lv_ldc2 hC.1 hC.2.1 hC.2.2.2.1 (hC.2.2.2.2.1 _ (xmem_of hl)) (hM.dec hd) (k p e R s m args below meth c H locs cells slots ls A hC hR hS hI hA h1 h2 h3 h4 hL)
theorem x_idiv (hM : xOK M) {x y : Int32} (hd : xat M pc = some (.idiv, 1)) (hy : ¬ y = 0) (k : XW l G M d kc ks Φ (pc + 1) L (.int (x / y) :: st) h n) : XW l G M d kc ks Φ pc L (.int y :: .int x :: st) h n := by
  intro p e R s m args below meth c H locs cells slots ls A hC hR hS hI hA h1 h2 h3 h4 hL
  exact lv_idiv hC.1 hC.2.1 (hM.dec hd) hy (k p e R s m args below meth c H locs cells slots ls A hC hR hS hI hA h1 h2 h3 h4 hL)
theorem x_irem (hM : xOK M) {x y : Int32} (hd : xat M pc = some (.irem, 1)) (hy : ¬ y = 0) (k : XW l G M d kc ks Φ (pc + 1) L (.int (x - x / y * y) :: st) h n) : XW l G M d kc ks Φ pc L (.int y :: .int x :: st) h n := by
  intro p e R s m args below meth c H locs cells slots ls A hC hR hS hI hA h1 h2 h3 h4 hL
  exact lv_irem hC.1 hC.2.1 (hM.dec hd) hy (k p e R s m args below meth c H locs cells slots ls A hC hR hS hI hA h1 h2 h3 h4 hL)
theorem x_tin (hM : xOK M) {x : Int32} {dflt lo hi off v : Int} {offs : Array Int} {len tgt : Nat} (hd : xat M pc = some (.tableswitch dflt lo hi offs, len)) (hv : x.toInt = v) (g1 : ¬ v < lo) (g2 : ¬ hi < v) (ho : offs[(v - lo).toNat]? = some off) (ht : xtg M pc off = some tgt) (k : XW l G M d kc ks Φ tgt L st h n) : XW l G M d kc ks Φ pc L (.int x :: st) h n := by
  subst hv
  intro p e R s m args below meth c H locs cells slots ls A hC hR hS hI hA h1 h2 h3 h4 hL
  exact lv_tableIn hC.1 hC.2.1 (hM.dec hd) g1 g2 ho (xtg_of ht) (k p e R s m args below meth c H locs cells slots ls A hC hR hS hI hA h1 h2 h3 h4 hL)
theorem x_tout (hM : xOK M) {x : Int32} {dflt lo hi : Int} {offs : Array Int} {len tgt : Nat} (hd : xat M pc = some (.tableswitch dflt lo hi offs, len)) (hv : x.toInt < lo ∨ hi < x.toInt) (ht : xtg M pc dflt = some tgt) (k : XW l G M d kc ks Φ tgt L st h n) : XW l G M d kc ks Φ pc L (.int x :: st) h n := by
  intro p e R s m args below meth c H locs cells slots ls A hC hR hS hI hA h1 h2 h3 h4 hL
  exact lv_tableOut hC.1 hC.2.1 (hM.dec hd) hv (xtg_of ht) (k p e R s m args below meth c H locs cells slots ls A hC hR hS hI hA h1 h2 h3 h4 hL)
theorem x_lsw (hM : xOK M) {x : Int32} {dflt off : Int} {ps : Array (Int × Int)} {len tgt : Nat} (hd : xat M pc = some (.lookupswitch dflt ps, len)) (hp : (ps.toList.zip (ps.toList.drop 1)).all (fun (a, next) => a.1 < next.1) = true) (ho : Op.lookupswitch.offset ps.toList dflt x.toInt = off) (ht : xtg M pc off = some tgt) (k : XW l G M d kc ks Φ tgt L st h n) : XW l G M d kc ks Φ pc L (.int x :: st) h n := by
  intro p e R s m args below meth c H locs cells slots ls A hC hR hS hI hA h1 h2 h3 h4 hL
  exact lv_lookup hC.1 hC.2.1 (hM.dec hd) hp ho (xtg_of ht) (k p e R s m args below meth c H locs cells slots ls A hC hR hS hI hA h1 h2 h3 h4 hL)
/-- System.arraycopy of ints -/
theorem x_copy (hM : xOK M) {idx a0 a t N0 N1 : Nat} {f g : Nat → Int32} {sp dp z : Int32} (hd : xat M pc = some (.invokestatic idx, 3)) (hl : (xmem (.methodLink M.1.cls idx arraycopyName) && (xmem (.native arraycopyName) && (xmem (.static arraycopyName) && xmem (.initialized "java/lang/System")))) = true) (ha0 : h a0 = some (.inl (t, N0, .inl f))) (ha : h a = some (.inl (t, N1, .inl g))) (ht : xTys[t]? = some .int) (g1 : ¬ sp < 0) (g2 : ¬ dp < 0) (g3 : ¬ z < 0) (g4 : sp.toNatClampNeg + z.toNatClampNeg ≤ N0) (g5 : dp.toNatClampNeg + z.toNatClampNeg ≤ N1)
    (kk : XW l G M d kc ks Φ (pc + 3) L st (xup h a (.inl (t, N1, .inl (va_cpy f g sp.toNatClampNeg dp.toNatClampNeg z.toNatClampNeg)))) n) (hd1 : 1 ≤ d := by omega) (hrest : (st.map fun v => v.category).sum ≤ 8 := by exact Nat.le_of_ble_eq_true rfl) : XW l G M d kc ks Φ pc L (.int z :: .int dp :: .ref a :: .int sp :: .ref a0 :: st) h n := by
  rw [Bool.and_eq_true, Bool.and_eq_true, Bool.and_eq_true] at hl
  obtain ⟨w1, w2, w3, w4⟩ := hl
  intro p e R s m args below meth c H locs cells slots ls A hC hR hS hI hA h1 h2 h3 h4 hL
  obtain ⟨hx, hb, hml, hown, hts, hr, hlk, hnm, hK⟩ := id hC
  have hnw : nativeFrameWords "java/lang/System" "arraycopy" 5 ≤ 18 := by decide +kernel
  have nn : ∀ z : Int32, ¬ z < 0 → z.toInt = (z.toNatClampNeg : Int) := by
    intro z hz
    have hz0 : (0 : Int) ≤ z.toInt := by
      have := Int32.not_lt.mp hz
      simpa using Int32.le_iff_toInt_le.mp this
    show z.toInt = ((z.toInt.toNat : Nat) : Int)
    omega
  intro T hT X
  have hc0 : H[a0]? = some (vp_cell (G.2.1 t) (N0, .inl f)) := hR.2 a0 _ ha0
  have hc1 : H[a]? = some (vp_cell (G.2.1 t) (N1, .inl g)) := hR.2 a _ ha
  obtain ⟨-, k0, hk0, cm0, hkk0⟩ := (hK.1.2 t _ (xTl_at G ht)).1 N0 (fun j => .int (f j))
  obtain ⟨-, k1, hk1, cm1, hkk1⟩ := (hK.1.2 t _ (xTl_at G ht)).1 N1 (fun j => .int (g j))
  obtain ⟨vm', X', step⟩ := X.arraycopy hx hown (hts _ (xmem_of w1)) (hts _ (xmem_of w2)) (hts _ (xmem_of w3)) (hts _ (xmem_of w4)) (src := a0) (dst := a) (cs := vp_cell (G.2.1 t) (N0, .inl f)) (cd := vp_cell (G.2.1 t) (N1, .inl g)) (srcPos := sp) (destPos := dp) (n := z) (by rw [hT]; exact hc0) (by rw [hT]; exact hc1)
    (fun _ h => by cases h) (fun _ h => by cases h) (fun h => by cases h) (fun h => by cases h) hk0 hk1 hkk0 hkk1 (by simp [refKind]) g1 g2 g3
    (by rw [nn sp g1, nn z g3]; show ¬ _ > ((arrV (G.2.1 t) N0 (fun j => .int (f j))).slots.size : Int); rw [arrV_size]; omega)
    (by rw [nn dp g2, nn z g3]; show ¬ _ > ((arrV (G.2.1 t) N1 (fun j => .int (g j))).slots.size : Int); rw [arrV_size]; omega)
    (fun vm₁ _ i hi => by
      have e : (vp_cell (G.2.1 t) (N0, .inl f)).slots.getD (sp.toNatClampNeg + i) .null = .int (f (sp.toNatClampNeg + i)) := by
        show (arrV (G.2.1 t) N0 (fun j => .int (f j))).slots.getD _ _ = _
        rw [Array.getD_eq_getD_getElem?, arrV_read _ _ (by omega)]
        rfl
      refine ⟨?_, ?_⟩
      · rw [e]
        rfl
      · rw [e]
        exact trivial)
    (g := F0 m pc ls (.int z :: .int dp :: .ref a :: .int sp :: .ref a0 :: st)) rfl (by rw [hml]; exact hL.1) (rest := st) rfl (by rw [hb]; exact hM.dec hd) (by omega) (by show 2 * 0 + _ + _ ≤ _; omega)
  have e1 : copied (vp_cell (G.2.1 t) (N0, .inl f)) (vp_cell (G.2.1 t) (N1, .inl g)) sp dp z = vp_cell (G.2.1 t) (N1, .inl (va_cpy f g sp.toNatClampNeg dp.toNatClampNeg z.toNatClampNeg)) := va_copied (fun z => .int z) (G.2.1 t) (G.2.1 t) f g g4
  rw [e1] at X' step
  have hlt : a < H.size := (Array.getElem?_eq_some_iff.mp hc1).1
  have hheap : ((T.setVm vm').setCell a (vp_cell (G.2.1 t) (N1, .inl (va_cpy f g sp.toNatClampNeg dp.toNatClampNeg z.toNatClampNeg)))).heap = H.setIfInBounds a (vp_cell (G.2.1 t) (N1, .inl (va_cpy f g sp.toNatClampNeg dp.toNatClampNeg z.toNatClampNeg))) := by rw [← hT]; rfl
  have oq : ∀ q : Nat, q ≠ a → (H.setIfInBounds a (vp_cell (G.2.1 t) (N1, .inl (va_cpy f g sp.toNatClampNeg dp.toNatClampNeg z.toNatClampNeg))))[q]? = H[q]? := fun q hq => by simp [Array.getElem?_setIfInBounds, Ne.symm hq]
  obtain ⟨t', a1, b1⟩ := kk p e R s m args below meth c _ _ cells slots ls A hC (hR.put (by simp) (show (H.setIfInBounds a _)[a]? = some _ by simp [Array.getElem?_setIfInBounds, hlt]) oq) ⟨by simp; exact hS.1, fun q q1 q2 => by
      rw [oq q (fun e => q2 (by rw [e]; exact hI a _ ha))]
      exact hS.2.1 q q1 q2, fun q hq => by
      rcases List.mem_append.mp hq with h | h
      · exact hS.2.2 q h
      · obtain ⟨z, -, hz⟩ := List.mem_map.mp h
        rw [← hz]
        exact hI a _ ha⟩ (hI.put _ (hI a _ ha)) hA h1 h2 h3 h4 hL _ hheap X'
  exact ⟨t', step t' a1, b1⟩
end XMO
end
section
/-! THE SECOND LAYER: ints are whole numbers (z stands for the Java int of z), arrays are functions into whole numbers -/
abbrev xV : Type := Int ⊕ Int64 ⊕ Option Nat
abbrev vi (z : Int) : xV := .inl z
abbrev vl (w : Int64) : xV := .inr (.inl w)
abbrev vr (a : Nat) : xV := .inr (.inr (some a))
abbrev vn : xV := .inr (.inr none)
def den : xV → Value
  | .inl z => .int (iI z)
  | .inr (.inl w) => .long w
  | .inr (.inr (some a)) => .ref a
  | .inr (.inr none) => .null
/-- cells: kind and length and contents, or which of vwCl and the fields -/
abbrev yE : Type := (Nat × Nat × ((Nat → Int) ⊕ (Nat → Option Nat))) ⊕ (Nat × List xV)
abbrev yH : Type := Nat → Option yE
abbrev ai (N : Nat) (F : Nat → Int) : yE := .inl (0, N, .inl F)
abbrev az (N : Nat) (F : Nat → Int) : yE := .inl (1, N, .inl F)
abbrev aq (t N : Nat) (F : Nat → Option Nat) : yE := .inl (t, N, .inr F)
abbrev ob (ci : Nat) (fs : List xV) : yE := .inr (ci, fs)
def dE : yE → xE
  | .inl (t, N, .inl F) => .inl (t, N, .inl (fun k => iI (F k)))
  | .inl (t, N, .inr F) => .inl (t, N, .inr (.inr (.inr (.inr F))))
  | .inr (ci, fs) => .inr (ci, fs.map den)
def dH (h : yH) : xH := fun a => (h a).map dE
def yup (h : yH) (a : Nat) (e : yE) : yH := fun q => if q = a then some e else h q
theorem yup_eq (h : yH) (a : Nat) (e : yE) : yup h a e a = some e := by simp [yup]
theorem yup_ne (h : yH) {a q : Nat} (e : yE) (hq : q ≠ a) : yup h a e q = h q := by simp [yup, hq]
theorem dH_up (h : yH) (a : Nat) (e : yE) : xup (dH h) a (dE e) = dH (yup h a e) := by
  funext q
  by_cases c : q = a
  · subst c; rw [xup_eq]; simp [dH, yup]
  · rw [xup_ne _ _ c]; simp [dH, yup, c]
theorem dH_at {h : yH} {a : Nat} {e : yE} (ha : h a = some e) : dH h a = some (dE e) := by simp [dH, ha]
def mL (L : List (Option xV)) : List (Option Value) := L.map (fun o => o.map den)
def mS (st : List xV) : List Value := st.map den
def yPost (Φ : Option xV → yH → Nat → Prop) : Option Value → xH → Nat → Prop := fun v h n => ∃ (u : Option xV) (g : yH), v = u.map den ∧ h = dH g ∧ Φ u g n
def YW (l : Launch) (G : xG) (M : xM) (d kc ks : Nat) (Φ : Option xV → yH → Nat → Prop) (pc : Nat) (L : List (Option xV)) (st : List xV) (h : yH) (n : Nat) : Prop :=
  XW l G M d kc ks (yPost Φ) pc (mL L) (mS st) (dH h) n
def YM (l : Launch) (G : xG) (M : xM) (d mc ms : Nat) (av : List xV) (h : yH) (n : Nat) (Φ : Option xV → yH → Nat → Prop) : Prop :=
  XM l G M d mc ms (mS av) (dH h) n (yPost Φ)
def yand (x y : Int) : Int := (iI x &&& iI y).toInt
def yor (x y : Int) : Int := (iI x ||| iI y).toInt
def yxor (x y : Int) : Int := (iI x ^^^ iI y).toInt
def yshl (x y : Int) : Int := (iI x <<< (iI y &&& 31)).toInt
def yshr (x y : Int) : Int := (iI x >>> (iI y &&& 31)).toInt
def yushr (x y : Int) : Int := ((iI x).toUInt32 >>> ((iI y).toUInt32 &&& Int32.toUInt32 31)).toInt32.toInt
def ykill (o : Option xV) : Option xV := match o with
  | some (.inr (.inl _)) => none
  | o => o
def yst1 : List (Option xV) → Nat → xV → List (Option xV)
  | [], _, _ => []
  | _ :: t, 0, v => some v :: t
  | o :: t, 1, v => ykill o :: yst1 t 0 v
  | o :: t, i + 2, v => o :: yst1 t (i + 1) v
def yst2 : List (Option xV) → Nat → xV → List (Option xV)
  | [], _, _ => []
  | _ :: t, 0, v => some v :: t.set 0 none
  | o :: t, 1, v => ykill o :: yst2 t 0 v
  | o :: t, i + 2, v => o :: yst2 t (i + 1) v
theorem ykill_ok (o : Option xV) : xkill (o.map den) = (ykill o).map den := by
  match o with
  | none => rfl
  | some (.inl z) => rfl
  | some (.inr (.inl w)) => rfl
  | some (.inr (.inr (some a))) => rfl
  | some (.inr (.inr none)) => rfl
theorem yst1_ok : ∀ (L : List (Option xV)) (i : Nat) (v : xV), xst1 (mL L) i (den v) = mL (yst1 L i v)
  | [], i, v => by simp [mL, xst1, yst1]
  | o :: t, 0, v => by simp [mL, xst1, yst1]
  | o :: t, 1, v => by
    have := yst1_ok t 0 v
    simp only [mL, List.map_cons, xst1, yst1, ykill_ok] at this ⊢
    rw [this]
  | o :: t, i + 2, v => by
    have := yst1_ok t (i + 1) v
    simp only [mL, List.map_cons, xst1, yst1] at this ⊢
    rw [this]
theorem yst2_ok : ∀ (L : List (Option xV)) (i : Nat) (v : xV), xst2 (mL L) i (den v) = mL (yst2 L i v)
  | [], i, v => by simp [mL, xst2, yst2]
  | o :: t, 0, v => by simp [mL, xst2, yst2, List.map_set]
  | o :: t, 1, v => by
    have := yst2_ok t 0 v
    simp only [mL, List.map_cons, xst2, yst2, ykill_ok] at this ⊢
    rw [this]
  | o :: t, i + 2, v => by
    have := yst2_ok t (i + 1) v
    simp only [mL, List.map_cons, xst2, yst2] at this ⊢
    rw [this]
theorem mL_at {L : List (Option xV)} {k : Nat} {v : xV} (h : L[k]? = some (some v)) : (mL L)[k]? = some (some (den v)) := by simp [mL, h]
end
section
def ys (i : Instr) (nL : Nat) (L : List (Option xV)) (st : List xV) : Option (List (Option xV) × List xV) :=
  match i with
  | .iconst z => some (L, vi z :: st)
  | .bipush z => if (Int8.ofInt z).toInt32 = iI z then some (L, vi z :: st) else none
  | .sipush z => if (Int16.ofInt z).toInt32 = iI z then some (L, vi z :: st) else none
  | .lconst z => some (L, vl (Int64.ofNat z) :: st)
  | .aconst_null => some (L, vn :: st)
  | .iload_n k => match L[(k : Nat)]? with | some (some (.inl x)) => some (L, vi x :: st) | _ => none
  | .iload k => match L[k]? with | some (some (.inl x)) => some (L, vi x :: st) | _ => none
  | .lload_n k => match L[(k : Nat)]? with | some (some (.inr (.inl x))) => some (L, vl x :: st) | _ => none
  | .lload k => match L[k]? with | some (some (.inr (.inl x))) => some (L, vl x :: st) | _ => none
  | .aload_n k => match L[(k : Nat)]? with | some (some (.inr (.inr (some x)))) => some (L, vr x :: st) | _ => none
  | .aload k => match L[k]? with | some (some (.inr (.inr (some x)))) => some (L, vr x :: st) | _ => none
  | .istore_n k => match st with | .inl x :: st => if (k : Nat) < nL then some (yst1 L k (vi x), st) else none | _ => none
  | .istore k => match st with | .inl x :: st => if k < nL then some (yst1 L k (vi x), st) else none | _ => none
  | .astore_n k => match st with | .inr (.inr (some x)) :: st => if (k : Nat) < nL then some (yst1 L k (vr x), st) else none | _ => none
  | .astore k => match st with | .inr (.inr (some x)) :: st => if k < nL then some (yst1 L k (vr x), st) else none | _ => none
  | .lstore_n k => match st with | .inr (.inl x) :: st => if (k : Nat) + 1 < nL then some (yst2 L k (vl x), st) else none | _ => none
  | .lstore k => match st with | .inr (.inl x) :: st => if k + 1 < nL then some (yst2 L k (vl x), st) else none | _ => none
  | .iinc k z => match L[k]? with | some (some (.inl x)) => if k < nL then some (yst1 L k (vi (x + z)), st) else none | _ => none
  | .iadd => match st with | .inl y :: .inl x :: st => some (L, vi (x + y) :: st) | _ => none
  | .isub => match st with | .inl y :: .inl x :: st => some (L, vi (x - y) :: st) | _ => none
  | .imul => match st with | .inl y :: .inl x :: st => some (L, vi (x * y) :: st) | _ => none
  | .ineg => match st with | .inl x :: st => some (L, vi (-x) :: st) | _ => none
  | .iand => match st with | .inl y :: .inl x :: st => some (L, vi (yand x y) :: st) | _ => none
  | .ior => match st with | .inl y :: .inl x :: st => some (L, vi (yor x y) :: st) | _ => none
  | .ixor => match st with | .inl y :: .inl x :: st => some (L, vi (yxor x y) :: st) | _ => none
  | .ishl => match st with | .inl y :: .inl x :: st => some (L, vi (yshl x y) :: st) | _ => none
  | .ishr => match st with | .inl y :: .inl x :: st => some (L, vi (yshr x y) :: st) | _ => none
  | .iushr => match st with | .inl y :: .inl x :: st => some (L, vi (yushr x y) :: st) | _ => none
  | .i2l => match st with | .inl x :: st => some (L, vl (iI x).toInt64 :: st) | _ => none
  | .l2i => match st with | .inr (.inl x) :: st => some (L, vi x.toInt32.toInt :: st) | _ => none
  | .ladd => match st with | .inr (.inl y) :: .inr (.inl x) :: st => some (L, vl (x + y) :: st) | _ => none
  | .lsub => match st with | .inr (.inl y) :: .inr (.inl x) :: st => some (L, vl (x - y) :: st) | _ => none
  | .lmul => match st with | .inr (.inl y) :: .inr (.inl x) :: st => some (L, vl (x * y) :: st) | _ => none
  | .land => match st with | .inr (.inl y) :: .inr (.inl x) :: st => some (L, vl (x &&& y) :: st) | _ => none
  | .lor => match st with | .inr (.inl y) :: .inr (.inl x) :: st => some (L, vl (x ||| y) :: st) | _ => none
  | .lxor => match st with | .inr (.inl y) :: .inr (.inl x) :: st => some (L, vl (x ^^^ y) :: st) | _ => none
  | .lneg => match st with | .inr (.inl x) :: st => some (L, vl (-x) :: st) | _ => none
  | .lshl => match st with | .inl y :: .inr (.inl x) :: st => some (L, vl (x <<< ((iI y).toInt64 &&& 63)) :: st) | _ => none
  | .lshr => match st with | .inl y :: .inr (.inl x) :: st => some (L, vl (x >>> ((iI y).toInt64 &&& 63)) :: st) | _ => none
  | .lushr => match st with | .inl y :: .inr (.inl x) :: st => some (L, vl ((x.toUInt64 >>> ((iI y).toInt64.toUInt64 &&& Int64.toUInt64 63)).toInt64) :: st) | _ => none
  | .lcmp => match st with | .inr (.inl y) :: .inr (.inl x) :: st => some (L, vi (lg_cmp x y).toInt :: st) | _ => none
  | .dup => match st with | .inl x :: st => some (L, vi x :: vi x :: st) | .inr (.inr (some x)) :: st => some (L, vr x :: vr x :: st) | _ => none
  | .dup_x1 => match st with | .inl x :: .inr (.inr (some y)) :: st => some (L, vi x :: vr y :: vi x :: st) | .inl x :: .inl y :: st => some (L, vi x :: vi y :: vi x :: st) | _ => none
  | .dup_x2 => match st with | .inl x :: .inl y :: .inr (.inr (some z)) :: st => some (L, vi x :: vi y :: vr z :: vi x :: st) | _ => none
  | .dup2 => match st with | .inl x :: .inr (.inr (some y)) :: st => some (L, vi x :: vr y :: vi x :: vr y :: st) | .inl x :: .inl y :: st => some (L, vi x :: vi y :: vi x :: vi y :: st) | .inr (.inl x) :: st => some (L, vl x :: vl x :: st) | _ => none
  | .pop => match st with | .inl _ :: st => some (L, st) | .inr (.inr (some _)) :: st => some (L, st) | _ => none
  | _ => none
set_option maxHeartbeats 4000000 in
theorem ys_ok {i : Instr} {nL : Nat} {L L' : List (Option xV)} {st st' : List xV} (hs : ys i nL L st = some (L', st')) : xs i nL (mL L) (mS st) = some (mL L', mS st') := by
  cases i
  case iconst z =>
    simp only [ys] at hs
    cases hs
    rfl
  case bipush z =>
    simp only [ys] at hs
    split at hs
    · rename_i hz
      cases hs
      simp only [xs, if_pos hz]
      rfl
    · cases hs
  case sipush z =>
    simp only [ys] at hs
    split at hs
    · rename_i hz
      cases hs
      simp only [xs, if_pos hz]
      rfl
    · cases hs
  case lconst z =>
    simp only [ys] at hs
    cases hs
    rfl
  case aconst_null =>
    simp only [ys] at hs
    cases hs
    rfl
  case iload_n k =>
    simp only [ys] at hs
    split at hs
    · rename_i x hq
      cases hs
      have hq' := mL_at hq
      simp only [den] at hq'
      simp only [xs, hq']
      rfl
    · cases hs
  case iload k =>
    simp only [ys] at hs
    split at hs
    · rename_i x hq
      cases hs
      have hq' := mL_at hq
      simp only [den] at hq'
      simp only [xs, hq']
      rfl
    · cases hs
  case lload_n k =>
    simp only [ys] at hs
    split at hs
    · rename_i x hq
      cases hs
      have hq' := mL_at hq
      simp only [den] at hq'
      simp only [xs, hq']
      rfl
    · cases hs
  case lload k =>
    simp only [ys] at hs
    split at hs
    · rename_i x hq
      cases hs
      have hq' := mL_at hq
      simp only [den] at hq'
      simp only [xs, hq']
      rfl
    · cases hs
  case aload_n k =>
    simp only [ys] at hs
    split at hs
    · rename_i x hq
      cases hs
      have hq' := mL_at hq
      simp only [den] at hq'
      simp only [xs, hq']
      rfl
    · cases hs
  case aload k =>
    simp only [ys] at hs
    split at hs
    · rename_i x hq
      cases hs
      have hq' := mL_at hq
      simp only [den] at hq'
      simp only [xs, hq']
      rfl
    · cases hs
  case istore_n k =>
    simp only [ys] at hs
    split at hs
    · split at hs
      · rename_i x st' hq
        cases hs
        have e := yst1_ok L k (vi x)
        simp only [den] at e
        simp only [xs, mS, List.map_cons, den, if_pos hq, e]
      · cases hs
    · cases hs
  case istore k =>
    simp only [ys] at hs
    split at hs
    · split at hs
      · rename_i x st' hq
        cases hs
        have e := yst1_ok L k (vi x)
        simp only [den] at e
        simp only [xs, mS, List.map_cons, den, if_pos hq, e]
      · cases hs
    · cases hs
  case astore_n k =>
    simp only [ys] at hs
    split at hs
    · split at hs
      · rename_i x st' hq
        cases hs
        have e := yst1_ok L k (vr x)
        simp only [den] at e
        simp only [xs, mS, List.map_cons, den, if_pos hq, e]
      · cases hs
    · cases hs
  case astore k =>
    simp only [ys] at hs
    split at hs
    · split at hs
      · rename_i x st' hq
        cases hs
        have e := yst1_ok L k (vr x)
        simp only [den] at e
        simp only [xs, mS, List.map_cons, den, if_pos hq, e]
      · cases hs
    · cases hs
  case lstore_n k =>
    simp only [ys] at hs
    split at hs
    · split at hs
      · rename_i x st' hq
        cases hs
        have e := yst2_ok L k (vl x)
        simp only [den] at e
        simp only [xs, mS, List.map_cons, den, if_pos hq, e]
      · cases hs
    · cases hs
  case lstore k =>
    simp only [ys] at hs
    split at hs
    · split at hs
      · rename_i x st' hq
        cases hs
        have e := yst2_ok L k (vl x)
        simp only [den] at e
        simp only [xs, mS, List.map_cons, den, if_pos hq, e]
      · cases hs
    · cases hs
  case iinc k z =>
    simp only [ys] at hs
    split at hs
    · split at hs
      · rename_i x hq hn
        cases hs
        have hq' := mL_at hq
        have e := yst1_ok L k (vi (x + z))
        simp only [den] at hq' e
        simp only [xs, hq', if_pos hn, iI_add, e]
      · cases hs
    · cases hs
  case iadd =>
    simp only [ys] at hs
    split at hs
    · cases hs
      simp only [xs, mS, List.map_cons, den, iI_add]
    · cases hs
  case isub =>
    simp only [ys] at hs
    split at hs
    · cases hs
      simp only [xs, mS, List.map_cons, den, iI_sub]
    · cases hs
  case imul =>
    simp only [ys] at hs
    split at hs
    · cases hs
      simp only [xs, mS, List.map_cons, den, iI_mul]
    · cases hs
  case ineg =>
    simp only [ys] at hs
    split at hs
    · cases hs
      simp only [xs, mS, List.map_cons, den, iI_neg]
    · cases hs
  case iand =>
    simp only [ys] at hs
    split at hs
    · cases hs
      simp only [xs, mS, List.map_cons, den, yand, ← iI_of]
    · cases hs
  case ior =>
    simp only [ys] at hs
    split at hs
    · cases hs
      simp only [xs, mS, List.map_cons, den, yor, ← iI_of]
    · cases hs
  case ixor =>
    simp only [ys] at hs
    split at hs
    · cases hs
      simp only [xs, mS, List.map_cons, den, yxor, ← iI_of]
    · cases hs
  case ishl =>
    simp only [ys] at hs
    split at hs
    · cases hs
      simp only [xs, mS, List.map_cons, den, yshl, ← iI_of]
    · cases hs
  case ishr =>
    simp only [ys] at hs
    split at hs
    · cases hs
      simp only [xs, mS, List.map_cons, den, yshr, ← iI_of]
    · cases hs
  case iushr =>
    simp only [ys] at hs
    split at hs
    · cases hs
      simp only [xs, mS, List.map_cons, den, yushr, ← iI_of]
    · cases hs
  case i2l =>
    simp only [ys] at hs
    split at hs
    · cases hs
      rfl
    · cases hs
  case l2i =>
    simp only [ys] at hs
    split at hs
    · cases hs
      simp only [xs, mS, List.map_cons, den, ← iI_of]
    · cases hs
  case ladd =>
    simp only [ys] at hs
    split at hs
    · cases hs
      rfl
    · cases hs
  case lsub =>
    simp only [ys] at hs
    split at hs
    · cases hs
      rfl
    · cases hs
  case lmul =>
    simp only [ys] at hs
    split at hs
    · cases hs
      rfl
    · cases hs
  case land =>
    simp only [ys] at hs
    split at hs
    · cases hs
      rfl
    · cases hs
  case lor =>
    simp only [ys] at hs
    split at hs
    · cases hs
      rfl
    · cases hs
  case lxor =>
    simp only [ys] at hs
    split at hs
    · cases hs
      rfl
    · cases hs
  case lneg =>
    simp only [ys] at hs
    split at hs
    · cases hs
      rfl
    · cases hs
  case lshl =>
    simp only [ys] at hs
    split at hs
    · cases hs
      rfl
    · cases hs
  case lshr =>
    simp only [ys] at hs
    split at hs
    · cases hs
      rfl
    · cases hs
  case lushr =>
    simp only [ys] at hs
    split at hs
    · cases hs
      rfl
    · cases hs
  case lcmp =>
    simp only [ys] at hs
    split at hs
    · cases hs
      simp only [xs, mS, List.map_cons, den, ← iI_of]
    · cases hs
  case dup =>
    simp only [ys] at hs
    split at hs
    · cases hs
      rfl
    · cases hs
      rfl
    · cases hs
  case dup_x1 =>
    simp only [ys] at hs
    split at hs
    · cases hs
      rfl
    · cases hs
      rfl
    · cases hs
  case dup_x2 =>
    simp only [ys] at hs
    split at hs
    · cases hs
      rfl
    · cases hs
  case dup2 =>
    simp only [ys] at hs
    split at hs
    · cases hs
      rfl
    · cases hs
      rfl
    · cases hs
      rfl
    · cases hs
  case pop =>
    simp only [ys] at hs
    split at hs
    · cases hs
      rfl
    · cases hs
      rfl
    · cases hs
  all_goals (simp [ys] at hs)
end
section
/-- the rows from a place on -/
def xsuf (D : List (Nat × Instr × Nat)) (pc : Nat) : List (Nat × Instr × Nat) := match D with
  | [] => []
  | q :: r => match Nat.beq q.1 pc with
    | true => q :: r
    | false => xsuf r pc
theorem xsuf_ok : ∀ (D : List (Nat × Instr × Nat)) (pc : Nat), (∀ q ∈ xsuf D pc, q ∈ D) ∧ ∀ q r, xsuf D pc = q :: r → q.1 = pc
  | [], pc => ⟨fun q hq => hq, fun q r e => by cases e⟩
  | a :: D, pc => by
    unfold xsuf
    cases hb : Nat.beq a.1 pc with
    | true => exact ⟨fun q hq => hq, fun q r e => by cases e; exact Nat.eq_of_beq_eq_true hb⟩
    | false =>
      obtain ⟨h1, h2⟩ := xsuf_ok D pc
      exact ⟨fun q hq => List.mem_cons_of_mem _ (h1 q hq), h2⟩
/-- the rows from a jump's target on -/
def xjmp (D : List (Nat × Instr × Nat)) (pc : Nat) (off : Int) : List (Nat × Instr × Nat) := match D with
  | [] => []
  | q :: r => match decide ((q.1 : Int) = (pc : Int) + off) with
    | true => q :: r
    | false => xjmp r pc off
theorem xjmp_ok : ∀ (D : List (Nat × Instr × Nat)) (pc : Nat) (off : Int), (∀ q ∈ xjmp D pc off, q ∈ D) ∧ ∀ q r, xjmp D pc off = q :: r → (pc : Int) + off = (q.1 : Int)
  | [], pc, off => ⟨fun q hq => hq, fun q r e => by cases e⟩
  | a :: D, pc, off => by
    unfold xjmp
    cases hb : decide ((a.1 : Int) = (pc : Int) + off) with
    | true => exact ⟨fun q hq => hq, fun q r e => by cases e; exact (of_decide_eq_true hb).symm⟩
    | false =>
      obtain ⟨h1, h2⟩ := xjmp_ok D pc off
      exact ⟨fun q hq => List.mem_cons_of_mem _ (h1 q hq), h2⟩
def yhd (D : List (Nat × Instr × Nat)) (L : List (Option xV)) (st : List xV) : Option (Nat × List (Option xV) × List xV) := match D with
  | [] => none
  | q :: _ => some (q.1, L, st)
def ygo (M : xM) : Nat → Bool → List (Nat × Instr × Nat) → List (Option xV) → List xV → Option (Nat × List (Option xV) × List xV)
  | 0, _, D, L, st => yhd D L st
  | f + 1, b, D, L, st => match D with
    | [] => none
    | (pc, i, len) :: r => match !b && M.2.2.2.2.2.1.contains pc with
      | true => some (pc, L, st)
      | false => match i with
        | .goto off => match Nat.beq len 3 with
          | true => ygo M f false (xjmp M.2.2.2.2.1 pc off) L st
          | false => some (pc, L, st)
        | i => match ys i M.2.2.1 L st with
          | none => some (pc, L, st)
          | some (L', st') => match r with
            | [] => some (pc, L, st)
            | (pc2, i2) :: r2 => match Nat.beq len (xlen i) && Nat.beq pc2 (pc + len) with
              | true => ygo M f false ((pc2, i2) :: r2) L' st'
              | false => some (pc, L, st)
section YR
variable {l : Launch} {G : xG} {M : xM} {d kc ks : Nat} {Φ Ψ : Option xV → yH → Nat → Prop} {h : yH} {n : Nat}
set_option maxHeartbeats 1000000 in
theorem y_go (hM : xOK M) {pc' : Nat} {L' : List (Option xV)} {st' : List xV} (k : YW l G M d kc ks Φ pc' L' st' h n) : ∀ (f : Nat) (b : Bool) (D : List (Nat × Instr × Nat)) (L : List (Option xV)) (st : List xV), (∀ q ∈ D, q ∈ M.2.2.2.2.1) → ygo M f b D L st = some (pc', L', st') → ∃ q r, D = q :: r ∧ YW l G M d kc ks Φ q.1 L st h n := by
  have stay : ∀ (q : Nat × Instr × Nat) (r : List (Nat × Instr × Nat)) (L : List (Option xV)) (st : List xV), some (q.1, L, st) = some (pc', L', st') → ∃ q' r', q :: r = q' :: r' ∧ YW l G M d kc ks Φ q'.1 L st h n := by
    intro q r L st e
    cases e
    exact ⟨q, r, rfl, k⟩
  intro f
  induction f with
  | zero =>
    intro b D L st hD e
    unfold ygo yhd at e
    cases D with
    | nil => cases e
    | cons q r => exact stay q r L st e
  | succ f ih =>
    intro b D L st hD e
    unfold ygo at e
    cases D with
    | nil => cases e
    | cons q r =>
      obtain ⟨pc, i, len⟩ := q
      have hdec : decode M.2.1 pc = .ok (i, len) := hM.2.2.1 (pc, i, len) (hD _ List.mem_cons_self)
      dsimp only at e
      split at e
      · exact stay (pc, i, len) r L st e
      · split at e
        · rename_i off
          split at e
          · rename_i hlen
            have hlen := Nat.eq_of_beq_eq_true hlen
            subst hlen
            obtain ⟨q, r', e1, k1⟩ := ih false _ L st (xjmp_ok M.2.2.2.2.1 pc off).1 e
            refine ⟨_, _, rfl, ?_⟩
            unfold YW at k1 ⊢
            exact XW.by (fun p e R s m args below meth c H locs cells slots ls Q hx hb hL kk => lv_goto (tgt := q.1) hx hb hdec ((xjmp_ok M.2.2.2.2.1 pc off).2 q r' e1) (kk ls hL)) k1
          · exact stay (pc, .goto off, len) r L st e
        · split at e
          · exact stay (pc, i, len) r L st e
          · rename_i L1 st1 hs
            cases r with
            | nil => exact stay (pc, i, len) [] L st e
            | cons q2 r2 =>
              obtain ⟨pc2, i2⟩ := q2
              dsimp only at e
              split at e
              · rename_i hlen
                rw [Bool.and_eq_true] at hlen
                have hnx := Nat.eq_of_beq_eq_true hlen.2
                have hlen := Nat.eq_of_beq_eq_true hlen.1
                subst hlen
                obtain ⟨q, r', e1, k1⟩ := ih false _ L1 st1 (fun q hq => hD q (List.mem_cons_of_mem _ hq)) e
                cases e1
                refine ⟨_, _, rfl, ?_⟩
                dsimp only at k1 ⊢
                rw [hnx] at k1
                unfold YW at k1 ⊢
                exact XW.by (fun p e R s m args below meth c H locs cells slots ls Q hx hb hL kk => xs_ok hx hb hL hdec (ys_ok hs) kk) k1
              · exact stay (pc, i, len) _ L st e
/-- the run to the next stop: 'refine y_run kM rfl ?_' -/
theorem y_run (hM : xOK M) {pc pc' : Nat} {L L' : List (Option xV)} {st st' : List xV} (hr : ygo M 80 true (xsuf M.2.2.2.2.1 pc) L st = some (pc', L', st')) (k : YW l G M d kc ks Φ pc' L' st' h n) : YW l G M d kc ks Φ pc L st h n := by
  obtain ⟨q, r, e, k1⟩ := y_go hM k 80 true _ L st (xsuf_ok M.2.2.2.2.1 pc).1 hr
  rw [(xsuf_ok M.2.2.2.2.1 pc).2 q r e] at k1
  exact k1
variable {pc : Nat} {L : List (Option xV)} {st rest : List xV}
theorem YW.he {h' : yH} (e : h = h') (k : YW l G M d kc ks Φ pc L st h' n) : YW l G M d kc ks Φ pc L st h n := e ▸ k
theorem YW.se {st' : List xV} (e : st = st') (k : YW l G M d kc ks Φ pc L st' h n) : YW l G M d kc ks Φ pc L st h n := e ▸ k
theorem YW.Le {L' : List (Option xV)} (e : L = L') (k : YW l G M d kc ks Φ pc L' st h n) : YW l G M d kc ks Φ pc L st h n := e ▸ k
theorem y_if_eq (hM : xOK M) {x : Int} {off : Int} {tgt : Nat} (hd : xat M pc = some (.ifCond .eq off, 3)) (ht : xtg M pc off = some tgt) (kt : x = 0 → YW l G M d kc ks Φ tgt L st h n) (kf : x ≠ 0 → YW l G M d kc ks Φ (pc + 3) L st h n) (b1 : -2147483648 ≤ x := by omega) (b2 : x < 2147483648 := by omega) : YW l G M d kc ks Φ pc L (vi x :: st) h n := by
  have e := iI_eq (a := x) (b := 0) b1 b2 (by omega) (by omega)
  rw [iI_0] at e
  exact x_if_eq hM hd ht (fun c1 => kt (e.mp c1)) (fun c1 => kf (fun c2 => c1 (e.mpr c2)))
theorem y_ic_eq (hM : xOK M) {x y : Int} {off : Int} {tgt : Nat} (hd : xat M pc = some (.if_icmp .eq off, 3)) (ht : xtg M pc off = some tgt) (kt : x = y → YW l G M d kc ks Φ tgt L st h n) (kf : x ≠ y → YW l G M d kc ks Φ (pc + 3) L st h n) (b1 : -2147483648 ≤ x := by omega) (b2 : x < 2147483648 := by omega) (b3 : -2147483648 ≤ y := by omega) (b4 : y < 2147483648 := by omega) : YW l G M d kc ks Φ pc L (vi y :: vi x :: st) h n := by
  have e := iI_eq (a := x) (b := y) b1 b2 b3 b4
  exact x_ic_eq hM hd ht (fun c1 => kt (e.mp c1)) (fun c1 => kf (fun c2 => c1 (e.mpr c2)))
theorem y_if_ne (hM : xOK M) {x : Int} {off : Int} {tgt : Nat} (hd : xat M pc = some (.ifCond .ne off, 3)) (ht : xtg M pc off = some tgt) (kt : x ≠ 0 → YW l G M d kc ks Φ tgt L st h n) (kf : x = 0 → YW l G M d kc ks Φ (pc + 3) L st h n) (b1 : -2147483648 ≤ x := by omega) (b2 : x < 2147483648 := by omega) : YW l G M d kc ks Φ pc L (vi x :: st) h n := by
  have e := iI_eq (a := x) (b := 0) b1 b2 (by omega) (by omega)
  rw [iI_0] at e
  exact x_if_ne hM hd ht (fun c1 => kt (fun c2 => c1 (e.mpr c2))) (fun c1 => kf (e.mp c1))
theorem y_ic_ne (hM : xOK M) {x y : Int} {off : Int} {tgt : Nat} (hd : xat M pc = some (.if_icmp .ne off, 3)) (ht : xtg M pc off = some tgt) (kt : x ≠ y → YW l G M d kc ks Φ tgt L st h n) (kf : x = y → YW l G M d kc ks Φ (pc + 3) L st h n) (b1 : -2147483648 ≤ x := by omega) (b2 : x < 2147483648 := by omega) (b3 : -2147483648 ≤ y := by omega) (b4 : y < 2147483648 := by omega) : YW l G M d kc ks Φ pc L (vi y :: vi x :: st) h n := by
  have e := iI_eq (a := x) (b := y) b1 b2 b3 b4
  exact x_ic_ne hM hd ht (fun c1 => kt (fun c2 => c1 (e.mpr c2))) (fun c1 => kf (e.mp c1))
theorem y_if_lt (hM : xOK M) {x : Int} {off : Int} {tgt : Nat} (hd : xat M pc = some (.ifCond .lt off, 3)) (ht : xtg M pc off = some tgt) (kt : x < 0 → YW l G M d kc ks Φ tgt L st h n) (kf : 0 ≤ x → YW l G M d kc ks Φ (pc + 3) L st h n) (b1 : -2147483648 ≤ x := by omega) (b2 : x < 2147483648 := by omega) : YW l G M d kc ks Φ pc L (vi x :: st) h n := by
  have e := iI_lt (a := x) (b := 0) b1 b2 (by omega) (by omega)
  rw [iI_0] at e
  exact x_if_lt hM hd ht (fun c1 => kt (e.mp c1)) (fun c1 => kf (by have c2 : ¬ (x < 0) := fun c3 => c1 (e.mpr c3); omega))
theorem y_ic_lt (hM : xOK M) {x y : Int} {off : Int} {tgt : Nat} (hd : xat M pc = some (.if_icmp .lt off, 3)) (ht : xtg M pc off = some tgt) (kt : x < y → YW l G M d kc ks Φ tgt L st h n) (kf : y ≤ x → YW l G M d kc ks Φ (pc + 3) L st h n) (b1 : -2147483648 ≤ x := by omega) (b2 : x < 2147483648 := by omega) (b3 : -2147483648 ≤ y := by omega) (b4 : y < 2147483648 := by omega) : YW l G M d kc ks Φ pc L (vi y :: vi x :: st) h n := by
  have e := iI_lt (a := x) (b := y) b1 b2 b3 b4
  exact x_ic_lt hM hd ht (fun c1 => kt (e.mp c1)) (fun c1 => kf (by have c2 : ¬ (x < y) := fun c3 => c1 (e.mpr c3); omega))
theorem y_if_ge (hM : xOK M) {x : Int} {off : Int} {tgt : Nat} (hd : xat M pc = some (.ifCond .ge off, 3)) (ht : xtg M pc off = some tgt) (kt : 0 ≤ x → YW l G M d kc ks Φ tgt L st h n) (kf : x < 0 → YW l G M d kc ks Φ (pc + 3) L st h n) (b1 : -2147483648 ≤ x := by omega) (b2 : x < 2147483648 := by omega) : YW l G M d kc ks Φ pc L (vi x :: st) h n := by
  have e := iI_le (a := 0) (b := x) (by omega) (by omega) b1 b2
  rw [iI_0] at e
  exact x_if_ge hM hd ht (fun c1 => kt (e.mp c1)) (fun c1 => kf (by have c2 : ¬ (0 ≤ x) := fun c3 => c1 (e.mpr c3); omega))
theorem y_ic_ge (hM : xOK M) {x y : Int} {off : Int} {tgt : Nat} (hd : xat M pc = some (.if_icmp .ge off, 3)) (ht : xtg M pc off = some tgt) (kt : y ≤ x → YW l G M d kc ks Φ tgt L st h n) (kf : x < y → YW l G M d kc ks Φ (pc + 3) L st h n) (b1 : -2147483648 ≤ x := by omega) (b2 : x < 2147483648 := by omega) (b3 : -2147483648 ≤ y := by omega) (b4 : y < 2147483648 := by omega) : YW l G M d kc ks Φ pc L (vi y :: vi x :: st) h n := by
  have e := iI_le (a := y) (b := x) b3 b4 b1 b2
  exact x_ic_ge hM hd ht (fun c1 => kt (e.mp c1)) (fun c1 => kf (by have c2 : ¬ (y ≤ x) := fun c3 => c1 (e.mpr c3); omega))
theorem y_if_gt (hM : xOK M) {x : Int} {off : Int} {tgt : Nat} (hd : xat M pc = some (.ifCond .gt off, 3)) (ht : xtg M pc off = some tgt) (kt : 0 < x → YW l G M d kc ks Φ tgt L st h n) (kf : x ≤ 0 → YW l G M d kc ks Φ (pc + 3) L st h n) (b1 : -2147483648 ≤ x := by omega) (b2 : x < 2147483648 := by omega) : YW l G M d kc ks Φ pc L (vi x :: st) h n := by
  have e := iI_lt (a := 0) (b := x) (by omega) (by omega) b1 b2
  rw [iI_0] at e
  exact x_if_gt hM hd ht (fun c1 => kt (e.mp c1)) (fun c1 => kf (by have c2 : ¬ (0 < x) := fun c3 => c1 (e.mpr c3); omega))
theorem y_ic_gt (hM : xOK M) {x y : Int} {off : Int} {tgt : Nat} (hd : xat M pc = some (.if_icmp .gt off, 3)) (ht : xtg M pc off = some tgt) (kt : y < x → YW l G M d kc ks Φ tgt L st h n) (kf : x ≤ y → YW l G M d kc ks Φ (pc + 3) L st h n) (b1 : -2147483648 ≤ x := by omega) (b2 : x < 2147483648 := by omega) (b3 : -2147483648 ≤ y := by omega) (b4 : y < 2147483648 := by omega) : YW l G M d kc ks Φ pc L (vi y :: vi x :: st) h n := by
  have e := iI_lt (a := y) (b := x) b3 b4 b1 b2
  exact x_ic_gt hM hd ht (fun c1 => kt (e.mp c1)) (fun c1 => kf (by have c2 : ¬ (y < x) := fun c3 => c1 (e.mpr c3); omega))
theorem y_if_le (hM : xOK M) {x : Int} {off : Int} {tgt : Nat} (hd : xat M pc = some (.ifCond .le off, 3)) (ht : xtg M pc off = some tgt) (kt : x ≤ 0 → YW l G M d kc ks Φ tgt L st h n) (kf : 0 < x → YW l G M d kc ks Φ (pc + 3) L st h n) (b1 : -2147483648 ≤ x := by omega) (b2 : x < 2147483648 := by omega) : YW l G M d kc ks Φ pc L (vi x :: st) h n := by
  have e := iI_le (a := x) (b := 0) b1 b2 (by omega) (by omega)
  rw [iI_0] at e
  exact x_if_le hM hd ht (fun c1 => kt (e.mp c1)) (fun c1 => kf (by have c2 : ¬ (x ≤ 0) := fun c3 => c1 (e.mpr c3); omega))
theorem y_ic_le (hM : xOK M) {x y : Int} {off : Int} {tgt : Nat} (hd : xat M pc = some (.if_icmp .le off, 3)) (ht : xtg M pc off = some tgt) (kt : x ≤ y → YW l G M d kc ks Φ tgt L st h n) (kf : y < x → YW l G M d kc ks Φ (pc + 3) L st h n) (b1 : -2147483648 ≤ x := by omega) (b2 : x < 2147483648 := by omega) (b3 : -2147483648 ≤ y := by omega) (b4 : y < 2147483648 := by omega) : YW l G M d kc ks Φ pc L (vi y :: vi x :: st) h n := by
  have e := iI_le (a := x) (b := y) b1 b2 b3 b4
  exact x_ic_le hM hd ht (fun c1 => kt (e.mp c1)) (fun c1 => kf (by have c2 : ¬ (x ≤ y) := fun c3 => c1 (e.mpr c3); omega))
theorem YM.of {mc ms : Nat} {av : List xV} (hM : xOK M) (hn : (lg_sl (mS av)).length ≤ M.2.2.1) {L0 : List (Option xV)} (hL : xent (mS av) M.2.2.1 = mL L0) (hW : YW l (gT G) M d mc ms Φ 0 L0 [] h n) : YM l G M d mc ms av h n Φ := by
  refine XM.of hM hn ?_
  rw [hL]
  exact hW
theorem y_ir (hM : xOK M) {z : Int} (hd : xat M pc = some (.ireturn, 1)) (hr : M.2.2.2.1 = some .int) (hΦ : Φ (some (vi z)) h n) : YW l G M d kc ks Φ pc L [vi z] h n :=
  x_iret hM hd hr rfl ⟨some (vi z), h, rfl, rfl, hΦ⟩
theorem y_zr (hM : xOK M) {z : Int} (hd : xat M pc = some (.ireturn, 1)) (hr : M.2.2.2.1 = some .boolean) (hz : z = 0 ∨ z = 1) (hΦ : Φ (some (vi z)) h n) : YW l G M d kc ks Φ pc L [vi z] h n :=
  x_iret hM hd hr (by rcases hz with rfl | rfl <;> rfl) ⟨some (vi z), h, rfl, rfl, hΦ⟩
theorem y_vr (hM : xOK M) (hd : xat M pc = some (.return_, 1)) (hr : M.2.2.2.1 = none) (hΦ : Φ none h n) : YW l G M d kc ks Φ pc L [] h n :=
  x_vret hM hd hr ⟨none, h, rfl, rfl, hΦ⟩
theorem y_get (hM : xOK M) {idx a ci k : Nat} {fs : List xV} {v : xV} (hd : xat M pc = some (.getfield idx, 3)) (hf : M.2.2.2.2.2.2.lookup idx = some (ci, k)) (ha : h a = some (ob ci fs)) (hv : fs[k]? = some v) (kk : YW l G M d kc ks Φ (pc + 3) L (v :: st) h n) : YW l G M d kc ks Φ pc L (vr a :: st) h n :=
  x_get hM hd hf (dH_at ha) (show (fs.map den)[k]? = some (den v) by simp [hv]) kk
theorem y_put (hM : xOK M) {idx a ci k : Nat} {fs : List xV} {v : xV} (hd : xat M pc = some (.putfield idx, 3)) (hf : M.2.2.2.2.2.2.lookup idx = some (ci, k)) (ha : h a = some (ob ci fs)) (hfin : xfin ci k = false) (hn : narrow (xty ci k) (den v) = den v) (hfit : fits (xty ci k) (den v) = true) (kk : YW l G M d kc ks Φ (pc + 3) L st (yup h a (ob ci (fs.set k v))) n) (hl : k < fs.length := by exact Nat.le_of_ble_eq_true rfl) : YW l G M d kc ks Φ pc L (v :: vr a :: st) h n := by
  refine x_put hM hd hf (dH_at ha) hfin hn hfit (by simpa using hl) ?_
  have e : (xup (dH h) a (.inr (ci, (fs.map den).set k (den v)))) = dH (yup h a (ob ci (fs.set k v))) := by
    rw [← dH_up]
    simp [dE, List.map_set]
  rw [e]
  exact kk
theorem y_putF (hM : xOK M) {idx a ci k : Nat} {fs : List xV} {v : xV} (hd : xat M pc = some (.putfield idx, 3)) (hf : M.2.2.2.2.2.2.lookup idx = some (ci, k)) (ha : h a = some (ob ci fs)) (hfin : xfin ci k = true) (hi0 : M.1.name = "<init>") (ho : xdec ci k = M.1.cls) (hn : narrow (xty ci k) (den v) = den v) (hfit : fits (xty ci k) (den v) = true) (kk : YW l G M d kc ks Φ (pc + 3) L st (yup h a (ob ci (fs.set k v))) n) (hl : k < fs.length := by exact Nat.le_of_ble_eq_true rfl) : YW l G M d kc ks Φ pc L (v :: vr a :: st) h n := by
  refine x_putF hM hd hf (dH_at ha) hfin hi0 ho hn hfit (by simpa using hl) ?_
  have e : (xup (dH h) a (.inr (ci, (fs.map den).set k (den v)))) = dH (yup h a (ob ci (fs.set k v))) := by
    rw [← dH_up]
    simp [dE, List.map_set]
  rw [e]
  exact kk
def upZ (F : Nat → Int) (k : Nat) (x : Int) : Nat → Int := fun j => if j = k then x else F j
theorem upZ_up (F : Nat → Int) (k : Nat) (x : Int) : upd (fun j => iI (F j)) k (iI x) = fun j => iI (upZ F k x j) := by
  funext j
  by_cases c : j = k <;> simp [upd, upZ, c]
theorem y_ia (hM : xOK M) {a N : Nat} {F : Nat → Int} {z : Int} (hd : xat M pc = some (.iaload, 1)) (ha : h a = some (ai N F)) (h1 : 0 ≤ z) (h2 : z < N) (kk : YW l G M d kc ks Φ (pc + 1) L (vi (F z.toNat) :: st) h n) (h3 : z < 2147483648 := by omega) : YW l G M d kc ks Φ pc L (vi z :: vr a :: st) h n := by
  refine x_iald hM hd (dH_at ha) rfl (iI_in h1 h2 h3) ?_
  rw [iI_nat h1 h3]
  exact kk
theorem y_ie (hM : xOK M) {a N : Nat} {F : Nat → Int} {z v : Int} (hd : xat M pc = some (.iaload, 1)) (ha : h a = some (ai N F)) (h1 : 0 ≤ z) (h2 : z < N) (hv : F z.toNat = v) (kk : YW l G M d kc ks Φ (pc + 1) L (vi v :: st) h n) (h3 : z < 2147483648 := by omega) : YW l G M d kc ks Φ pc L (vi z :: vr a :: st) h n := by
  subst hv
  exact y_ia hM hd ha h1 h2 kk h3
theorem y_za (hM : xOK M) {a N : Nat} {F : Nat → Int} {z : Int} (hd : xat M pc = some (.baload, 1)) (ha : h a = some (az N F)) (h1 : 0 ≤ z) (h2 : z < N) (kk : YW l G M d kc ks Φ (pc + 1) L (vi (F z.toNat) :: st) h n) (h3 : z < 2147483648 := by omega) : YW l G M d kc ks Φ pc L (vi z :: vr a :: st) h n := by
  refine x_zald hM hd (dH_at ha) rfl (iI_in h1 h2 h3) ?_
  rw [iI_nat h1 h3]
  exact kk
theorem y_qa (hM : xOK M) {a t N q : Nat} {C : String} {F : Nat → Option Nat} {z : Int} (hd : xat M pc = some (.aaload, 1)) (ha : h a = some (aq t N F)) (ht : xTys[t]? = some (.object C)) (h1 : 0 ≤ z) (h2 : z < N) (hq : F z.toNat = some q) (kk : YW l G M d kc ks Φ (pc + 1) L (vr q :: st) h n) (h3 : z < 2147483648 := by omega) : YW l G M d kc ks Φ pc L (vi z :: vr a :: st) h n := by
  refine x_aald (q := q) hM hd (dH_at ha) ht (iI_in h1 h2 h3) ?_ kk
  rw [iI_nat h1 h3]
  exact hq
theorem y_al (hM : xOK M) {a N : Nat} {F : Nat → Int} (hd : xat M pc = some (.arraylength, 1)) (ha : h a = some (ai N F)) (kk : YW l G M d kc ks Φ (pc + 1) L (vi (N : Int) :: st) h n) : YW l G M d kc ks Φ pc L (vr a :: st) h n :=
  x_alen hM hd (dH_at ha) rfl kk
theorem y_is (hM : xOK M) {a N : Nat} {F : Nat → Int} {z x : Int} (hd : xat M pc = some (.iastore, 1)) (ha : h a = some (ai N F)) (h1 : 0 ≤ z) (h2 : z < N) (kk : YW l G M d kc ks Φ (pc + 1) L st (yup h a (ai N (upZ F z.toNat x))) n) (h3 : z < 2147483648 := by omega) : YW l G M d kc ks Φ pc L (vi x :: vi z :: vr a :: st) h n := by
  refine x_iast hM hd (dH_at ha) rfl (iI_in h1 h2 h3) ?_
  rw [iI_nat h1 h3, upZ_up]
  exact (dH_up h a (ai N (upZ F z.toNat x))) ▸ kk
theorem yup_yup (h : yH) (a : Nat) (e e' : yE) : yup (yup h a e) a e' = yup h a e' := by
  funext q
  by_cases c : q = a <;> simp [yup, c]
theorem y_put2 (hM : xOK M) {idx a ci k : Nat} {fs : List xV} {v : xV} (hd : xat M pc = some (.putfield idx, 3)) (hf : M.2.2.2.2.2.2.lookup idx = some (ci, k)) (hfin : xfin ci k = false) (hn : narrow (xty ci k) (den v) = den v) (hfit : fits (xty ci k) (den v) = true) (kk : YW l G M d kc ks Φ (pc + 3) L st (yup h a (ob ci (fs.set k v))) n) (hl : k < fs.length := by exact Nat.le_of_ble_eq_true rfl) : YW l G M d kc ks Φ pc L (v :: vr a :: st) (yup h a (ob ci fs)) n := by
  refine y_put hM hd hf (yup_eq _ _ _) hfin hn hfit ?_ hl
  rw [yup_yup]
  exact kk
theorem y_is2 (hM : xOK M) {a N : Nat} {F : Nat → Int} {z x : Int} (hd : xat M pc = some (.iastore, 1)) (h1 : 0 ≤ z) (h2 : z < N) (kk : YW l G M d kc ks Φ (pc + 1) L st (yup h a (ai N (upZ F z.toNat x))) n) (h3 : z < 2147483648 := by omega) : YW l G M d kc ks Φ pc L (vi x :: vi z :: vr a :: st) (yup h a (ai N F)) n := by
  refine y_is hM hd (yup_eq _ _ _) h1 h2 ?_ h3
  rw [yup_yup]
  exact kk
theorem y_zs (hM : xOK M) {a N : Nat} {F : Nat → Int} {z x : Int} (hd : xat M pc = some (.bastore, 1)) (ha : h a = some (az N F)) (h1 : 0 ≤ z) (h2 : z < N) (hx : x = 0 ∨ x = 1) (kk : YW l G M d kc ks Φ (pc + 1) L st (yup h a (az N (upZ F z.toNat x))) n) (h3 : z < 2147483648 := by omega) : YW l G M d kc ks Φ pc L (vi x :: vi z :: vr a :: st) h n := by
  refine x_zast hM hd (dH_at ha) rfl (iI_in h1 h2 h3) ?_
  rw [iI_nat h1 h3, show vp_nar .boolean (iI x) = iI x by rcases hx with rfl | rfl <;> rfl, upZ_up]
  exact (dH_up h a (az N (upZ F z.toNat x))) ▸ kk
theorem y_qs (hM : xOK M) {a t N v ci : Nat} {vs : List xV} {F : Nat → Option Nat} {z : Int} {r : vw_C} (hd : xat M pc = some (.aastore, 1)) (ha : h a = some (aq t N F)) (hv : h v = some (ob ci vs)) (hc : vwCl[ci]? = some r) (ht : xTys[t]? = some (.object r.1)) (h1 : 0 ≤ z) (h2 : z < N) (kk : YW l G M d kc ks Φ (pc + 1) L st (yup h a (aq t N (va_up F z.toNat (some v)))) n) (h3 : z < 2147483648 := by omega) : YW l G M d kc ks Φ pc L (vr v :: vi z :: vr a :: st) h n := by
  refine x_aast hM hd (dH_at ha) (dH_at hv) hc ht (iI_in h1 h2 h3) ?_
  rw [iI_nat h1 h3]
  exact (dH_up h a (aq t N (va_up F z.toNat (some v)))) ▸ kk
theorem y_new (hM : xOK M) {idx ci N : Nat} {C : String} {T : u_T} {fs : List xV} (hd : xat M pc = some (.new idx, 3)) (hc : vwCl[ci]? = some (C, T, N)) (hw : xmem (.classLink M.1.cls idx C) = true) (hfs : ∀ j, j < N → defaultValue (xty ci j) = vp_V (fs.map den) j) (kk : YW l G M d (kc - 1) (ks - N) Φ (pc + 3) L (vr n :: st) (yup h n (ob ci fs)) (n + 1)) (hkc : 1 ≤ kc := by omega) (hks : N ≤ ks := by omega) : YW l G M d kc ks Φ pc L st h n := by
  refine x_new (fs := fs.map den) hM hd hc (xmem_of hw) hfs hkc hks ?_
  exact (dH_up h n (ob ci fs)) ▸ kk
theorem y_newi (hM : xOK M) {N : Nat} {z : Int} (hd : xat M pc = some (.newarray .int, 2)) (hw : xmem (.arrayClass .int) = true) (hz : z = (N : Int)) (hb2 : N * 4 ≤ 536870912) (kk : YW l G M d (kc - 1) (ks - N) Φ (pc + 2) L (vr n :: st) (yup h n (ai N (fun _ => 0))) (n + 1)) (hkc : 1 ≤ kc := by omega) (hks : N ≤ ks := by omega) : YW l G M d kc ks Φ pc L (vi z :: st) h n := by
  subst hz
  refine x_newi (t := 0) (N := N) hM hd rfl (xmem_of hw) (by rw [← iI_0, iI_lt (by omega) (by omega) (by omega) (by omega)]; omega) (by rw [iI_nat (by omega) (by omega)]; omega) hb2 hkc hks ?_
  exact (dH_up h n (ai N (fun _ => 0))) ▸ kk
theorem y_newz (hM : xOK M) {N : Nat} {z : Int} (hd : xat M pc = some (.newarray .boolean, 2)) (hw : xmem (.arrayClass .boolean) = true) (hz : z = (N : Int)) (hb2 : N * 1 ≤ 536870912) (kk : YW l G M d (kc - 1) (ks - N) Φ (pc + 2) L (vr n :: st) (yup h n (az N (fun _ => 0))) (n + 1)) (hkc : 1 ≤ kc := by omega) (hks : N ≤ ks := by omega) : YW l G M d kc ks Φ pc L (vi z :: st) h n := by
  subst hz
  refine x_newz (t := 1) (N := N) hM hd rfl (xmem_of hw) (by rw [← iI_0, iI_lt (by omega) (by omega) (by omega) (by omega)]; omega) (by rw [iI_nat (by omega) (by omega)]; omega) hb2 hkc hks ?_
  exact (dH_up h n (az N (fun _ => 0))) ▸ kk
theorem y_newq (hM : xOK M) {idx t N : Nat} {C : String} {z : Int} (hd : xat M pc = some (.anewarray idx, 3)) (ht : xTys[t]? = some (.object C)) (hw : xmem (.classLink M.1.cls idx C) = true) (ho : C ∈ xOver) (hz : z = (N : Int)) (hb2 : N * 4 ≤ 536870912) (kk : YW l G M d (kc - 1) (ks - N) Φ (pc + 3) L (vr n :: st) (yup h n (aq t N (fun _ => none))) (n + 1)) (hkc : 1 ≤ kc := by omega) (hks : N ≤ ks := by omega) : YW l G M d kc ks Φ pc L (vi z :: st) h n := by
  subst hz
  refine x_newq (t := t) (N := N) hM hd ht (xmem_of hw) ho (by rw [← iI_0, iI_lt (by omega) (by omega) (by omega) (by omega)]; omega) (by rw [iI_nat (by omega) (by omega)]; omega) hb2 hkc hks ?_
  exact (dH_up h n (aq t N (fun _ => none))) ▸ kk
theorem y_cs (hM : xOK M) {N : xM} (hN : xOK N) (na : Nat) {idx d' mc ms : Nat} {av : List xV} (hd : xat M pc = some (.invokestatic idx, 3)) (hl : (xlb M N idx na && xmem (.static N.1)) = true) (hX : YM l G N d' mc ms av h n Ψ) (hst : st = av.reverse ++ rest) (hna : av.length = na)
    (k : ∀ (v : Option xV) (h' : yH) (n' : Nat), Ψ v h' n' → YW l G M d (kc - mc) (ks - ms) Φ (pc + 3) L (v.toList ++ rest) h' n') (hd' : d' + 1 ≤ d := by omega) (hkc : mc ≤ kc := by omega) (hks : ms ≤ ks := by omega) (hrest : ((mS rest).map fun v => v.category).sum ≤ 8 := by exact Nat.le_of_ble_eq_true rfl) : YW l G M d kc ks Φ pc L st h n := by
  subst hst
  refine x_cs (rest := mS rest) hM hN na hd hl hX (by simp [mS, List.map_append, List.map_reverse]) (by simpa [mS] using hna) ?_ hd' hkc hks hrest
  intro v h' n' hv
  obtain ⟨u, g, rfl, rfl, hu⟩ := hv
  have k' := k u g n' hu
  unfold YW mS at k'
  rw [List.map_append] at k'
  cases u <;> exact k'
theorem y_csn (hM : xOK M) {N : xM} (hN : xOK N) (host : String) (na : Nat) {idx d' mc ms : Nat} {av : List xV} (hd : xat M pc = some (.invokestatic idx, 3)) (hl : (xlnb M N idx na host && xmem (.static N.1)) = true) (hX : YM l G N d' mc ms av h n Ψ) (hst : st = av.reverse ++ rest) (hna : av.length = na)
    (k : ∀ (v : Option xV) (h' : yH) (n' : Nat), Ψ v h' n' → YW l G M d (kc - mc) (ks - ms) Φ (pc + 3) L (v.toList ++ rest) h' n') (hd' : d' + 1 ≤ d := by omega) (hkc : mc ≤ kc := by omega) (hks : ms ≤ ks := by omega) (hrest : ((mS rest).map fun v => v.category).sum ≤ 8 := by exact Nat.le_of_ble_eq_true rfl) : YW l G M d kc ks Φ pc L st h n := by
  subst hst
  refine x_csn (rest := mS rest) hM hN host na hd hl hX (by simp [mS, List.map_append, List.map_reverse]) (by simpa [mS] using hna) ?_ hd' hkc hks hrest
  intro v h' n' hv
  obtain ⟨u, g, rfl, rfl, hu⟩ := hv
  have k' := k u g n' hu
  unfold YW mS at k'
  rw [List.map_append] at k'
  cases u <;> exact k'
theorem y_cv (hM : xOK M) {N : xM} (hN : xOK N) (na : Nat) {idx d' mc ms b ci : Nat} {As fs : List xV} (hd : xat M pc = some (.invokevirtual idx, 3)) (hb : h b = some (ob ci fs)) (hl : (xlb M N idx na && (xmem (.instanceMethod N.1) && (match vwCl[ci]? with | some r => xmem (.selects r.1 N.1 N.1) | none => false))) = true) (hX : YM l G N d' mc ms (vr b :: As) h n Ψ) (hst : st = As.reverse ++ vr b :: rest) (hna : As.length = na)
    (k : ∀ (v : Option xV) (h' : yH) (n' : Nat), Ψ v h' n' → YW l G M d (kc - mc) (ks - ms) Φ (pc + 3) L (v.toList ++ rest) h' n') (hd' : d' + 1 ≤ d := by omega) (hkc : mc ≤ kc := by omega) (hks : ms ≤ ks := by omega) (hrest : ((mS rest).map fun v => v.category).sum ≤ 8 := by exact Nat.le_of_ble_eq_true rfl) : YW l G M d kc ks Φ pc L st h n := by
  subst hst
  refine x_cv (As := mS As) (rest := mS rest) hM hN na hd (dH_at hb) hl hX (by simp [mS, List.map_append, List.map_reverse, den]) (by simpa [mS] using hna) ?_ hd' hkc hks hrest
  intro v h' n' hv
  obtain ⟨u, g, rfl, rfl, hu⟩ := hv
  have k' := k u g n' hu
  unfold YW mS at k'
  rw [List.map_append] at k'
  cases u <;> exact k'
theorem y_ci (hM : xOK M) {N : xM} (hN : xOK N) (na : Nat) {idx d' mc ms b : Nat} {As : List xV} (hd : xat M pc = some (.invokespecial idx, 3)) (hl : (xlb M N idx na && (xmem (.instanceMethod N.1) && (decide (N.1.name = "<init>") && decide (N.2.2.2.1 = none)))) = true) (hX : YM l G N d' mc ms (vr b :: As) h n Ψ) (hst : st = As.reverse ++ vr b :: rest) (hna : As.length = na)
    (k : ∀ (v : Option xV) (h' : yH) (n' : Nat), Ψ v h' n' → YW l G M d (kc - mc) (ks - ms) Φ (pc + 3) L (v.toList ++ rest) h' n') (hd' : d' + 1 ≤ d := by omega) (hkc : mc ≤ kc := by omega) (hks : ms ≤ ks := by omega) (hrest : ((mS rest).map fun v => v.category).sum ≤ 8 := by exact Nat.le_of_ble_eq_true rfl) : YW l G M d kc ks Φ pc L st h n := by
  subst hst
  refine x_ci (As := mS As) (rest := mS rest) hM hN na hd hl hX (by simp [mS, List.map_append, List.map_reverse, den]) (by simpa [mS] using hna) ?_ hd' hkc hks hrest
  intro v h' n' hv
  obtain ⟨u, g, rfl, rfl, hu⟩ := hv
  have k' := k u g n' hu
  unfold YW mS at k'
  rw [List.map_append] at k'
  cases u <;> exact k'
theorem y_ob (hM : xOK M) {idx a : Nat} (hd : xat M pc = some (.invokespecial idx, 3)) (hl : (xmem (.methodLink M.1.cls idx Lib.objectInit) && (xmem (.instanceMethod Lib.objectInit) && xmem (.code Lib.objectInit ⟨#[0xb1]⟩ 1 none))) = true) (k : YW l G M d kc ks Φ (pc + 3) L st h n) (hd1 : 1 ≤ d := by omega) (hrest : ((mS st).map fun v => v.category).sum ≤ 8 := by exact Nat.le_of_ble_eq_true rfl) : YW l G M d kc ks Φ pc L (vr a :: st) h n :=
  x_ob hM hd hl k hd1 hrest
theorem y_mx (hM : xOK M) {idx : Nat} {x y : Int} (hd : xat M pc = some (.invokestatic idx, 3)) (hl : (xmem (.methodLink M.1.cls idx Lib.Math.max.name) && (xmem (.static Lib.Math.max.name) && (xmem (.initialized "java/lang/Math") && xmem (.code Lib.Math.max.name Lib.Math.max.code 2 (some .int))))) = true) (k : YW l G M d kc ks Φ (pc + 3) L (vi (max x y) :: st) h n) (hd1 : 1 ≤ d := by omega) (b1 : -2147483648 ≤ x := by omega) (b2 : x < 2147483648 := by omega) (b3 : -2147483648 ≤ y := by omega) (b4 : y < 2147483648 := by omega) (hrest : ((mS st).map fun v => v.category).sum ≤ 8 := by exact Nat.le_of_ble_eq_true rfl) : YW l G M d kc ks Φ pc L (vi y :: vi x :: st) h n := by
  refine x_mx hM hd hl ?_ hd1 hrest
  have e := iI_lt b1 b2 b3 b4
  have e2 : (if iI x < iI y then iI y else iI x) = iI (max x y) := by
    by_cases c : x < y
    · rw [if_pos (e.mpr c)]; congr 1; omega
    · rw [if_neg (fun q => c (e.mp q))]; congr 1; omega
  rw [e2]
  exact k
theorem y_mn (hM : xOK M) {idx : Nat} {x y : Int} (hd : xat M pc = some (.invokestatic idx, 3)) (hl : (xmem (.methodLink M.1.cls idx Lib.Math.min.name) && (xmem (.static Lib.Math.min.name) && (xmem (.initialized "java/lang/Math") && xmem (.code Lib.Math.min.name Lib.Math.min.code 2 (some .int))))) = true) (k : YW l G M d kc ks Φ (pc + 3) L (vi (min x y) :: st) h n) (hd1 : 1 ≤ d := by omega) (b1 : -2147483648 ≤ x := by omega) (b2 : x < 2147483648 := by omega) (b3 : -2147483648 ≤ y := by omega) (b4 : y < 2147483648 := by omega) (hrest : ((mS st).map fun v => v.category).sum ≤ 8 := by exact Nat.le_of_ble_eq_true rfl) : YW l G M d kc ks Φ pc L (vi y :: vi x :: st) h n := by
  refine x_mn hM hd hl ?_ hd1 hrest
  have e := iI_lt b3 b4 b1 b2
  have e2 : (if iI y < iI x then iI y else iI x) = iI (min x y) := by
    by_cases c : y < x
    · rw [if_pos (e.mpr c)]; congr 1; omega
    · rw [if_neg (fun q => c (e.mp q))]; congr 1; omega
  rw [e2]
  exact k
theorem y_ldc (hM : xOK M) {idx : Nat} {z : Int} (hd : xat M pc = some (.ldc idx, 2)) (hl : xmem (.constant M.1.cls idx (iI z)) = true) (k : YW l G M d kc ks Φ (pc + 2) L (vi z :: st) h n) : YW l G M d kc ks Φ pc L st h n := x_ldc hM hd hl k
theorem y_ldc2 (hM : xOK M) {idx : Nat} {v : Int64} (hd : xat M pc = some (.ldc2_w idx, 3)) (hl : xmem (.constantLong M.1.cls idx v) = true) (k : YW l G M d kc ks Φ (pc + 3) L (vl v :: st) h n) : YW l G M d kc ks Φ pc L st h n := x_ldc2 hM hd hl k
theorem iI_div {x y : Int} (h1 : 0 ≤ x) (h2 : x < 2147483648) (h3 : 0 < y) (h4 : y < 2147483648) : iI x / iI y = iI (x / y) := by
  have e : ∀ z : Int, 0 ≤ z → iI z = nI z.toNat := by
    intro z hz
    show Int32.ofInt z = Int32.ofNat z.toNat
    rw [← Int32.ofInt_eq_ofNat, Int.toNat_of_nonneg hz]
  rw [e x h1, e y (by omega), pk_div (by omega) (by omega) (by omega), e (x / y) (Int.ediv_nonneg h1 (by omega))]
  congr 1
  have := Int.natCast_ediv x.toNat y.toNat
  rw [Int.toNat_of_nonneg h1, Int.toNat_of_nonneg (by omega)] at this
  rw [← this, Int.toNat_natCast]
theorem y_idiv (hM : xOK M) {x y : Int} (hd : xat M pc = some (.idiv, 1)) (h1 : 0 ≤ x) (h2 : x < 2147483648) (h3 : 0 < y) (h4 : y < 2147483648) (k : YW l G M d kc ks Φ (pc + 1) L (vi (x / y) :: st) h n) : YW l G M d kc ks Φ pc L (vi y :: vi x :: st) h n := by
  refine x_idiv hM hd (by rw [← iI_0, iI_eq (by omega) (by omega) (by omega) (by omega)]; omega) ?_
  rw [iI_div h1 h2 h3 h4]
  exact k
theorem y_irem (hM : xOK M) {x y : Int} (hd : xat M pc = some (.irem, 1)) (h1 : 0 ≤ x) (h2 : x < 2147483648) (h3 : 0 < y) (h4 : y < 2147483648) (k : YW l G M d kc ks Φ (pc + 1) L (vi (x % y) :: st) h n) : YW l G M d kc ks Φ pc L (vi y :: vi x :: st) h n := by
  refine x_irem hM hd (by rw [← iI_0, iI_eq (by omega) (by omega) (by omega) (by omega)]; omega) ?_
  rw [iI_div h1 h2 h3 h4, iI_mul, iI_sub, show x - x / y * y = x % y by rw [Int.emod_def, Int.mul_comm]]
  exact k
theorem y_tin (hM : xOK M) {x : Int} {dflt lo hi off : Int} {offs : Array Int} {len tgt : Nat} (hd : xat M pc = some (.tableswitch dflt lo hi offs, len)) (ho : offs[(x - lo).toNat]? = some off) (ht : xtg M pc off = some tgt) (k : YW l G M d kc ks Φ tgt L st h n) (g1 : ¬ x < lo := by omega) (g2 : ¬ hi < x := by omega) (b1 : -2147483648 ≤ x := by omega) (b2 : x < 2147483648 := by omega) : YW l G M d kc ks Φ pc L (vi x :: st) h n :=
  x_tin hM hd (iI_toInt b1 b2) g1 g2 ho ht k
theorem y_tout (hM : xOK M) {x : Int} {dflt lo hi : Int} {offs : Array Int} {len tgt : Nat} (hd : xat M pc = some (.tableswitch dflt lo hi offs, len)) (hv : x < lo ∨ hi < x) (ht : xtg M pc dflt = some tgt) (k : YW l G M d kc ks Φ tgt L st h n) (b1 : -2147483648 ≤ x := by omega) (b2 : x < 2147483648 := by omega) : YW l G M d kc ks Φ pc L (vi x :: st) h n :=
  x_tout hM hd (by rw [iI_toInt b1 b2]; exact hv) ht k
def cpZ (f g : Nat → Int) (sp dp n : Nat) : Nat → Int := fun k => if dp ≤ k ∧ k < dp + n then f (sp + (k - dp)) else g k
theorem y_copy (hM : xOK M) {idx a0 a N0 N1 : Nat} {f g : Nat → Int} {sp dp z : Int} (hd : xat M pc = some (.invokestatic idx, 3)) (hl : (xmem (.methodLink M.1.cls idx arraycopyName) && (xmem (.native arraycopyName) && (xmem (.static arraycopyName) && xmem (.initialized "java/lang/System")))) = true) (ha0 : h a0 = some (ai N0 f)) (ha : h a = some (ai N1 g)) (g1 : 0 ≤ sp) (g2 : 0 ≤ dp) (g3 : 0 ≤ z) (g4 : sp + z ≤ N0) (g5 : dp + z ≤ N1) (c4 : (N0 : Int) < 2147483648) (c5 : (N1 : Int) < 2147483648)
    (kk : YW l G M d kc ks Φ (pc + 3) L st (yup h a (ai N1 (cpZ f g sp.toNat dp.toNat z.toNat))) n) (hd1 : 1 ≤ d := by omega) (hrest : ((mS st).map fun v => v.category).sum ≤ 8 := by exact Nat.le_of_ble_eq_true rfl) : YW l G M d kc ks Φ pc L (vi z :: vi dp :: vr a :: vi sp :: vr a0 :: st) h n := by
  have nz : ∀ {q : Int}, 0 ≤ q → q < 2147483648 → ¬ iI q < 0 := fun h1 h2 => by rw [← iI_0, iI_lt (by omega) h2 (by omega) (by omega)]; omega
  refine x_copy hM hd hl (dH_at ha0) (dH_at ha) rfl (nz g1 (by omega)) (nz g2 (by omega)) (nz g3 (by omega)) (by rw [iI_nat g1 (by omega), iI_nat g3 (by omega)]; omega) (by rw [iI_nat g2 (by omega), iI_nat g3 (by omega)]; omega) ?_ hd1 hrest
  rw [iI_nat g1 (by omega), iI_nat g2 (by omega), iI_nat g3 (by omega)]
  have e : (va_cpy (fun k => iI (f k)) (fun k => iI (g k)) sp.toNat dp.toNat z.toNat) = fun k => iI (cpZ f g sp.toNat dp.toNat z.toNat k) := by
    funext k
    simp only [va_cpy, cpZ]
    split <;> rfl
  rw [e]
  exact (dH_up h a (ai N1 (cpZ f g sp.toNat dp.toNat z.toNat))) ▸ kk
end YR
end
section
section C1
variable {l : Launch} {G : xG} {h : yH} {n : Nat}
theorem c_isBelow (v b : Int) (hv : inI v) (hb : inI b) : YM l G mX6_isBelow 0 0 0 [vi v, vi b] h n (fun r h' n' => r = some (vi (if 0 ≤ v ∧ v < b then 1 else 0)) ∧ h' = h ∧ n' = n) := by
  obtain ⟨hv1, hv2⟩ := hv
  obtain ⟨hb1, hb2⟩ := hb
  refine YM.of kX6_isBelow (Nat.le_of_ble_eq_true rfl) (L0 := [some (vi v), some (vi b)]) rfl ?_
  refine y_run kX6_isBelow rfl ?_
  refine y_if_lt kX6_isBelow rfl rfl (fun c1 => ?_) (fun c1 => ?_)
  · refine y_run kX6_isBelow rfl ?_
    exact y_zr kX6_isBelow rfl rfl (Or.inl rfl) ⟨by rw [if_neg (by omega)], rfl, rfl⟩
  · refine y_run kX6_isBelow rfl ?_
    refine y_ic_ge kX6_isBelow rfl rfl (fun c2 => ?_) (fun c2 => ?_)
    · refine y_run kX6_isBelow rfl ?_
      exact y_zr kX6_isBelow rfl rfl (Or.inl rfl) ⟨by rw [if_neg (by omega)], rfl, rfl⟩
    · refine y_run kX6_isBelow rfl ?_
      exact y_zr kX6_isBelow rfl rfl (Or.inr rfl) ⟨by rw [if_pos (by omega)], rfl, rfl⟩
theorem c_has {a : Nat} {t : Int} {fs : List xV} (v : Int) (hv : inI v) (ha : h a = some (ob 5 (vi t :: fs))) : YM l G mX5_has 1 0 0 [vr a, vi v] h n (fun r h' n' => r = some (vi (if (0 ≤ v ∧ v < 24) ∧ yand (yshr t v) 1 ≠ 0 then 1 else 0)) ∧ h' = h ∧ n' = n) := by
  refine YM.of kX5_has (Nat.le_of_ble_eq_true rfl) (L0 := [some (vr a), some (vi v)]) rfl ?_
  refine y_run kX5_has rfl ?_
  refine y_csn kX5_has kX6_isBelow "BoxStage" 2 (rest := []) rfl (by decide +kernel) (c_isBelow v 24 hv ⟨by omega, by omega⟩) rfl rfl ?_
  rintro r h' n' ⟨rfl, rfl, rfl⟩
  refine y_if_eq kX5_has rfl rfl (fun c1 => ?_) (fun c1 => ?_) (by split <;> omega) (by split <;> omega)
  · refine y_run kX5_has rfl ?_
    refine y_zr kX5_has rfl rfl (Or.inl rfl) ⟨?_, rfl, rfl⟩
    split at c1
    · omega
    · rename_i q
      rw [if_neg (fun z => q z.1)]
  · refine y_run kX5_has rfl ?_
    refine y_get kX5_has rfl rfl ha rfl ?_
    refine y_run kX5_has rfl ?_
    have hq : 0 ≤ v ∧ v < 24 := by
      by_cases q : 0 ≤ v ∧ v < 24
      · exact q
      · rw [if_neg q] at c1; omega
    refine y_if_eq kX5_has rfl rfl (fun c2 => ?_) (fun c2 => ?_) (iI_rng _).1 (iI_rng _).2
    · refine y_run kX5_has rfl ?_
      exact y_zr kX5_has rfl rfl (Or.inl rfl) ⟨by rw [if_neg (fun z => z.2 c2)], rfl, rfl⟩
    · refine y_run kX5_has rfl ?_
      exact y_zr kX5_has rfl rfl (Or.inr rfl) ⟨by rw [if_pos ⟨hq, c2⟩], rfl, rfl⟩
end C1
end
section
/-! sets of numbers below 128, in two longs -/
def gb (w : Int64) (k : Nat) : Bool := w.toBitVec.getLsbD k
theorem gb_or (a b : Int64) (k : Nat) : gb (a ||| b) k = (gb a k || gb b k) := by simp [gb]
theorem gb_and (a b : Int64) (k : Nat) : gb (a &&& b) k = (gb a k && gb b k) := by simp [gb]
theorem gb_xor (a b : Int64) (k : Nat) : gb (a ^^^ b) k = (gb a k ^^ gb b k) := by simp [gb]
theorem gb_ext {a b : Int64} (h : ∀ k, k < 64 → gb a k = gb b k) : a = b := by
  apply Int64.toBitVec_inj.mp
  apply BitVec.eq_of_getLsbD_eq
  intro i hi
  exact h i hi
theorem gb_0 (k : Nat) : gb (Int64.ofNat 0) k = false := by
  show (0#64).getLsbD k = false
  simp
theorem gb_m1 : ∀ k : Nat, k < 64 → gb (-1) k = true := by decide +kernel
theorem gb_one : ∀ k : Nat, k < 64 → (Int64.ofNat 1 <<< ((iI (k : Int)).toInt64 &&& 63)).toBitVec = BitVec.twoPow 64 k := by decide +kernel
theorem gb_sh : ∀ k : Nat, k < 64 → (((iI (k : Int)).toInt64 &&& 63).toBitVec.smod 64).toNat = k := by decide +kernel
theorem gb_bit {k : Nat} (hk : k < 64) (j : Nat) : gb (Int64.ofNat 1 <<< ((iI (k : Int)).toInt64 &&& 63)) j = decide (j = k) := by
  unfold gb
  rw [gb_one k hk, BitVec.getLsbD_twoPow]
  by_cases c : j = k
  · subst c; simp [hk]
  · have : k ≠ j := fun q => c q.symm
    simp [c, this]
theorem gb_bitF {k : Nat} (hk : k < 64) (j : Nat) : gb (Int64.ofNat ((1 : Fin 2) : Nat) <<< ((iI (k : Int)).toInt64 &&& 63)) j = decide (j = k) := gb_bit hk j
theorem gb_shr {k : Nat} (hk : k < 64) (w : Int64) : ((w >>> ((iI (k : Int)).toInt64 &&& 63)) &&& Int64.ofNat 1 = Int64.ofNat 0) ↔ gb w k = false := by
  have e : gb (w >>> ((iI (k : Int)).toInt64 &&& 63)) 0 = gb w k := by
    unfold gb
    rw [Int64.toBitVec_shiftRight]
    simp only [BitVec.sshiftRight', gb_sh k hk, BitVec.getLsbD_sshiftRight]
    simp [hk]
  have e1 : ∀ j, gb (Int64.ofNat 1) j = decide (j = 0) := by
    intro j
    have := gb_bit (k := 0) (by omega) j
    exact this
  constructor
  · intro q
    have := congrArg (fun z => gb z 0) q
    simp only [gb_and, e, e1, gb_0] at this
    simpa using this
  · intro q
    apply gb_ext
    intro j hj
    rw [gb_and, e1, gb_0]
    by_cases c : j = 0
    · subst c; rw [e, q]; rfl
    · simp [c]
theorem lg_cmp0 (x : Int64) : (lg_cmp x (Int64.ofNat 0)).toInt = 0 ↔ x = Int64.ofNat 0 := by
  unfold lg_cmp
  split
  · rename_i q
    constructor
    · intro z; exact absurd z (by decide)
    · intro z; subst z; exact absurd q (by decide)
  · split
    · rename_i q
      exact ⟨fun _ => q, fun _ => rfl⟩
    · rename_i q1 q2
      exact ⟨fun z => absurd z (by decide), fun z => absurd z q2⟩
def NB (lo hi : Int64) (S : Nat → Bool) : Prop := ∀ k, k < 64 → gb lo k = S k ∧ gb hi k = S (64 + k)
def NA (h : yH) (a : Nat) (S : Nat → Bool) : Prop := ∃ lo hi, h a = some (ob 0 [vl lo, vl hi]) ∧ NB lo hi S
def NU (h h' : yH) (a : Nat) (S : Nat → Bool) : Prop := ∃ lo hi, h' = yup h a (ob 0 [vl lo, vl hi]) ∧ NB lo hi S
theorem gb_z {w : Int64} : w = Int64.ofNat 0 ↔ ∀ k, k < 64 → gb w k = false := ⟨fun e k _ => by rw [e]; exact gb_0 k, fun q => gb_ext (fun k hk => by rw [q k hk, gb_0])⟩
theorem nat_of {v : Int} {m : Nat} (h1 : 0 ≤ v) (h2 : v < m) : ∃ k : Nat, k < m ∧ v = (k : Int) := ⟨v.toNat, by omega, by omega⟩
section C2
variable {l : Launch} {G : xG} {h : yH} {n : Nat}
theorem c_Nclear {a : Nat} {S : Nat → Bool} (ha : NA h a S) : YM l G mX0_clear 0 0 0 [vr a] h n (fun r h' n' => r = none ∧ NU h h' a (fun _ => false) ∧ n' = n) := by
  obtain ⟨lo, hi, ha, hb⟩ := ha
  refine YM.of kX0_clear (Nat.le_of_ble_eq_true rfl) (L0 := [some (vr a)]) rfl ?_
  refine y_run kX0_clear rfl ?_
  refine y_put kX0_clear rfl rfl ha rfl rfl rfl ?_
  refine y_run kX0_clear rfl ?_
  refine y_put kX0_clear rfl rfl (yup_eq _ _ _) rfl rfl rfl ?_
  exact y_vr kX0_clear rfl rfl ⟨rfl, ⟨_, _, yup_yup _ _ _ _, fun k hk => ⟨gb_0 k, gb_0 k⟩⟩, rfl⟩
theorem c_NcopyFrom {a b : Nat} {S S2 : Nat → Bool} (ha : NA h a S) (hb : NA h b S2) (hab : b ≠ a) : YM l G mX0_copyFrom 0 0 0 [vr a, vr b] h n (fun r h' n' => r = none ∧ NU h h' a S2 ∧ n' = n) := by
  obtain ⟨lo, hi, ha, -⟩ := ha
  obtain ⟨lo2, hi2, hb, hb2⟩ := hb
  refine YM.of kX0_copyFrom (Nat.le_of_ble_eq_true rfl) (L0 := [some (vr a), some (vr b)]) rfl ?_
  refine y_run kX0_copyFrom rfl ?_
  refine y_get kX0_copyFrom rfl rfl hb rfl ?_
  refine y_put kX0_copyFrom rfl rfl ha rfl rfl rfl ?_
  refine y_run kX0_copyFrom rfl ?_
  refine y_get kX0_copyFrom rfl rfl ((yup_ne _ _ hab).trans hb) rfl ?_
  refine y_put kX0_copyFrom rfl rfl (yup_eq _ _ _) rfl rfl rfl ?_
  exact y_vr kX0_copyFrom rfl rfl ⟨rfl, ⟨_, _, yup_yup _ _ _ _, hb2⟩, rfl⟩
theorem c_Nadd {a : Nat} {S : Nat → Bool} {v : Int} (ha : NA h a S) (h1 : 0 ≤ v) (h2 : v < 128) : YM l G mX0_add 0 0 0 [vr a, vi v] h n (fun r h' n' => r = none ∧ NU h h' a (fun j => S j || decide (j = v.toNat)) ∧ n' = n) := by
  obtain ⟨lo, hi, ha, hb⟩ := ha
  refine YM.of kX0_add (Nat.le_of_ble_eq_true rfl) (L0 := [some (vr a), some (vi v)]) rfl ?_
  refine y_run kX0_add rfl ?_
  refine y_ic_ge kX0_add rfl rfl (fun c1 => ?_) (fun c1 => ?_)
  · refine y_run kX0_add rfl ?_
    refine y_get kX0_add rfl rfl ha rfl ?_
    refine y_run kX0_add rfl ?_
    refine y_put kX0_add rfl rfl ha rfl rfl rfl ?_
    obtain ⟨k, hk, e⟩ := nat_of (v := v - 64) (m := 64) (by omega) (by omega)
    refine y_vr kX0_add rfl rfl ⟨rfl, ⟨_, _, rfl, fun j hj => ⟨?_, ?_⟩⟩, rfl⟩
    · show gb lo j = (S j || decide (j = v.toNat))
      rw [(hb j hj).1, show decide (j = v.toNat) = false from decide_eq_false (by omega), Bool.or_false]
    · rw [e]
      dsimp only
      rw [gb_or, gb_bitF hk, (hb j hj).2]
      rw [show decide (64 + j = v.toNat) = decide (j = k) from decide_eq_decide.mpr (by omega)]
  · refine y_run kX0_add rfl ?_
    refine y_get kX0_add rfl rfl ha rfl ?_
    refine y_run kX0_add rfl ?_
    refine y_put kX0_add rfl rfl ha rfl rfl rfl ?_
    refine y_run kX0_add rfl ?_
    obtain ⟨k, hk, e⟩ := nat_of (v := v) (m := 64) (by omega) (by omega)
    refine y_vr kX0_add rfl rfl ⟨rfl, ⟨_, _, rfl, fun j hj => ⟨?_, ?_⟩⟩, rfl⟩
    · rw [e]
      dsimp only
      rw [gb_or, gb_bitF hk, (hb j hj).1]
      rfl
    · show gb hi j = (S (64 + j) || decide (64 + j = v.toNat))
      rw [(hb j hj).2, show decide (64 + j = v.toNat) = false from decide_eq_false (by omega), Bool.or_false]
theorem c_Nremove {a : Nat} {S : Nat → Bool} {v : Int} (ha : NA h a S) (h1 : 0 ≤ v) (h2 : v < 128) : YM l G mX0_remove 0 0 0 [vr a, vi v] h n (fun r h' n' => r = none ∧ NU h h' a (fun j => S j && !decide (j = v.toNat)) ∧ n' = n) := by
  obtain ⟨lo, hi, ha, hb⟩ := ha
  refine YM.of kX0_remove (Nat.le_of_ble_eq_true rfl) (L0 := [some (vr a), some (vi v)]) rfl ?_
  refine y_run kX0_remove rfl ?_
  refine y_ic_ge kX0_remove rfl rfl (fun c1 => ?_) (fun c1 => ?_)
  · refine y_run kX0_remove rfl ?_
    refine y_get kX0_remove rfl rfl ha rfl ?_
    refine y_run kX0_remove rfl ?_
    refine y_ldc2 (v := -1) kX0_remove rfl (by decide +kernel) ?_
    refine y_run kX0_remove rfl ?_
    refine y_put kX0_remove rfl rfl ha rfl rfl rfl ?_
    obtain ⟨k, hk, e⟩ := nat_of (v := v - 64) (m := 64) (by omega) (by omega)
    refine y_vr kX0_remove rfl rfl ⟨rfl, ⟨_, _, rfl, fun j hj => ⟨?_, ?_⟩⟩, rfl⟩
    · show gb lo j = (S j && !decide (j = v.toNat))
      rw [(hb j hj).1, show decide (j = v.toNat) = false from decide_eq_false (by omega)]; simp
    · rw [e]
      dsimp only
      rw [gb_and, gb_xor, gb_bitF hk, gb_m1 j hj, (hb j hj).2, show decide (64 + j = v.toNat) = decide (j = k) from decide_eq_decide.mpr (by omega)]; simp
  · refine y_run kX0_remove rfl ?_
    refine y_get kX0_remove rfl rfl ha rfl ?_
    refine y_run kX0_remove rfl ?_
    refine y_ldc2 (v := -1) kX0_remove rfl (by decide +kernel) ?_
    refine y_run kX0_remove rfl ?_
    refine y_put kX0_remove rfl rfl ha rfl rfl rfl ?_
    refine y_run kX0_remove rfl ?_
    obtain ⟨k, hk, e⟩ := nat_of (v := v) (m := 64) (by omega) (by omega)
    refine y_vr kX0_remove rfl rfl ⟨rfl, ⟨_, _, rfl, fun j hj => ⟨?_, ?_⟩⟩, rfl⟩
    · rw [e]
      dsimp only
      rw [gb_and, gb_xor, gb_bitF hk, gb_m1 j hj, (hb j hj).1, show decide (j = (k : Int).toNat) = decide (j = k) from decide_eq_decide.mpr (by omega)]; simp
    · show gb hi j = (S (64 + j) && !decide (64 + j = v.toNat))
      rw [(hb j hj).2, show decide (64 + j = v.toNat) = false from decide_eq_false (by omega)]; simp
theorem c_Nhas {a : Nat} {S : Nat → Bool} {v : Int} (ha : NA h a S) (h1 : 0 ≤ v) (h2 : v < 128) : YM l G mX0_has 0 0 0 [vr a, vi v] h n (fun r h' n' => r = some (vi (if S v.toNat then 1 else 0)) ∧ h' = h ∧ n' = n) := by
  obtain ⟨lo, hi, ha, hb⟩ := ha
  refine YM.of kX0_has (Nat.le_of_ble_eq_true rfl) (L0 := [some (vr a), some (vi v)]) rfl ?_
  refine y_run kX0_has rfl ?_
  refine y_ic_ge kX0_has rfl rfl (fun c1 => ?_) (fun c1 => ?_)
  · refine y_run kX0_has rfl ?_
    refine y_get kX0_has rfl rfl ha rfl ?_
    refine y_run kX0_has rfl ?_
    obtain ⟨k, hk, e⟩ := nat_of (v := v - 64) (m := 64) (by omega) (by omega)
    have hS : S v.toNat = gb hi k := by rw [(hb k hk).2]; congr 1; omega
    rw [e, hS]
    refine y_if_eq kX0_has rfl rfl (fun c2 => ?_) (fun c2 => ?_) (iI_rng _).1 (iI_rng _).2
    · refine y_run kX0_has rfl ?_
      exact y_zr kX0_has rfl rfl (Or.inl rfl) ⟨by rw [(gb_shr hk hi).mp ((lg_cmp0 _).mp c2)]; rfl, rfl, rfl⟩
    · refine y_run kX0_has rfl ?_
      refine y_zr kX0_has rfl rfl (Or.inr rfl) ⟨?_, rfl, rfl⟩
      cases q : gb hi k with
      | false => exact absurd ((lg_cmp0 _).mpr ((gb_shr hk hi).mpr q)) c2
      | true => rfl
  · refine y_run kX0_has rfl ?_
    refine y_get kX0_has rfl rfl ha rfl ?_
    refine y_run kX0_has rfl ?_
    obtain ⟨k, hk, e⟩ := nat_of (v := v) (m := 64) (by omega) (by omega)
    have hS : S v.toNat = gb lo k := by rw [(hb k hk).1]; congr 1; omega
    rw [hS]
    rw [e]
    refine y_if_eq kX0_has rfl rfl (fun c2 => ?_) (fun c2 => ?_) (iI_rng _).1 (iI_rng _).2
    · refine y_run kX0_has rfl ?_
      exact y_zr kX0_has rfl rfl (Or.inl rfl) ⟨by rw [(gb_shr hk lo).mp ((lg_cmp0 _).mp c2)]; rfl, rfl, rfl⟩
    · refine y_run kX0_has rfl ?_
      refine y_zr kX0_has rfl rfl (Or.inr rfl) ⟨?_, rfl, rfl⟩
      cases q : gb lo k with
      | false => exact absurd ((lg_cmp0 _).mpr ((gb_shr hk lo).mpr q)) c2
      | true => rfl
end C2
end
section
section C3
variable {l : Launch} {G : xG} {h : yH} {n : Nat}
theorem c_Ninit {a : Nat} {lo hi : Int64} (ha : h a = some (ob 0 [vl lo, vl hi])) : YM l G mX0_init 1 0 0 [vr a] h n (fun r h' n' => r = none ∧ h' = h ∧ n' = n) := by
  refine YM.of kX0_init (Nat.le_of_ble_eq_true rfl) (L0 := [some (vr a)]) rfl ?_
  refine y_run kX0_init rfl ?_
  refine y_ob kX0_init rfl (by decide +kernel) ?_
  exact y_vr kX0_init rfl rfl ⟨rfl, rfl, rfl⟩
theorem c_NaddAll {a b : Nat} {S S2 : Nat → Bool} (ha : NA h a S) (hb : NA h b S2) (hab : b ≠ a) : YM l G mX0_addAll 0 0 0 [vr a, vr b] h n (fun r h' n' => r = none ∧ NU h h' a (fun j => S j || S2 j) ∧ n' = n) := by
  obtain ⟨lo, hi, ha, ha2⟩ := ha
  obtain ⟨lo2, hi2, hb, hb2⟩ := hb
  refine YM.of kX0_addAll (Nat.le_of_ble_eq_true rfl) (L0 := [some (vr a), some (vr b)]) rfl ?_
  refine y_run kX0_addAll rfl ?_
  refine y_get kX0_addAll rfl rfl ha rfl ?_
  refine y_run kX0_addAll rfl ?_
  refine y_get kX0_addAll rfl rfl hb rfl ?_
  refine y_run kX0_addAll rfl ?_
  refine y_put kX0_addAll rfl rfl ha rfl rfl rfl ?_
  refine y_run kX0_addAll rfl ?_
  refine y_get kX0_addAll rfl rfl (yup_eq _ _ _) rfl ?_
  refine y_run kX0_addAll rfl ?_
  refine y_get kX0_addAll rfl rfl ((yup_ne _ _ hab).trans hb) rfl ?_
  refine y_run kX0_addAll rfl ?_
  refine y_put kX0_addAll rfl rfl (yup_eq _ _ _) rfl rfl rfl ?_
  refine y_vr kX0_addAll rfl rfl ⟨rfl, ⟨_, _, yup_yup _ _ _ _, fun j hj => ⟨?_, ?_⟩⟩, rfl⟩
  · dsimp only
    rw [gb_or, (ha2 j hj).1, (hb2 j hj).1]
  · dsimp only
    rw [gb_or, (ha2 j hj).2, (hb2 j hj).2]
theorem c_NremoveAll {a b : Nat} {S S2 : Nat → Bool} (ha : NA h a S) (hb : NA h b S2) (hab : b ≠ a) : YM l G mX0_removeAll 0 0 0 [vr a, vr b] h n (fun r h' n' => r = none ∧ NU h h' a (fun j => S j && !S2 j) ∧ n' = n) := by
  obtain ⟨lo, hi, ha, ha2⟩ := ha
  obtain ⟨lo2, hi2, hb, hb2⟩ := hb
  refine YM.of kX0_removeAll (Nat.le_of_ble_eq_true rfl) (L0 := [some (vr a), some (vr b)]) rfl ?_
  refine y_run kX0_removeAll rfl ?_
  refine y_get kX0_removeAll rfl rfl ha rfl ?_
  refine y_run kX0_removeAll rfl ?_
  refine y_get kX0_removeAll rfl rfl hb rfl ?_
  refine y_ldc2 (v := -1) kX0_removeAll rfl (by decide +kernel) ?_
  refine y_run kX0_removeAll rfl ?_
  refine y_put kX0_removeAll rfl rfl ha rfl rfl rfl ?_
  refine y_run kX0_removeAll rfl ?_
  refine y_get kX0_removeAll rfl rfl (yup_eq _ _ _) rfl ?_
  refine y_run kX0_removeAll rfl ?_
  refine y_get kX0_removeAll rfl rfl ((yup_ne _ _ hab).trans hb) rfl ?_
  refine y_ldc2 (v := -1) kX0_removeAll rfl (by decide +kernel) ?_
  refine y_run kX0_removeAll rfl ?_
  refine y_put kX0_removeAll rfl rfl (yup_eq _ _ _) rfl rfl rfl ?_
  refine y_vr kX0_removeAll rfl rfl ⟨rfl, ⟨_, _, yup_yup _ _ _ _, fun j hj => ⟨?_, ?_⟩⟩, rfl⟩
  · dsimp only
    rw [gb_and, gb_xor, gb_m1 j hj, (ha2 j hj).1, (hb2 j hj).1]; simp
  · dsimp only
    rw [gb_and, gb_xor, gb_m1 j hj, (ha2 j hj).2, (hb2 j hj).2]; simp
theorem c_NkeepThoseIn {a b : Nat} {S S2 : Nat → Bool} (ha : NA h a S) (hb : NA h b S2) (hab : b ≠ a) : YM l G mX0_keepThoseIn 0 0 0 [vr a, vr b] h n (fun r h' n' => r = none ∧ NU h h' a (fun j => S j && S2 j) ∧ n' = n) := by
  obtain ⟨lo, hi, ha, ha2⟩ := ha
  obtain ⟨lo2, hi2, hb, hb2⟩ := hb
  refine YM.of kX0_keepThoseIn (Nat.le_of_ble_eq_true rfl) (L0 := [some (vr a), some (vr b)]) rfl ?_
  refine y_run kX0_keepThoseIn rfl ?_
  refine y_get kX0_keepThoseIn rfl rfl ha rfl ?_
  refine y_run kX0_keepThoseIn rfl ?_
  refine y_get kX0_keepThoseIn rfl rfl hb rfl ?_
  refine y_run kX0_keepThoseIn rfl ?_
  refine y_put kX0_keepThoseIn rfl rfl ha rfl rfl rfl ?_
  refine y_run kX0_keepThoseIn rfl ?_
  refine y_get kX0_keepThoseIn rfl rfl (yup_eq _ _ _) rfl ?_
  refine y_run kX0_keepThoseIn rfl ?_
  refine y_get kX0_keepThoseIn rfl rfl ((yup_ne _ _ hab).trans hb) rfl ?_
  refine y_run kX0_keepThoseIn rfl ?_
  refine y_put kX0_keepThoseIn rfl rfl (yup_eq _ _ _) rfl rfl rfl ?_
  refine y_vr kX0_keepThoseIn rfl rfl ⟨rfl, ⟨_, _, yup_yup _ _ _ _, fun j hj => ⟨?_, ?_⟩⟩, rfl⟩
  · dsimp only
    rw [gb_and, (ha2 j hj).1, (hb2 j hj).1]
  · dsimp only
    rw [gb_and, (ha2 j hj).2, (hb2 j hj).2]
theorem NB.emp {lo hi : Int64} {S : Nat → Bool} (hb : NB lo hi S) : (lo = Int64.ofNat 0 ∧ hi = Int64.ofNat 0) ↔ ∀ k, k < 128 → S k = false := by
  rw [gb_z, gb_z]
  constructor
  · rintro ⟨q1, q2⟩ k hk
    by_cases c : k < 64
    · rw [← (hb k c).1]; exact q1 k c
    · have := (hb (k - 64) (by omega)).2
      rw [show 64 + (k - 64) = k by omega] at this
      rw [← this]; exact q2 _ (by omega)
  · intro q
    exact ⟨fun k hk => by rw [(hb k hk).1]; exact q k (by omega), fun k hk => by rw [(hb k hk).2]; exact q _ (by omega)⟩
theorem c_NisEmpty {a : Nat} {S : Nat → Bool} (ha : NA h a S) : YM l G mX0_isEmpty 0 0 0 [vr a] h n (fun r h' n' => ((r = some (vi 1) ∧ ∀ k, k < 128 → S k = false) ∨ (r = some (vi 0) ∧ ¬ ∀ k, k < 128 → S k = false)) ∧ h' = h ∧ n' = n) := by
  obtain ⟨lo, hi, ha, hb⟩ := ha
  have he := hb.emp
  refine YM.of kX0_isEmpty (Nat.le_of_ble_eq_true rfl) (L0 := [some (vr a)]) rfl ?_
  refine y_run kX0_isEmpty rfl ?_
  refine y_get kX0_isEmpty rfl rfl ha rfl ?_
  refine y_run kX0_isEmpty rfl ?_
  refine y_if_ne kX0_isEmpty rfl rfl (fun c1 => ?_) (fun c1 => ?_) (iI_rng _).1 (iI_rng _).2
  · refine y_run kX0_isEmpty rfl ?_
    exact y_zr kX0_isEmpty rfl rfl (Or.inl rfl) ⟨Or.inr ⟨rfl, fun q => c1 ((lg_cmp0 _).mpr (he.mpr q).1)⟩, rfl, rfl⟩
  · refine y_run kX0_isEmpty rfl ?_
    refine y_get kX0_isEmpty rfl rfl ha rfl ?_
    refine y_run kX0_isEmpty rfl ?_
    refine y_if_ne kX0_isEmpty rfl rfl (fun c2 => ?_) (fun c2 => ?_) (iI_rng _).1 (iI_rng _).2
    · refine y_run kX0_isEmpty rfl ?_
      exact y_zr kX0_isEmpty rfl rfl (Or.inl rfl) ⟨Or.inr ⟨rfl, fun q => c2 ((lg_cmp0 _).mpr (he.mpr q).2)⟩, rfl, rfl⟩
    · refine y_run kX0_isEmpty rfl ?_
      exact y_zr kX0_isEmpty rfl rfl (Or.inr rfl) ⟨Or.inl ⟨rfl, he.mp ⟨(lg_cmp0 _).mp c1, (lg_cmp0 _).mp c2⟩⟩, rfl, rfl⟩
theorem NB.and {lo hi lo2 hi2 : Int64} {S S2 : Nat → Bool} (h1 : NB lo hi S) (h2 : NB lo2 hi2 S2) : NB (lo &&& lo2) (hi &&& hi2) (fun k => S k && S2 k) := fun k hk => ⟨by rw [gb_and, (h1 k hk).1, (h2 k hk).1], by rw [gb_and, (h1 k hk).2, (h2 k hk).2]⟩
theorem c_Nmeets {a b : Nat} {S S2 : Nat → Bool} (ha : NA h a S) (hb : NA h b S2) : YM l G mX0_meets 0 0 0 [vr a, vr b] h n (fun r h' n' => ((r = some (vi 0) ∧ ∀ k, k < 128 → (S k && S2 k) = false) ∨ (r = some (vi 1) ∧ ¬ ∀ k, k < 128 → (S k && S2 k) = false)) ∧ h' = h ∧ n' = n) := by
  obtain ⟨lo, hi, ha, ha2⟩ := ha
  obtain ⟨lo2, hi2, hb, hb2⟩ := hb
  have he := (ha2.and hb2).emp
  refine YM.of kX0_meets (Nat.le_of_ble_eq_true rfl) (L0 := [some (vr a), some (vr b)]) rfl ?_
  refine y_run kX0_meets rfl ?_
  refine y_get kX0_meets rfl rfl ha rfl ?_
  refine y_run kX0_meets rfl ?_
  refine y_get kX0_meets rfl rfl hb rfl ?_
  refine y_run kX0_meets rfl ?_
  refine y_if_ne kX0_meets rfl rfl (fun c1 => ?_) (fun c1 => ?_) (iI_rng _).1 (iI_rng _).2
  · refine y_run kX0_meets rfl ?_
    exact y_zr kX0_meets rfl rfl (Or.inr rfl) ⟨Or.inr ⟨rfl, fun q => c1 ((lg_cmp0 _).mpr (he.mpr q).1)⟩, rfl, rfl⟩
  · refine y_run kX0_meets rfl ?_
    refine y_get kX0_meets rfl rfl ha rfl ?_
    refine y_run kX0_meets rfl ?_
    refine y_get kX0_meets rfl rfl hb rfl ?_
    refine y_run kX0_meets rfl ?_
    refine y_if_eq kX0_meets rfl rfl (fun c2 => ?_) (fun c2 => ?_) (iI_rng _).1 (iI_rng _).2
    · refine y_run kX0_meets rfl ?_
      exact y_zr kX0_meets rfl rfl (Or.inl rfl) ⟨Or.inl ⟨rfl, he.mp ⟨(lg_cmp0 _).mp c1, (lg_cmp0 _).mp c2⟩⟩, rfl, rfl⟩
    · refine y_run kX0_meets rfl ?_
      exact y_zr kX0_meets rfl rfl (Or.inr rfl) ⟨Or.inr ⟨rfl, fun q => c2 ((lg_cmp0 _).mpr (he.mpr q).2)⟩, rfl, rfl⟩
end C3
end
section
/-- a block of six numbers in a row of ints, from z on -/
def BK (F : Nat → Int) (z x0 x1 y0 y1 z0 z1 : Int) : Prop := F z.toNat = x0 ∧ F (z + 1).toNat = x1 ∧ F (z + 2).toNat = y0 ∧ F (z + 3).toNat = y1 ∧ F (z + 4).toNat = z0 ∧ F (z + 5).toNat = z1
/-- small enough -/
def sm (x : Int) : Prop := -100000 ≤ x ∧ x ≤ 100000
section C4
variable {l : Launch} {G : xG} {h : yH} {n : Nat}
theorem c_Oinit {a : Nat} {fs : List xV} (ha : h a = some (ob 1 fs)) : YM l G mX1_init 1 0 0 [vr a] h n (fun r h' n' => r = none ∧ h' = h ∧ n' = n) := by
  refine YM.of kX1_init (Nat.le_of_ble_eq_true rfl) (L0 := [some (vr a)]) rfl ?_
  refine y_run kX1_init rfl ?_
  refine y_ob kX1_init rfl (by decide +kernel) ?_
  exact y_vr kX1_init rfl rfl ⟨rfl, rfl, rfl⟩
theorem c_Rinit {a : Nat} {fs : List xV} (ha : h a = some (ob 4 fs)) : YM l G mX4_init 1 0 0 [vr a] h n (fun r h' n' => r = none ∧ h' = h ∧ n' = n) := by
  refine YM.of kX4_init (Nat.le_of_ble_eq_true rfl) (L0 := [some (vr a)]) rfl ?_
  refine y_run kX4_init rfl ?_
  refine y_ob kX4_init rfl (by decide +kernel) ?_
  exact y_vr kX4_init rfl rfl ⟨rfl, rfl, rfl⟩
theorem c_OsetTo {a b N : Nat} {F : Nat → Int} {z x0 x1 y0 y1 z0 z1 o0 o1 o2 o3 o4 o5 : Int} (ha : h a = some (ob 1 [vi o0, vi o1, vi o2, vi o3, vi o4, vi o5])) (hb : h b = some (ai N F)) (hab : b ≠ a) (hz : 0 ≤ z) (hN : z + 6 ≤ N) (hM : N ≤ 100000) (hB : BK F z x0 x1 y0 y1 z0 z1) : YM l G mX1_setTo 0 0 0 [vr a, vr b, vi z] h n (fun r h' n' => r = none ∧ h' = yup h a (ob 1 [vi (x0 - z1), vi (x1 - z0), vi (y0 - z1), vi (y1 - z0), vi (x0 - y1), vi (x1 - y0 - 1)]) ∧ n' = n) := by
  refine YM.of kX1_setTo (Nat.le_of_ble_eq_true rfl) (L0 := [some (vr a), some (vr b), some (vi z)]) rfl ?_
  obtain ⟨e0, e1, e2, e3, e4, e5⟩ := hB
  refine y_run kX1_setTo rfl ?_
  refine y_ie kX1_setTo rfl hb (by omega) (by omega) (by assumption) ?_
  refine y_run kX1_setTo rfl ?_
  refine y_ie kX1_setTo rfl hb (by omega) (by omega) (by assumption) ?_
  refine y_run kX1_setTo rfl ?_
  refine y_put kX1_setTo rfl rfl ha rfl rfl rfl ?_
  refine y_run kX1_setTo rfl ?_
  refine y_ie kX1_setTo rfl ((yup_ne _ _ hab).trans hb) (by omega) (by omega) (by assumption) ?_
  refine y_run kX1_setTo rfl ?_
  refine y_ie kX1_setTo rfl ((yup_ne _ _ hab).trans hb) (by omega) (by omega) (by assumption) ?_
  refine y_run kX1_setTo rfl ?_
  refine y_put2 kX1_setTo rfl rfl rfl rfl rfl ?_
  refine y_run kX1_setTo rfl ?_
  refine y_ie kX1_setTo rfl ((yup_ne _ _ hab).trans hb) (by omega) (by omega) (by assumption) ?_
  refine y_run kX1_setTo rfl ?_
  refine y_ie kX1_setTo rfl ((yup_ne _ _ hab).trans hb) (by omega) (by omega) (by assumption) ?_
  refine y_run kX1_setTo rfl ?_
  refine y_put2 kX1_setTo rfl rfl rfl rfl rfl ?_
  refine y_run kX1_setTo rfl ?_
  refine y_ie kX1_setTo rfl ((yup_ne _ _ hab).trans hb) (by omega) (by omega) (by assumption) ?_
  refine y_run kX1_setTo rfl ?_
  refine y_ie kX1_setTo rfl ((yup_ne _ _ hab).trans hb) (by omega) (by omega) (by assumption) ?_
  refine y_run kX1_setTo rfl ?_
  refine y_put2 kX1_setTo rfl rfl rfl rfl rfl ?_
  refine y_run kX1_setTo rfl ?_
  refine y_ie kX1_setTo rfl ((yup_ne _ _ hab).trans hb) (by omega) (by omega) (by assumption) ?_
  refine y_run kX1_setTo rfl ?_
  refine y_ie kX1_setTo rfl ((yup_ne _ _ hab).trans hb) (by omega) (by omega) (by assumption) ?_
  refine y_run kX1_setTo rfl ?_
  refine y_put2 kX1_setTo rfl rfl rfl rfl rfl ?_
  refine y_run kX1_setTo rfl ?_
  refine y_ie kX1_setTo rfl ((yup_ne _ _ hab).trans hb) (by omega) (by omega) (by assumption) ?_
  refine y_run kX1_setTo rfl ?_
  refine y_ie kX1_setTo rfl ((yup_ne _ _ hab).trans hb) (by omega) (by omega) (by assumption) ?_
  refine y_run kX1_setTo rfl ?_
  refine y_put2 kX1_setTo rfl rfl rfl rfl rfl ?_
  refine y_vr kX1_setTo rfl rfl ?_
  exact ⟨rfl, rfl, rfl⟩
theorem c_Omeet {a b : Nat} {o0 o1 o2 o3 o4 o5 p0 p1 p2 p3 p4 p5 : Int} (ha : h a = some (ob 1 [vi o0, vi o1, vi o2, vi o3, vi o4, vi o5])) (hb : h b = some (ob 1 [vi p0, vi p1, vi p2, vi p3, vi p4, vi p5])) (hab : b ≠ a) (ho : sm o0 ∧ sm o1 ∧ sm o2 ∧ sm o3 ∧ sm o4 ∧ sm o5) (hp : sm p0 ∧ sm p1 ∧ sm p2 ∧ sm p3 ∧ sm p4 ∧ sm p5) : YM l G mX1_meet 1 0 0 [vr a, vr b] h n (fun r h' n' => r = none ∧ h' = yup h a (ob 1 [vi (max o0 p0), vi (min o1 p1), vi (max o2 p2), vi (min o3 p3), vi (max o4 p4), vi (min o5 p5)]) ∧ n' = n) := by
  refine YM.of kX1_meet (Nat.le_of_ble_eq_true rfl) (L0 := [some (vr a), some (vr b)]) rfl ?_
  obtain ⟨⟨_, _⟩, ⟨_, _⟩, ⟨_, _⟩, ⟨_, _⟩, ⟨_, _⟩, _, _⟩ := ho
  obtain ⟨⟨_, _⟩, ⟨_, _⟩, ⟨_, _⟩, ⟨_, _⟩, ⟨_, _⟩, _, _⟩ := hp
  refine y_run kX1_meet rfl ?_
  refine y_get kX1_meet rfl rfl ha rfl ?_
  refine y_run kX1_meet rfl ?_
  refine y_get kX1_meet rfl rfl hb rfl ?_
  refine y_mx kX1_meet rfl (by decide +kernel) ?_
  refine y_put kX1_meet rfl rfl ha rfl rfl rfl ?_
  refine y_run kX1_meet rfl ?_
  refine y_get kX1_meet rfl rfl (yup_eq _ _ _) rfl ?_
  refine y_run kX1_meet rfl ?_
  refine y_get kX1_meet rfl rfl ((yup_ne _ _ hab).trans hb) rfl ?_
  refine y_mn kX1_meet rfl (by decide +kernel) ?_
  refine y_put2 kX1_meet rfl rfl rfl rfl rfl ?_
  refine y_run kX1_meet rfl ?_
  refine y_get kX1_meet rfl rfl (yup_eq _ _ _) rfl ?_
  refine y_run kX1_meet rfl ?_
  refine y_get kX1_meet rfl rfl ((yup_ne _ _ hab).trans hb) rfl ?_
  refine y_mx kX1_meet rfl (by decide +kernel) ?_
  refine y_put2 kX1_meet rfl rfl rfl rfl rfl ?_
  refine y_run kX1_meet rfl ?_
  refine y_get kX1_meet rfl rfl (yup_eq _ _ _) rfl ?_
  refine y_run kX1_meet rfl ?_
  refine y_get kX1_meet rfl rfl ((yup_ne _ _ hab).trans hb) rfl ?_
  refine y_mn kX1_meet rfl (by decide +kernel) ?_
  refine y_put2 kX1_meet rfl rfl rfl rfl rfl ?_
  refine y_run kX1_meet rfl ?_
  refine y_get kX1_meet rfl rfl (yup_eq _ _ _) rfl ?_
  refine y_run kX1_meet rfl ?_
  refine y_get kX1_meet rfl rfl ((yup_ne _ _ hab).trans hb) rfl ?_
  refine y_mx kX1_meet rfl (by decide +kernel) ?_
  refine y_put2 kX1_meet rfl rfl rfl rfl rfl ?_
  refine y_run kX1_meet rfl ?_
  refine y_get kX1_meet rfl rfl (yup_eq _ _ _) rfl ?_
  refine y_run kX1_meet rfl ?_
  refine y_get kX1_meet rfl rfl ((yup_ne _ _ hab).trans hb) rfl ?_
  refine y_mn kX1_meet rfl (by decide +kernel) ?_
  refine y_put2 kX1_meet rfl rfl rfl rfl rfl ?_
  refine y_vr kX1_meet rfl rfl ?_
  exact ⟨rfl, rfl, rfl⟩
theorem c_OfirstJ {a : Nat} {o0 o1 o2 o3 o4 o5 i : Int} (ha : h a = some (ob 1 [vi o0, vi o1, vi o2, vi o3, vi o4, vi o5])) (ho : sm o0 ∧ sm o1 ∧ sm o2 ∧ sm o3) (hi : sm i) : YM l G mX1_firstJ 1 0 0 [vr a, vi i] h n (fun r h' n' => r = some (vi (max (2 * o0 - i) (2 * o2 + i + 1))) ∧ h' = h ∧ n' = n) := by
  refine YM.of kX1_firstJ (Nat.le_of_ble_eq_true rfl) (L0 := [some (vr a), some (vi i)]) rfl ?_
  obtain ⟨⟨_, _⟩, ⟨_, _⟩, ⟨_, _⟩, _, _⟩ := ho
  obtain ⟨_, _⟩ := hi
  refine y_run kX1_firstJ rfl ?_
  refine y_get kX1_firstJ rfl rfl ha rfl ?_
  refine y_run kX1_firstJ rfl ?_
  refine y_get kX1_firstJ rfl rfl ha rfl ?_
  refine y_run kX1_firstJ rfl ?_
  refine y_mx kX1_firstJ rfl (by decide +kernel) ?_
  refine y_ir kX1_firstJ rfl rfl ?_
  exact ⟨rfl, rfl, rfl⟩
theorem c_OlastJ {a : Nat} {o0 o1 o2 o3 o4 o5 i : Int} (ha : h a = some (ob 1 [vi o0, vi o1, vi o2, vi o3, vi o4, vi o5])) (ho : sm o0 ∧ sm o1 ∧ sm o2 ∧ sm o3) (hi : sm i) : YM l G mX1_lastJ 1 0 0 [vr a, vi i] h n (fun r h' n' => r = some (vi (min (2 * o1 - i - 1) (2 * o3 + i))) ∧ h' = h ∧ n' = n) := by
  refine YM.of kX1_lastJ (Nat.le_of_ble_eq_true rfl) (L0 := [some (vr a), some (vi i)]) rfl ?_
  obtain ⟨⟨_, _⟩, ⟨_, _⟩, ⟨_, _⟩, _, _⟩ := ho
  obtain ⟨_, _⟩ := hi
  refine y_run kX1_lastJ rfl ?_
  refine y_get kX1_lastJ rfl rfl ha rfl ?_
  refine y_run kX1_lastJ rfl ?_
  refine y_get kX1_lastJ rfl rfl ha rfl ?_
  refine y_run kX1_lastJ rfl ?_
  refine y_mn kX1_lastJ rfl (by decide +kernel) ?_
  refine y_ir kX1_lastJ rfl rfl ?_
  exact ⟨rfl, rfl, rfl⟩
theorem c_Raim {a : Nat} {r0 r1 r2 r3 i j : Int} (ha : h a = some (ob 4 [vi r0, vi r1, vi r2, vi r3])) : YM l G mX4_aim 0 0 0 [vr a, vi i, vi j] h n (fun r h' n' => r = none ∧ h' = yup h a (ob 4 [vi (2 * j + 2 * i + 1), vi (2 * j - 2 * i - 1), vi r2, vi r3]) ∧ n' = n) := by
  refine YM.of kX4_aim (Nat.le_of_ble_eq_true rfl) (L0 := [some (vr a), some (vi i), some (vi j)]) rfl ?_
  refine y_run kX4_aim rfl ?_
  refine y_put kX4_aim rfl rfl ha rfl rfl rfl ?_
  refine y_run kX4_aim rfl ?_
  refine y_put2 kX4_aim rfl rfl rfl rfl rfl ?_
  refine y_vr kX4_aim rfl rfl ?_
  exact ⟨rfl, rfl, rfl⟩
theorem c_Rhits {a b N : Nat} {F : Nat → Int} {z x0 x1 y0 y1 z0 z1 r0 r1 r2 r3 : Int} (ha : h a = some (ob 4 [vi r0, vi r1, vi r2, vi r3])) (hb : h b = some (ai N F)) (hz : 0 ≤ z) (hN : z + 6 ≤ N) (hM : N ≤ 100000) (hB : BK F z x0 x1 y0 y1 z0 z1) (hr : sm r0 ∧ sm r1) (hx : sm x0 ∧ sm x1 ∧ sm y0 ∧ sm y1 ∧ sm z0 ∧ sm z1) : YM l G mX4_hits 1 0 0 [vr a, vr b, vi z] h n (fun r h' n' => r = some (vi (if max (4 * x0 - r0) (max (4 * y0 - r1) (4 * z0)) < min (4 * x1 - r0) (min (4 * y1 - r1) (4 * z1)) then 1 else 0)) ∧ h' = h ∧ n' = n) := by
  refine YM.of kX4_hits (Nat.le_of_ble_eq_true rfl) (L0 := [some (vr a), some (vr b), some (vi z), none, none]) rfl ?_
  obtain ⟨e0, e1, e2, e3, e4, e5⟩ := hB
  obtain ⟨⟨_, _⟩, ⟨_, _⟩, ⟨_, _⟩, ⟨_, _⟩, ⟨_, _⟩, _, _⟩ := hx
  obtain ⟨⟨_, _⟩, _, _⟩ := hr
  refine y_run kX4_hits rfl ?_
  refine y_ie kX4_hits rfl hb (by omega) (by omega) (by assumption) ?_
  refine y_run kX4_hits rfl ?_
  refine y_get kX4_hits rfl rfl ha rfl ?_
  refine y_run kX4_hits rfl ?_
  refine y_ie kX4_hits rfl hb (by omega) (by omega) (by assumption) ?_
  refine y_run kX4_hits rfl ?_
  refine y_get kX4_hits rfl rfl ha rfl ?_
  refine y_run kX4_hits rfl ?_
  refine y_ie kX4_hits rfl hb (by omega) (by omega) (by assumption) ?_
  refine y_run kX4_hits rfl ?_
  refine y_mx kX4_hits rfl (by decide +kernel) ?_
  refine y_mx kX4_hits rfl (by decide +kernel) ?_
  refine y_run kX4_hits rfl ?_
  refine y_ie kX4_hits rfl hb (by omega) (by omega) (by assumption) ?_
  refine y_run kX4_hits rfl ?_
  refine y_get kX4_hits rfl rfl ha rfl ?_
  refine y_run kX4_hits rfl ?_
  refine y_ie kX4_hits rfl hb (by omega) (by omega) (by assumption) ?_
  refine y_run kX4_hits rfl ?_
  refine y_get kX4_hits rfl rfl ha rfl ?_
  refine y_run kX4_hits rfl ?_
  refine y_ie kX4_hits rfl hb (by omega) (by omega) (by assumption) ?_
  refine y_run kX4_hits rfl ?_
  refine y_mn kX4_hits rfl (by decide +kernel) ?_
  refine y_mn kX4_hits rfl (by decide +kernel) ?_
  refine y_run kX4_hits rfl ?_
  refine y_ic_ge kX4_hits rfl rfl (fun c1 => ?_) (fun c1 => ?_)
  · refine y_run kX4_hits rfl ?_
    refine y_zr kX4_hits rfl rfl (Or.inl rfl) ?_
    exact ⟨by rw [if_neg (by omega)], rfl, rfl⟩
  · refine y_run kX4_hits rfl ?_
    refine y_zr kX4_hits rfl rfl (Or.inr rfl) ?_
    exact ⟨by rw [if_pos (by omega)], rfl, rfl⟩
/-- the exit in quarters, and its face -/
def rex (x1 y1 z1 a b : Int) : Int := if 4 * y1 - b < (if 4 * x1 - a < 4 * z1 then 4 * x1 - a else 4 * z1) then 4 * y1 - b else if 4 * x1 - a < 4 * z1 then 4 * x1 - a else 4 * z1
def rfc (x1 y1 z1 a b : Int) : Int := if 4 * y1 - b < (if 4 * x1 - a < 4 * z1 then 4 * x1 - a else 4 * z1) then 1 else if 4 * x1 - a < 4 * z1 then 0 else 2
theorem c_Rleave {a b N : Nat} {F : Nat → Int} {z x0 x1 y0 y1 z0 z1 r0 r1 r2 r3 : Int} (ha : h a = some (ob 4 [vi r0, vi r1, vi r2, vi r3])) (hb : h b = some (ai N F)) (hab : b ≠ a) (hz : 0 ≤ z) (hN : z + 6 ≤ N) (hM : N ≤ 100000) (hB : BK F z x0 x1 y0 y1 z0 z1) (hr : sm r0 ∧ sm r1) (hx : sm x1 ∧ sm y1 ∧ sm z1) : YM l G mX4_leave 0 0 0 [vr a, vr b, vi z] h n (fun r h' n' => r = none ∧ h' = yup h a (ob 4 [vi r0, vi r1, vi (rex x1 y1 z1 r0 r1), vi (rfc x1 y1 z1 r0 r1)]) ∧ n' = n) := by
  refine YM.of kX4_leave (Nat.le_of_ble_eq_true rfl) (L0 := [some (vr a), some (vr b), some (vi z), none, none]) rfl ?_
  obtain ⟨e0, e1, e2, e3, e4, e5⟩ := hB
  obtain ⟨⟨_, _⟩, ⟨_, _⟩, _, _⟩ := hx
  obtain ⟨⟨_, _⟩, _, _⟩ := hr
  refine y_run kX4_leave rfl ?_
  refine y_ie kX4_leave rfl hb (by omega) (by omega) (by assumption) ?_
  refine y_run kX4_leave rfl ?_
  refine y_get kX4_leave rfl rfl ha rfl ?_
  refine y_run kX4_leave rfl ?_
  refine y_ie kX4_leave rfl hb (by omega) (by omega) (by assumption) ?_
  refine y_run kX4_leave rfl ?_
  refine y_get kX4_leave rfl rfl ha rfl ?_
  refine y_run kX4_leave rfl ?_
  refine y_put kX4_leave rfl rfl ha rfl rfl rfl ?_
  refine y_run kX4_leave rfl ?_
  refine y_ie kX4_leave rfl ((yup_ne _ _ hab).trans hb) (by omega) (by omega) (by assumption) ?_
  refine y_run kX4_leave rfl ?_
  refine y_put2 kX4_leave rfl rfl rfl rfl rfl ?_
  refine y_run kX4_leave rfl ?_
  refine y_get kX4_leave rfl rfl (yup_eq _ _ _) rfl ?_
  refine y_ic_ge kX4_leave rfl rfl (fun c1 => ?_) (fun c1 => ?_)
  · refine y_run kX4_leave rfl ?_
    refine y_get kX4_leave rfl rfl (yup_eq _ _ _) rfl ?_
    refine y_ic_ge kX4_leave rfl rfl (fun c2 => ?_) (fun c2 => ?_)
    · refine y_vr kX4_leave rfl rfl ?_
      refine ⟨rfl, ?_, rfl⟩
      unfold rex rfc
      rw [if_neg (c := 4 * x1 - r0 < 4 * z1) (by omega), if_neg (c := 4 * x1 - r0 < 4 * z1) (by omega), if_neg (by omega), if_neg (by omega)]
      rfl
    · refine y_run kX4_leave rfl ?_
      refine y_put2 kX4_leave rfl rfl rfl rfl rfl ?_
      refine y_run kX4_leave rfl ?_
      refine y_put2 kX4_leave rfl rfl rfl rfl rfl ?_
      refine y_vr kX4_leave rfl rfl ?_
      refine ⟨rfl, ?_, rfl⟩
      unfold rex rfc
      rw [if_neg (c := 4 * x1 - r0 < 4 * z1) (by omega), if_neg (c := 4 * x1 - r0 < 4 * z1) (by omega), if_pos (by omega), if_pos (by omega)]
      rfl
  · refine y_run kX4_leave rfl ?_
    refine y_put2 kX4_leave rfl rfl rfl rfl rfl ?_
    refine y_run kX4_leave rfl ?_
    refine y_put2 kX4_leave rfl rfl rfl rfl rfl ?_
    refine y_run kX4_leave rfl ?_
    refine y_get kX4_leave rfl rfl (yup_eq _ _ _) rfl ?_
    refine y_ic_ge kX4_leave rfl rfl (fun c3 => ?_) (fun c3 => ?_)
    · refine y_vr kX4_leave rfl rfl ?_
      refine ⟨rfl, ?_, rfl⟩
      unfold rex rfc
      rw [if_pos (c := 4 * x1 - r0 < 4 * z1) (by omega), if_pos (c := 4 * x1 - r0 < 4 * z1) (by omega), if_neg (by omega), if_neg (by omega)]
      rfl
    · refine y_run kX4_leave rfl ?_
      refine y_put2 kX4_leave rfl rfl rfl rfl rfl ?_
      refine y_run kX4_leave rfl ?_
      refine y_put2 kX4_leave rfl rfl rfl rfl rfl ?_
      refine y_vr kX4_leave rfl rfl ?_
      refine ⟨rfl, ?_, rfl⟩
      unfold rex rfc
      rw [if_pos (c := 4 * x1 - r0 < 4 * z1) (by omega), if_pos (c := 4 * x1 - r0 < 4 * z1) (by omega), if_pos (by omega), if_pos (by omega)]
      rfl
theorem c_Rwhole {q : Int} : YM l G mX4_wholeInSprite 0 0 0 [vi q] h n (fun r h' n' => r = some (vi (yand (yshr q 2) 7)) ∧ h' = h ∧ n' = n) := by
  refine YM.of kX4_wholeInSprite (Nat.le_of_ble_eq_true rfl) (L0 := [some (vi q)]) rfl ?_
  refine y_run kX4_wholeInSprite rfl ?_
  exact y_ir kX4_wholeInSprite rfl rfl ⟨rfl, rfl, rfl⟩
end C4
end
section
/-! the scene: which boxes are there (a bit each), their ends, looks, the rows of the sprites, and the trial -/
def SC (h : yH) (a : Nat) (t : Int) (E K R T : Nat → Int) : Prop := h a = some (ob 5 [vi t, vr (a + 1), vr (a + 2), vr (a + 3), vr (a + 4)]) ∧ h (a + 1) = some (ai 144 E) ∧ h (a + 2) = some (ai 96 K) ∧ h (a + 3) = some (ai 64 R) ∧ h (a + 4) = some (ai 6 T)
def tbt (t : Int) (k : Nat) : Bool := (iI t).toBitVec.getLsbD k
theorem s32 : ∀ k : Nat, k < 32 → ((iI (k : Int) &&& 31).toBitVec.smod 32).toNat = k := by decide +kernel
theorem o32 : ∀ k : Nat, k < 32 → (iI 1 <<< (iI (k : Int) &&& 31)).toBitVec = BitVec.twoPow 32 k := by decide +kernel
theorem m32 : ∀ k : Nat, k < 32 → (iI (-1)).toBitVec.getLsbD k = true := by decide +kernel
theorem i32_ext {a b : Int32} (h : ∀ k, k < 32 → a.toBitVec.getLsbD k = b.toBitVec.getLsbD k) : a = b := by
  apply Int32.toBitVec_inj.mp
  apply BitVec.eq_of_getLsbD_eq
  intro i hi
  exact h i hi
theorem tbt_of (x : Int32) (k : Nat) : tbt x.toInt k = x.toBitVec.getLsbD k := by unfold tbt; rw [← iI_of]
theorem tbt_and (x y : Int) (k : Nat) : tbt (yand x y) k = (tbt x k && tbt y k) := by unfold yand; rw [tbt_of]; simp [tbt]
theorem tbt_or (x y : Int) (k : Nat) : tbt (yor x y) k = (tbt x k || tbt y k) := by unfold yor; rw [tbt_of]; simp [tbt]
theorem tbt_xor (x y : Int) (k : Nat) : tbt (yxor x y) k = (tbt x k ^^ tbt y k) := by unfold yxor; rw [tbt_of]; simp [tbt]
theorem tbt_bit {v : Int} (h1 : 0 ≤ v) (h2 : v < 32) (j : Nat) : tbt (yshl 1 v) j = decide (j = v.toNat) := by
  obtain ⟨k, hk, rfl⟩ := nat_of h1 h2
  unfold yshl
  rw [tbt_of, o32 k hk, BitVec.getLsbD_twoPow, Int.toNat_natCast]
  by_cases c : j = k
  · subst c; simp [hk]
  · have : k ≠ j := fun q => c q.symm
    simp [c, this]
theorem tbt_m1 {k : Nat} (hk : k < 32) : tbt (-1) k = true := m32 k hk
theorem tbt_has (t : Int) {v : Int} (h1 : 0 ≤ v) (h2 : v < 32) : yand (yshr t v) 1 ≠ 0 ↔ tbt t v.toNat = true := by
  obtain ⟨k, hk, rfl⟩ := nat_of h1 h2
  rw [Int.toNat_natCast]
  have e : tbt (yshr t (k : Int)) 0 = tbt t k := by
    unfold yshr
    rw [tbt_of, Int32.toBitVec_shiftRight]
    simp only [BitVec.sshiftRight', s32 k hk, BitVec.getLsbD_sshiftRight]
    simp [tbt, hk]
  have e1 : ∀ j, tbt 1 j = decide (j = 0) := fun j => by
    have := tbt_bit (v := 0) (by omega) (by omega) j
    exact this
  have e0 : ∀ j, tbt 0 j = false := fun j => by show (0#32).getLsbD j = false; simp
  constructor
  · intro q
    cases c : tbt t k with
    | true => rfl
    | false =>
      exfalso
      apply q
      unfold yand
      have : iI (yshr t (k : Int)) &&& iI 1 = 0 := by
        apply i32_ext
        intro j hj
        have h3 := tbt_and (yshr t (k : Int)) 1 j
        unfold yand at h3
        rw [tbt_of] at h3
        rw [h3, e1]
        by_cases cj : j = 0
        · subst cj; rw [e, c]; simp
        · simp [cj]
      rw [this]
      rfl
  · intro q c
    have h3 := tbt_and (yshr t (k : Int)) 1 0
    rw [c, e0, e, q, e1] at h3
    simp at h3
section C5
variable {l : Launch} {G : xG} {h : yH} {n : Nat}
theorem c_Shas {a : Nat} {t v : Int} {E K R T : Nat → Int} (hs : SC h a t E K R T) (hv : inI v) : YM l G mX5_has 1 0 0 [vr a, vi v] h n (fun r h' n' => r = some (vi (if (0 ≤ v ∧ v < 24) ∧ tbt t v.toNat = true then 1 else 0)) ∧ h' = h ∧ n' = n) := by
  have e : (if (0 ≤ v ∧ v < 24) ∧ yand (yshr t v) 1 ≠ 0 then (1 : Int) else 0) = (if (0 ≤ v ∧ v < 24) ∧ tbt t v.toNat = true then 1 else 0) := by
    by_cases c : 0 ≤ v ∧ v < 24
    · have := tbt_has t (v := v) c.1 (by omega)
      by_cases c2 : tbt t v.toNat = true
      · rw [if_pos ⟨c, this.mpr c2⟩, if_pos ⟨c, c2⟩]
      · rw [if_neg (fun q => c2 (this.mp q.2)), if_neg (fun q => c2 q.2)]
    · rw [if_neg (fun q => c q.1), if_neg (fun q => c q.1)]
  rw [← e]
  exact c_has v hv hs.1
theorem c_StakeAway {a : Nat} {t v : Int} {E K R T : Nat → Int} (hs : SC h a t E K R T) : YM l G mX5_takeAway 0 0 0 [vr a, vi v] h n (fun r h' n' => r = none ∧ h' = yup h a (ob 5 [vi (yand t (yxor (yshl 1 v) (-1))), vr (a + 1), vr (a + 2), vr (a + 3), vr (a + 4)]) ∧ n' = n) := by
  refine YM.of kX5_takeAway (Nat.le_of_ble_eq_true rfl) (L0 := [some (vr a), some (vi v)]) rfl ?_
  obtain ⟨hs, he, hk, hr, ht⟩ := hs
  refine y_run kX5_takeAway rfl ?_
  refine y_get kX5_takeAway rfl rfl hs rfl ?_
  refine y_run kX5_takeAway rfl ?_
  refine y_put kX5_takeAway rfl rfl hs rfl rfl rfl ?_
  refine y_vr kX5_takeAway rfl rfl ?_
  exact ⟨rfl, rfl, rfl⟩
theorem c_SsetLooks {a : Nat} {t v c p q u : Int} {E K R T : Nat → Int} (hs : SC h a t E K R T) (h1 : 0 ≤ v) (h2 : v < 24) : YM l G mX5_setLooks 0 0 0 [vr a, vi v, vi c, vi p, vi q, vi u] h n (fun r h' n' => r = none ∧ h' = yup h (a + 2) (ai 96 (upZ (upZ (upZ (upZ K (v * 4).toNat c) (v * 4 + 1).toNat p) (v * 4 + 2).toNat q) (v * 4 + 3).toNat u)) ∧ n' = n) := by
  refine YM.of kX5_setLooks (Nat.le_of_ble_eq_true rfl) (L0 := [some (vr a), some (vi v), some (vi c), some (vi p), some (vi q), some (vi u)]) rfl ?_
  obtain ⟨hs, he, hk, hr, ht⟩ := hs
  refine y_run kX5_setLooks rfl ?_
  refine y_get kX5_setLooks rfl rfl hs rfl ?_
  refine y_run kX5_setLooks rfl ?_
  refine y_is kX5_setLooks rfl hk (by omega) (by omega) ?_
  refine y_run kX5_setLooks rfl ?_
  refine y_get kX5_setLooks rfl rfl ((yup_ne _ _ (by omega)).trans hs) rfl ?_
  refine y_run kX5_setLooks rfl ?_
  refine y_is2 kX5_setLooks rfl (by omega) (by omega) ?_
  refine y_run kX5_setLooks rfl ?_
  refine y_get kX5_setLooks rfl rfl ((yup_ne _ _ (by omega)).trans hs) rfl ?_
  refine y_run kX5_setLooks rfl ?_
  refine y_is2 kX5_setLooks rfl (by omega) (by omega) ?_
  refine y_run kX5_setLooks rfl ?_
  refine y_get kX5_setLooks rfl rfl ((yup_ne _ _ (by omega)).trans hs) rfl ?_
  refine y_run kX5_setLooks rfl ?_
  refine y_is2 kX5_setLooks rfl (by omega) (by omega) ?_
  refine y_vr kX5_setLooks rfl rfl ?_
  exact ⟨rfl, rfl, rfl⟩
theorem c_StryAlong {a : Nat} {t x f s : Int} {E K R T : Nat → Int} (hs : SC h a t E K R T) (h1 : 0 ≤ x) (h2 : x < 3) : YM l G mX5_tryAlong 0 0 0 [vr a, vi x, vi f, vi s] h n (fun r h' n' => r = none ∧ h' = yup h (a + 4) (ai 6 (upZ (upZ T (2 * x).toNat f) (2 * x + 1).toNat (f + s))) ∧ n' = n) := by
  refine YM.of kX5_tryAlong (Nat.le_of_ble_eq_true rfl) (L0 := [some (vr a), some (vi x), some (vi f), some (vi s)]) rfl ?_
  obtain ⟨hs, he, hk, hr, ht⟩ := hs
  refine y_run kX5_tryAlong rfl ?_
  refine y_get kX5_tryAlong rfl rfl hs rfl ?_
  refine y_run kX5_tryAlong rfl ?_
  refine y_is kX5_tryAlong rfl ht (by omega) (by omega) ?_
  refine y_run kX5_tryAlong rfl ?_
  refine y_get kX5_tryAlong rfl rfl ((yup_ne _ _ (by omega)).trans hs) rfl ?_
  refine y_run kX5_tryAlong rfl ?_
  refine y_is2 kX5_tryAlong rfl (by omega) (by omega) ?_
  refine y_vr kX5_tryAlong rfl rfl ?_
  exact ⟨rfl, rfl, rfl⟩
/-- the trial and box o overlap along axis j -/
def ovl (E T : Nat → Int) (b j : Int) : Prop := T (2 * j).toNat < E (b * 6 + 2 * j + 1).toNat ∧ E (b * 6 + 2 * j).toNat < T (2 * j + 1).toNat
theorem s_shares {Φ : Option xV → yH → Nat → Prop} {a : Nat} {t b : Int} {E K R T : Nat → Int} (hs : SC h a t E K R T) (h1 : 0 ≤ b) (h2 : b < 24) (hE : ∀ k, sm (E k)) (hT : ∀ k, sm (T k)) (hy : (∀ j, 0 ≤ j → j < 3 → ovl E T b j) → Φ (some (vi 1)) h n) (hn : (¬ ∀ j, 0 ≤ j → j < 3 → ovl E T b j) → Φ (some (vi 0)) h n) :
    ∀ (m : Nat) (x : Int) (u : Option xV), x = 3 - (m : Int) → 0 ≤ x → (∀ j, 0 ≤ j → j < x → ovl E T b j) → YW l G mX5_sharesRoom 0 0 0 Φ 2 [some (vr a), some (vi b), some (vi x), u] [] h n := by
  obtain ⟨hs, he, hk, hr, ht⟩ := hs
  intro m
  induction m with
  | zero =>
    intro x u hx h0 hi
    have e : x = 3 := by omega
    subst e
    refine y_run kX5_sharesRoom rfl ?_
    refine y_ic_ge kX5_sharesRoom rfl rfl (fun c1 => ?_) (fun c1 => absurd c1 (by omega))
    refine y_run kX5_sharesRoom rfl ?_
    exact y_zr kX5_sharesRoom rfl rfl (Or.inr rfl) (hy hi)
  | succ m ih =>
    intro x u hx h0 hi
    obtain ⟨g1, g2⟩ := hT (2 * x).toNat
    obtain ⟨g3, g4⟩ := hT (2 * x + 1).toNat
    obtain ⟨g5, g6⟩ := hE (b * 6 + 2 * x).toNat
    obtain ⟨g7, g8⟩ := hE (b * 6 + 2 * x + 1).toNat
    refine y_run kX5_sharesRoom rfl ?_
    refine y_ic_ge kX5_sharesRoom rfl rfl (fun c1 => ?_) (fun c1 => ?_)
    · refine y_run kX5_sharesRoom rfl ?_
      refine y_zr kX5_sharesRoom rfl rfl (Or.inr rfl) ?_
      exact absurd c1 (by omega)
    · refine y_run kX5_sharesRoom rfl ?_
      refine y_get kX5_sharesRoom rfl rfl hs rfl ?_
      refine y_run kX5_sharesRoom rfl ?_
      refine y_ia kX5_sharesRoom rfl ht (by omega) (by omega) ?_
      refine y_run kX5_sharesRoom rfl ?_
      refine y_get kX5_sharesRoom rfl rfl hs rfl ?_
      refine y_run kX5_sharesRoom rfl ?_
      refine y_ia kX5_sharesRoom rfl he (by omega) (by omega) ?_
      refine y_ic_ge kX5_sharesRoom rfl rfl (fun c2 => ?_) (fun c2 => ?_)
      · refine y_run kX5_sharesRoom rfl ?_
        refine y_zr kX5_sharesRoom rfl rfl (Or.inl rfl) ?_
        exact hn (fun q => absurd (q x h0 (by omega)).1 (by omega))
      · refine y_run kX5_sharesRoom rfl ?_
        refine y_get kX5_sharesRoom rfl rfl hs rfl ?_
        refine y_run kX5_sharesRoom rfl ?_
        refine y_ia kX5_sharesRoom rfl he (by omega) (by omega) ?_
        refine y_run kX5_sharesRoom rfl ?_
        refine y_get kX5_sharesRoom rfl rfl hs rfl ?_
        refine y_run kX5_sharesRoom rfl ?_
        refine y_ia kX5_sharesRoom rfl ht (by omega) (by omega) ?_
        refine y_ic_lt kX5_sharesRoom rfl rfl (fun c3 => ?_) (fun c3 => ?_)
        · refine y_run kX5_sharesRoom rfl ?_
          refine ih (x + 1) _ (by omega) (by omega) (fun j j0 j1 => ?_)
          by_cases c : j = x
          · subst c; exact ⟨c2, c3⟩
          · exact hi j j0 (by omega)
        · refine y_run kX5_sharesRoom rfl ?_
          refine y_zr kX5_sharesRoom rfl rfl (Or.inl rfl) ?_
          exact hn (fun q => absurd (q x h0 (by omega)).2 (by omega))
theorem c_SsharesRoom {a : Nat} {t b : Int} {E K R T : Nat → Int} (hs : SC h a t E K R T) (h1 : 0 ≤ b) (h2 : b < 24) (hE : ∀ k, sm (E k)) (hT : ∀ k, sm (T k)) : YM l G mX5_sharesRoom 0 0 0 [vr a, vi b] h n (fun r h' n' => ((r = some (vi 1) ∧ ∀ j, 0 ≤ j → j < 3 → ovl E T b j) ∨ (r = some (vi 0) ∧ ¬ ∀ j, 0 ≤ j → j < 3 → ovl E T b j)) ∧ h' = h ∧ n' = n) := by
  refine YM.of kX5_sharesRoom (Nat.le_of_ble_eq_true rfl) (L0 := [some (vr a), some (vi b), none, none]) rfl ?_
  refine y_run kX5_sharesRoom rfl ?_
  exact s_shares hs h1 h2 hE hT (fun q => ⟨Or.inl ⟨rfl, q⟩, rfl, rfl⟩) (fun q => ⟨Or.inr ⟨rfl, q⟩, rfl, rfl⟩) 3 0 none (by omega) (by omega) (fun j j0 j1 => absurd j1 (by omega))
end C5
end
section
def wayP (t : Int) (E T : Nat → Int) (v b : Int) : Prop := b ≠ v ∧ tbt t b.toNat = true ∧ ∀ j, 0 ≤ j → j < 3 → ovl E T b j
/-- the least number below 24 with P, or -1 -/
def least24 (P : Int → Prop) (z : Int) : Prop := (0 ≤ z ∧ z < 24 ∧ P z ∧ ∀ b, 0 ≤ b → b < z → ¬ P b) ∨ (z = -1 ∧ ∀ b, 0 ≤ b → b < 24 → ¬ P b)
theorem SC.frame1 {h h' : yH} {a : Nat} {t : Int} {E K R T : Nat → Int} (hs : SC h a t E K R T) (hq : ∀ q, a ≤ q → q < a + 5 → h' q = h q) : SC h' a t E K R T := by
  obtain ⟨h0, h1, h2, h3, h4⟩ := hs
  exact ⟨(hq _ (by omega) (by omega)).trans h0, (hq _ (by omega) (by omega)).trans h1, (hq _ (by omega) (by omega)).trans h2, (hq _ (by omega) (by omega)).trans h3, (hq _ (by omega) (by omega)).trans h4⟩
theorem SC.up0 {h : yH} {a : Nat} {t : Int} {E K R T : Nat → Int} (hs : SC h a t E K R T) (t' : Int) : SC (yup h a (ob 5 [vi t', vr (a + 1), vr (a + 2), vr (a + 3), vr (a + 4)])) a t' E K R T := by
  obtain ⟨h0, h1, h2, h3, h4⟩ := hs
  exact ⟨yup_eq _ _ _, (yup_ne _ _ (by omega)).trans h1, (yup_ne _ _ (by omega)).trans h2, (yup_ne _ _ (by omega)).trans h3, (yup_ne _ _ (by omega)).trans h4⟩
theorem SC.up1 {h : yH} {a : Nat} {t : Int} {E K R T : Nat → Int} (hs : SC h a t E K R T) (E' : Nat → Int) : SC (yup h (a + 1) (ai 144 E')) a t E' K R T := by
  obtain ⟨h0, h1, h2, h3, h4⟩ := hs
  exact ⟨(yup_ne _ _ (by omega)).trans h0, yup_eq _ _ _, (yup_ne _ _ (by omega)).trans h2, (yup_ne _ _ (by omega)).trans h3, (yup_ne _ _ (by omega)).trans h4⟩
theorem SC.up2 {h : yH} {a : Nat} {t : Int} {E K R T : Nat → Int} (hs : SC h a t E K R T) (K' : Nat → Int) : SC (yup h (a + 2) (ai 96 K')) a t E K' R T := by
  obtain ⟨h0, h1, h2, h3, h4⟩ := hs
  exact ⟨(yup_ne _ _ (by omega)).trans h0, (yup_ne _ _ (by omega)).trans h1, yup_eq _ _ _, (yup_ne _ _ (by omega)).trans h3, (yup_ne _ _ (by omega)).trans h4⟩
theorem SC.up3 {h : yH} {a : Nat} {t : Int} {E K R T : Nat → Int} (hs : SC h a t E K R T) (R' : Nat → Int) : SC (yup h (a + 3) (ai 64 R')) a t E K R' T := by
  obtain ⟨h0, h1, h2, h3, h4⟩ := hs
  exact ⟨(yup_ne _ _ (by omega)).trans h0, (yup_ne _ _ (by omega)).trans h1, (yup_ne _ _ (by omega)).trans h2, yup_eq _ _ _, (yup_ne _ _ (by omega)).trans h4⟩
theorem SC.up4 {h : yH} {a : Nat} {t : Int} {E K R T : Nat → Int} (hs : SC h a t E K R T) (T' : Nat → Int) : SC (yup h (a + 4) (ai 6 T')) a t E K R T' := by
  obtain ⟨h0, h1, h2, h3, h4⟩ := hs
  exact ⟨(yup_ne _ _ (by omega)).trans h0, (yup_ne _ _ (by omega)).trans h1, (yup_ne _ _ (by omega)).trans h2, (yup_ne _ _ (by omega)).trans h3, yup_eq _ _ _⟩
section C6
variable {l : Launch} {G : xG} {h : yH} {n : Nat}
theorem s_way {Φ : Option xV → yH → Nat → Prop} {a : Nat} {t v : Int} {E K R T : Nat → Int} (hs : SC h a t E K R T) (hv : inI v) (hE : ∀ k, sm (E k)) (hT : ∀ k, sm (T k)) (hΦ : ∀ z, least24 (wayP t E T v) z → Φ (some (vi z)) h n) :
    ∀ (m : Nat) (x : Int), x = 24 - (m : Int) → 0 ≤ x → (∀ b, 0 ≤ b → b < x → ¬ wayP t E T v b) → YW l G mX5_lowestInTheWay 2 0 0 Φ 2 [some (vr a), some (vi v), some (vi x)] [] h n := by
  obtain ⟨hv1, hv2⟩ := hv
  intro m
  induction m with
  | zero =>
    intro x hx h0 hi
    have e : x = 24 := by omega
    subst e
    refine y_run kX5_lowestInTheWay rfl ?_
    refine y_ic_ge kX5_lowestInTheWay rfl rfl (fun c1 => ?_) (fun c1 => absurd c1 (by omega))
    refine y_run kX5_lowestInTheWay rfl ?_
    exact y_ir kX5_lowestInTheWay rfl rfl (hΦ _ (Or.inr ⟨rfl, hi⟩))
  | succ m ih =>
    intro x hx h0 hi
    have nxt : ¬ wayP t E T v x → YW l G mX5_lowestInTheWay 2 0 0 Φ 2 [some (vr a), some (vi v), some (vi (x + 1))] [] h n := fun q => ih (x + 1) (by omega) (by omega) (fun b b0 b1 => by
      by_cases c : b = x
      · subst c; exact q
      · exact hi b b0 (by omega))
    refine y_run kX5_lowestInTheWay rfl ?_
    refine y_ic_ge kX5_lowestInTheWay rfl rfl (fun c1 => absurd c1 (by omega)) (fun c1 => ?_)
    refine y_run kX5_lowestInTheWay rfl ?_
    refine y_ic_eq kX5_lowestInTheWay rfl rfl (fun c2 => ?_) (fun c2 => ?_)
    · refine y_run kX5_lowestInTheWay rfl ?_
      exact nxt (fun q => q.1 c2)
    · refine y_run kX5_lowestInTheWay rfl ?_
      refine y_cv kX5_lowestInTheWay kX5_has 1 (rest := []) rfl hs.1 (by decide +kernel) (c_Shas hs (v := x) ⟨by omega, by omega⟩) rfl rfl ?_
      rintro r h' n' ⟨rfl, rfl, rfl⟩
      refine y_if_eq kX5_lowestInTheWay rfl rfl (fun c3 => ?_) (fun c3 => ?_) (by split <;> omega) (by split <;> omega)
      · refine y_run kX5_lowestInTheWay rfl ?_
        refine nxt (fun q => ?_)
        rw [if_pos ⟨⟨h0, by omega⟩, q.2.1⟩] at c3
        omega
      · have hb : tbt t x.toNat = true := by
          by_cases c : (0 ≤ x ∧ x < 24) ∧ tbt t x.toNat = true
          · exact c.2
          · rw [if_neg c] at c3; omega
        refine y_run kX5_lowestInTheWay rfl ?_
        refine y_cv kX5_lowestInTheWay kX5_sharesRoom 1 (rest := []) rfl hs.1 (by decide +kernel) (c_SsharesRoom hs (b := x) (by omega) (by omega) hE hT) rfl rfl ?_
        rintro r h' n' ⟨hr, rfl, rfl⟩
        rcases hr with ⟨rfl, hr⟩ | ⟨rfl, hr⟩
        · refine y_if_eq kX5_lowestInTheWay rfl rfl (fun c4 => absurd c4 (by omega)) (fun c4 => ?_)
          refine y_run kX5_lowestInTheWay rfl ?_
          exact y_ir kX5_lowestInTheWay rfl rfl (hΦ _ (Or.inl ⟨h0, by omega, ⟨c2, hb, hr⟩, hi⟩))
        · refine y_if_eq kX5_lowestInTheWay rfl rfl (fun c4 => ?_) (fun c4 => absurd rfl c4)
          refine y_run kX5_lowestInTheWay rfl ?_
          exact nxt (fun q => hr q.2.2)
theorem c_Slowest {a : Nat} {t v : Int} {E K R T : Nat → Int} (hs : SC h a t E K R T) (hv : inI v) (hE : ∀ k, sm (E k)) (hT : ∀ k, sm (T k)) : YM l G mX5_lowestInTheWay 2 0 0 [vr a, vi v] h n (fun r h' n' => (∃ z, r = some (vi z) ∧ least24 (wayP t E T v) z) ∧ h' = h ∧ n' = n) := by
  refine YM.of kX5_lowestInTheWay (Nat.le_of_ble_eq_true rfl) (L0 := [some (vr a), some (vi v), none]) rfl ?_
  refine y_run kX5_lowestInTheWay rfl ?_
  exact s_way hs hv hE hT (fun z hz => ⟨⟨z, rfl, hz⟩, rfl, rfl⟩) 24 0 (by omega) (by omega) (fun b b0 b1 => absurd b1 (by omega))
/-- the looks of a box all 0 -/
def lk0 (K : Nat → Int) (v : Int) : Nat → Int := upZ (upZ (upZ (upZ K (v * 4).toNat 0) (v * 4 + 1).toNat 0) (v * 4 + 2).toNat 0) (v * 4 + 3).toNat 0
theorem c_Ssettle {a : Nat} {t v : Int} {E K R T : Nat → Int} (hs : SC h a t E K R T) (h1 : 0 ≤ v) (h2 : v < 24) : YM l G mX5_settle 2 0 0 [vr a, vi v] h n (fun r h' n' => r = none ∧ SC h' a (if tbt t v.toNat then t else yor t (yshl 1 v)) (cpZ T E 0 (v * 6).toNat 6) (if tbt t v.toNat then K else lk0 K v) R T ∧ (∀ q, q < a ∨ a + 5 ≤ q → h' q = h q) ∧ n' = n) := by
  refine YM.of kX5_settle (Nat.le_of_ble_eq_true rfl) (L0 := [some (vr a), some (vi v)]) rfl ?_
  refine y_run kX5_settle rfl ?_
  refine y_cv kX5_settle kX5_has 1 (rest := []) rfl hs.1 (by decide +kernel) (c_Shas hs (v := v) ⟨by omega, by omega⟩) rfl rfl ?_
  rintro r h' n' ⟨rfl, rfl, rfl⟩
  refine y_if_ne kX5_settle rfl rfl (fun c1 => ?_) (fun c1 => ?_) (by split <;> omega) (by split <;> omega)
  · have hb : tbt t v.toNat = true := by
      by_cases c : (0 ≤ v ∧ v < 24) ∧ tbt t v.toNat = true
      · exact c.2
      · rw [if_neg c] at c1; omega
    refine y_run kX5_settle rfl ?_
    refine y_get kX5_settle rfl rfl hs.1 rfl ?_
    refine y_run kX5_settle rfl ?_
    refine y_get kX5_settle rfl rfl hs.1 rfl ?_
    refine y_run kX5_settle rfl ?_
    refine y_copy kX5_settle rfl (by decide +kernel) hs.2.2.2.2 hs.2.1 (by omega) (by omega) (by omega) (by omega) (by omega) (by omega) (by omega) ?_
    refine y_vr kX5_settle rfl rfl ⟨rfl, ?_, fun q hq => yup_ne _ _ (by omega), rfl⟩
    rw [if_pos hb, if_pos hb]
    exact hs.up1 _
  · have hb : ¬ tbt t v.toNat = true := fun q => by
      rw [if_pos ⟨⟨h1, h2⟩, q⟩] at c1
      omega
    refine y_run kX5_settle rfl ?_
    refine y_cv kX5_settle kX5_setLooks 5 (rest := []) rfl hs.1 (by decide +kernel) (c_SsetLooks hs (v := v) (c := 0) (p := 0) (q := 0) (u := 0) h1 h2) rfl rfl ?_
    rintro r h' n' ⟨rfl, rfl, rfl⟩
    have hs2 := hs.up2 (lk0 K v)
    refine y_run kX5_settle rfl ?_
    refine y_get kX5_settle rfl rfl hs2.1 rfl ?_
    refine y_run kX5_settle rfl ?_
    refine y_put kX5_settle rfl rfl hs2.1 rfl rfl rfl ?_
    have hs3 := hs2.up0 (yor t (yshl 1 v))
    refine y_run kX5_settle rfl ?_
    refine y_get kX5_settle rfl rfl hs3.1 rfl ?_
    refine y_run kX5_settle rfl ?_
    refine y_get kX5_settle rfl rfl hs3.1 rfl ?_
    refine y_run kX5_settle rfl ?_
    refine y_copy kX5_settle rfl (by decide +kernel) hs3.2.2.2.2 hs3.2.1 (by omega) (by omega) (by omega) (by omega) (by omega) (by omega) (by omega) ?_
    refine y_vr kX5_settle rfl rfl ⟨rfl, ?_, fun q hq => ?_, rfl⟩
    · rw [if_neg hb, if_neg hb]
      exact hs3.up1 _
    · exact (yup_ne _ _ (by omega)).trans ((yup_ne _ _ (by omega)).trans (yup_ne _ _ (by omega)))
end C6
end
section
/-- the ends, box v moved by e along axis x -/
def shE (E : Nat → Int) (v x e : Int) : Nat → Int := fun j => if (j : Int) = v * 6 + 2 * x ∨ (j : Int) = v * 6 + 2 * x + 1 then E j + e else E j
def shT (E : Nat → Int) (v x e : Int) : Nat → Int := fun j => shE E v x e ((v * 6).toNat + j)
/-- box v, moved by e along axis x, lies in the room and shares room with none -/
def goOK (t : Int) (E : Nat → Int) (v x e : Int) : Prop := 0 ≤ E (v * 6 + 2 * x).toNat + e ∧ E (v * 6 + 2 * x + 1).toNat + e ≤ 32 ∧ ∀ b, 0 ≤ b → b < 24 → ¬ wayP t E (shT E v x e) v b
theorem ovl_congr {E E' T T' : Nat → Int} {b j : Int} (hb : 0 ≤ b) (hb2 : b < 24) (hj : 0 ≤ j) (hj2 : j < 3) (hE : ∀ k : Nat, b * 6 ≤ k → (k : Int) < b * 6 + 6 → E k = E' k) (hT : ∀ k : Nat, k < 6 → T k = T' k) : ovl E T b j ↔ ovl E' T' b j := by
  unfold ovl
  rw [hT (2 * j).toNat (by omega), hT (2 * j + 1).toNat (by omega), hE (b * 6 + 2 * j).toNat (by omega) (by omega), hE (b * 6 + 2 * j + 1).toNat (by omega) (by omega)]
theorem wayP_congr {t v b : Int} {E E' T T' : Nat → Int} (hb : 0 ≤ b) (hb2 : b < 24) (hE : b ≠ v → ∀ k : Nat, b * 6 ≤ k → (k : Int) < b * 6 + 6 → E k = E' k) (hT : ∀ k : Nat, k < 6 → T k = T' k) : wayP t E T v b ↔ wayP t E' T' v b := by
  unfold wayP
  constructor
  · rintro ⟨q1, q2, q3⟩
    exact ⟨q1, q2, fun j j0 j1 => (ovl_congr hb hb2 j0 j1 (hE q1) hT).mp (q3 j j0 j1)⟩
  · rintro ⟨q1, q2, q3⟩
    exact ⟨q1, q2, fun j j0 j1 => (ovl_congr hb hb2 j0 j1 (hE q1) hT).mpr (q3 j j0 j1)⟩
theorem shE_off {E : Nat → Int} {v x e : Int} {k : Nat} (h0 : 0 ≤ x) (h1 : x < 3) (hk : (k : Int) < v * 6 ∨ v * 6 + 6 ≤ k) : shE E v x e k = E k := by
  unfold shE
  rw [if_neg (by omega)]
theorem shE_cp {E T : Nat → Int} {v x e e' : Int} (hv : 0 ≤ v) (h0 : 0 ≤ x) (h1 : x < 3) (hT : ∀ k : Nat, k < 6 → T k = shT E v x e' k) : cpZ T (shE E v x e) 0 (v * 6).toNat 6 = shE E v x e' := by
  funext j
  unfold cpZ
  by_cases c : (v * 6).toNat ≤ j ∧ j < (v * 6).toNat + 6
  · rw [if_pos c, hT _ (by omega)]
    unfold shT
    rw [show (v * 6).toNat + (0 + (j - (v * 6).toNat)) = j by omega]
  · rw [if_neg c, shE_off h0 h1 (by omega), shE_off h0 h1 (by omega)]
section C7
variable {l : Launch} {G : xG} {n : Nat}
set_option maxHeartbeats 1000000 in
theorem s_go {Φ : Option xV → yH → Nat → Prop} {h0 : yH} {a : Nat} {t v x s M : Int} {E K R : Nat → Int} (hv1 : 0 ≤ v) (hv2 : v < 24) (hx1 : 0 ≤ x) (hx2 : x < 3) (hs : s = 1 ∨ s = -1) (hM2 : M ≤ 32) (hb : tbt t v.toNat = true) (hE : ∀ j, 0 ≤ E j ∧ E j ≤ 32) (hwd : E (v * 6 + 2 * x).toNat ≤ E (v * 6 + 2 * x + 1).toNat)
    (hΦ : ∀ (w : Int) (h' : yH) (T' : Nat → Int), 0 ≤ w → w ≤ M → (∀ i, 1 ≤ i → i ≤ w → goOK t E v x (s * i)) → (w = M ∨ ¬ goOK t E v x (s * (w + 1))) → SC h' a t (shE E v x (s * w)) K R T' → (∀ j, -1 ≤ T' j ∧ T' j ≤ 33) → (∀ q, q < a ∨ a + 5 ≤ q → h' q = h0 q) → Φ (some (vi w)) h' n) :
    ∀ (m : Nat) (k : Int) (T : Nat → Int) (h : yH) (u : Option xV), k = M - (m : Int) → 0 ≤ k → (∀ i, 1 ≤ i → i ≤ k → goOK t E v x (s * i)) → (∀ j, 0 ≤ shE E v x (s * k) j ∧ shE E v x (s * k) j ≤ 32) → (∀ j : Nat, j < 6 → T j = shT E v x (s * k) j) → (∀ j, -1 ≤ T j ∧ T j ≤ 33) → SC h a t (shE E v x (s * k)) K R T → (∀ q, q < a ∨ a + 5 ≤ q → h q = h0 q) →
      YW l G mX5_go 3 0 0 Φ 21 [some (vr a), some (vi v), some (vi x), some (vi s), some (vi M), some (vi k), u] [] h n := by
  intro m
  induction m with
  | zero =>
    intro k T h u hk hk0 hok hEk hTk hT hsc hfr
    have e : k = M := by omega
    subst e
    refine y_run kX5_go rfl ?_
    refine y_ic_ge kX5_go rfl rfl (fun c1 => ?_) (fun c1 => absurd c1 (by omega))
    refine y_run kX5_go rfl ?_
    exact y_ir kX5_go rfl rfl (hΦ k h T hk0 (by omega) hok (Or.inl rfl) hsc hT hfr)
  | succ m ih =>
    intro k T h u hk hk0 hok hEk hTk hT hsc hfr
    have hstep : s * (k + 1) = s * k + s := by rw [Int.mul_add, Int.mul_one]
    generalize he : s * k = e at *
    have hs1 : -1 ≤ s ∧ s ≤ 1 := by rcases hs with rfl | rfl <;> omega
    have q0 : T (2 * x).toNat = E (v * 6 + 2 * x).toNat + e := by
      rw [hTk _ (by omega)]
      unfold shT shE
      rw [if_pos (by omega), show (v * 6).toNat + (2 * x).toNat = (v * 6 + 2 * x).toNat by omega]
    have q1 : T (2 * x + 1).toNat = E (v * 6 + 2 * x + 1).toNat + e := by
      rw [hTk _ (by omega)]
      unfold shT shE
      rw [if_pos (by omega), show (v * 6).toNat + (2 * x + 1).toNat = (v * 6 + 2 * x + 1).toNat by omega]
    obtain ⟨b1, b2⟩ := hT (2 * x).toNat
    obtain ⟨b3, b4⟩ := hT (2 * x + 1).toNat
    have hE1 := hEk (v * 6 + 2 * x).toNat
    have hE2 := hEk (v * 6 + 2 * x + 1).toNat
    have f1 : shE E v x e (v * 6 + 2 * x).toNat = E (v * 6 + 2 * x).toNat + e := by unfold shE; rw [if_pos (by omega)]
    have f2 : shE E v x e (v * 6 + 2 * x + 1).toNat = E (v * 6 + 2 * x + 1).toNat + e := by unfold shE; rw [if_pos (by omega)]
    rw [f1] at hE1
    rw [f2] at hE2
    obtain ⟨T2, hT2⟩ : ∃ T2 : Nat → Int, T2 = upZ (upZ T (2 * x).toNat (T (2 * x).toNat + s)) (2 * x + 1).toNat (upZ T (2 * x).toNat (T (2 * x).toNat + s) (2 * x + 1).toNat + s) := ⟨_, rfl⟩
    have g0 : T2 (2 * x).toNat = E (v * 6 + 2 * x).toNat + (e + s) := by
      rw [hT2]
      unfold upZ
      rw [if_neg (by omega), if_pos rfl]
      omega
    have g1 : T2 (2 * x + 1).toNat = E (v * 6 + 2 * x + 1).toNat + (e + s) := by
      rw [hT2]
      unfold upZ
      rw [if_pos rfl, if_neg (by omega)]
      omega
    have g2 : ∀ j, j ≠ (2 * x).toNat → j ≠ (2 * x + 1).toNat → T2 j = T j := fun j j1 j2 => by
      rw [hT2]
      unfold upZ
      rw [if_neg j2, if_neg j1]
    have hT2b : ∀ j, -1 ≤ T2 j ∧ T2 j ≤ 33 := fun j => by
      by_cases c1 : j = (2 * x).toNat
      · rw [c1, g0]; omega
      · by_cases c2 : j = (2 * x + 1).toNat
        · rw [c2, g1]; omega
        · rw [g2 j c1 c2]; exact hT j
    have hT2k : ∀ j : Nat, j < 6 → T2 j = shT E v x (e + s) j := fun j hj => by
      by_cases c1 : j = (2 * x).toNat
      · rw [c1, g0]
        unfold shT shE
        rw [if_pos (by omega), show (v * 6).toNat + (2 * x).toNat = (v * 6 + 2 * x).toNat by omega]
      · by_cases c2 : j = (2 * x + 1).toNat
        · rw [c2, g1]
          unfold shT shE
          rw [if_pos (by omega), show (v * 6).toNat + (2 * x + 1).toNat = (v * 6 + 2 * x + 1).toNat by omega]
        · rw [g2 j c1 c2, hTk j hj]
          unfold shT shE
          rw [if_neg (by omega), if_neg (by omega)]
    have hsc2 : SC (yup h (a + 4) (ai 6 T2)) a t (shE E v x e) K R T2 := hsc.up4 T2
    have hfr2 : ∀ q, q < a ∨ a + 5 ≤ q → yup h (a + 4) (ai 6 T2) q = h0 q := fun q hq => (yup_ne _ _ (by omega)).trans (hfr q hq)
    have hway : ∀ b, 0 ≤ b → b < 24 → (wayP t (shE E v x e) T2 v b ↔ wayP t E (shT E v x (e + s)) v b) := fun b b0 b1 => wayP_congr b0 b1 (fun hne k k0 k1 => shE_off hx1 hx2 (by omega)) hT2k
    have stop : ¬ goOK t E v x (e + s) → Φ (some (vi k)) (yup h (a + 4) (ai 6 T2)) n := fun q => hΦ k _ T2 hk0 (by omega) hok (Or.inr (by rw [hstep]; exact q)) (by rw [he]; exact hsc2) hT2b hfr2
    obtain ⟨hs0, hse, hsk, hsr, hst⟩ := hsc
    refine y_run kX5_go rfl ?_
    refine y_ic_ge kX5_go rfl rfl (fun c1 => absurd c1 (by omega)) (fun c1 => ?_)
    refine y_run kX5_go rfl ?_
    refine y_get kX5_go rfl rfl hs0 rfl ?_
    refine y_run kX5_go rfl ?_
    refine y_ia kX5_go rfl hst (by omega) (by omega) ?_
    refine y_run kX5_go rfl ?_
    refine y_is kX5_go rfl hst (by omega) (by omega) ?_
    refine y_run kX5_go rfl ?_
    refine y_get kX5_go rfl rfl ((yup_ne _ _ (by omega)).trans hs0) rfl ?_
    refine y_run kX5_go rfl ?_
    refine y_ia kX5_go rfl (yup_eq _ _ _) (by omega) (by omega) ?_
    refine y_run kX5_go rfl ?_
    refine y_is2 kX5_go rfl (by omega) (by omega) ?_
    rw [← hT2]
    refine y_run kX5_go rfl ?_
    refine y_get kX5_go rfl rfl hsc2.1 rfl ?_
    refine y_run kX5_go rfl ?_
    refine y_ie kX5_go rfl (yup_eq _ _ _) (by omega) (by omega) g0 ?_
    refine y_if_lt kX5_go rfl rfl (fun c2 => ?_) (fun c2 => ?_)
    · refine y_run kX5_go rfl ?_
      refine y_if_eq kX5_go rfl rfl (fun c3 => ?_) (fun c3 => absurd rfl c3)
      refine y_run kX5_go rfl ?_
      exact y_ir kX5_go rfl rfl (stop (fun q => absurd q.1 (by omega)))
    · refine y_run kX5_go rfl ?_
      refine y_get kX5_go rfl rfl hsc2.1 rfl ?_
      refine y_run kX5_go rfl ?_
      refine y_ie kX5_go rfl (yup_eq _ _ _) (by omega) (by omega) g1 ?_
      refine y_run kX5_go rfl ?_
      refine y_ic_gt kX5_go rfl rfl (fun c4 => ?_) (fun c4 => ?_)
      · refine y_run kX5_go rfl ?_
        refine y_if_eq kX5_go rfl rfl (fun c5 => ?_) (fun c5 => absurd rfl c5)
        refine y_run kX5_go rfl ?_
        exact y_ir kX5_go rfl rfl (stop (fun q => absurd q.2.1 (by omega)))
      · refine y_run kX5_go rfl ?_
        refine y_if_eq kX5_go rfl rfl (fun c6 => absurd c6 (by omega)) (fun c6 => ?_)
        refine y_run kX5_go rfl ?_
        refine y_cv kX5_go kX5_lowestInTheWay 1 (rest := []) rfl hsc2.1 (by decide +kernel) (c_Slowest hsc2 (v := v) ⟨by omega, by omega⟩ (fun j => ⟨by have := hEk j; omega, by have := hEk j; omega⟩) (fun j => ⟨by have := hT2b j; omega, by have := hT2b j; omega⟩)) rfl rfl ?_
        rintro r h' n' ⟨⟨z, rfl, hz⟩, rfl, rfl⟩
        refine y_run kX5_go rfl ?_
        have hzb : -1 ≤ z ∧ z < 24 := by rcases hz with ⟨a1, a2, -⟩ | ⟨a1, -⟩ <;> omega
        refine y_ic_eq kX5_go rfl rfl (fun c7 => ?_) (fun c7 => ?_)
        · have hnone : ∀ b, 0 ≤ b → b < 24 → ¬ wayP t (shE E v x e) T2 v b := by
            rcases hz with ⟨a1, -⟩ | ⟨-, a2⟩
            · omega
            · exact a2
          have hgo : goOK t E v x (e + s) := ⟨by omega, by omega, fun b b0 b1 q => hnone b b0 b1 ((hway b b0 b1).mpr q)⟩
          refine y_run kX5_go rfl ?_
          refine y_cv kX5_go kX5_settle 1 (rest := []) rfl hsc2.1 (by decide +kernel) (c_Ssettle hsc2 hv1 hv2) rfl rfl ?_
          rintro r h' n' ⟨rfl, hsc3, hfr3, rfl⟩
          rw [if_pos hb, if_pos hb, shE_cp hv1 hx1 hx2 hT2k] at hsc3
          refine y_run kX5_go rfl ?_
          refine ih (k + 1) T2 h' _ (by omega) (by omega) (fun i i1 i2 => ?_) ?_ ?_ hT2b ?_ (fun q hq => (hfr3 q hq).trans (hfr2 q hq))
          · by_cases c : i = k + 1
            · rw [c, hstep]; exact hgo
            · exact hok i i1 (by omega)
          · intro j
            rw [hstep]
            unfold shE
            by_cases c : (j : Int) = v * 6 + 2 * x ∨ (j : Int) = v * 6 + 2 * x + 1
            · rw [if_pos c]
              rcases c with c | c
              · rw [show j = (v * 6 + 2 * x).toNat by omega]; omega
              · rw [show j = (v * 6 + 2 * x + 1).toNat by omega]; omega
            · rw [if_neg c]; exact hE j
          · rw [hstep]; exact hT2k
          · rw [hstep]; exact hsc3
        · have hsome : ¬ goOK t E v x (e + s) := fun q => by
            rcases hz with ⟨a1, a2, a3, -⟩ | ⟨a1, -⟩
            · exact q.2.2 z a1 a2 ((hway z a1 a2).mp a3)
            · omega
          refine y_run kX5_go rfl ?_
          exact y_ir kX5_go rfl rfl (stop hsome)
end C7
section C8
variable {l : Launch} {G : xG} {h : yH} {n : Nat}
theorem shE_0 (E : Nat → Int) (v x : Int) : shE E v x 0 = E := by
  funext j
  unfold shE
  split <;> omega
theorem c_Sgo {a : Nat} {t v x s M : Int} {E K R T : Nat → Int} (hsc : SC h a t E K R T) (hv1 : 0 ≤ v) (hv2 : v < 24) (hx1 : 0 ≤ x) (hx2 : x < 3) (hs : s = 1 ∨ s = -1) (hM1 : 0 ≤ M) (hM2 : M ≤ 32) (hb : tbt t v.toNat = true) (hE : ∀ j, 0 ≤ E j ∧ E j ≤ 32) (hwd : E (v * 6 + 2 * x).toNat ≤ E (v * 6 + 2 * x + 1).toNat) (hT : ∀ j, -1 ≤ T j ∧ T j ≤ 33) :
    YM l G mX5_go 3 0 0 [vr a, vi v, vi x, vi s, vi M] h n (fun r h' n' => ∃ (w : Int) (T' : Nat → Int), r = some (vi w) ∧ 0 ≤ w ∧ w ≤ M ∧ (∀ i, 1 ≤ i → i ≤ w → goOK t E v x (s * i)) ∧ (w = M ∨ ¬ goOK t E v x (s * (w + 1))) ∧ SC h' a t (shE E v x (s * w)) K R T' ∧ (∀ j, -1 ≤ T' j ∧ T' j ≤ 33) ∧ (∀ q, q < a ∨ a + 5 ≤ q → h' q = h q) ∧ n' = n) := by
  refine YM.of kX5_go (Nat.le_of_ble_eq_true rfl) (L0 := [some (vr a), some (vi v), some (vi x), some (vi s), some (vi M), none, none]) rfl ?_
  refine y_run kX5_go rfl ?_
  refine y_get kX5_go rfl rfl hsc.1 rfl ?_
  refine y_run kX5_go rfl ?_
  refine y_get kX5_go rfl rfl hsc.1 rfl ?_
  refine y_run kX5_go rfl ?_
  refine y_copy kX5_go rfl (by decide +kernel) hsc.2.1 hsc.2.2.2.2 (by omega) (by omega) (by omega) (by omega) (by omega) (by omega) (by omega) ?_
  refine y_run kX5_go rfl ?_
  have hcp : ∀ j : Nat, j < 6 → cpZ E T (v * 6).toNat 0 6 j = E ((v * 6).toNat + j) := fun j hj => by
    unfold cpZ
    rw [if_pos (by omega)]
    congr 1
  refine s_go (h0 := h) hv1 hv2 hx1 hx2 hs hM2 hb hE hwd (fun w h' T' a1 a2 a3 a4 a5 a6 a7 => ⟨w, T', rfl, a1, a2, a3, a4, a5, a6, a7, rfl⟩) M.toNat 0 (cpZ E T (v * 6).toNat 0 6) _ none (by omega) (by omega) (fun i i1 i2 => absurd i2 (by omega)) ?_ ?_ ?_ ?_ (fun q hq => yup_ne _ _ (by omega))
  · rw [Int.mul_zero, shE_0]; exact hE
  · intro j hj
    rw [hcp j hj, Int.mul_zero]
    unfold shT
    rw [shE_0]
  · intro j
    by_cases c : j < 6
    · rw [hcp j c]; have := hE ((v * 6).toNat + j); omega
    · unfold cpZ
      rw [if_neg (by omega)]
      exact hT j
  · rw [Int.mul_zero, shE_0]
    exact hsc.up4 _
end C8
end
section
theorem iI_tn (x : Int) : (iI x).toBitVec.toNat = (x % 4294967296).toNat := by
  show (BitVec.ofInt 32 x).toNat = _
  rw [BitVec.toNat_ofInt]
  rfl
theorem yand_mask (x : Int) (k : Nat) (hk : k ≤ 30) : yand x (2 ^ k - 1) = x % 2 ^ k := by
  have hp : (2 : Int) ^ k ≤ 2 ^ 30 := by
    have := Nat.pow_le_pow_right (n := 2) (by omega) hk
    have h2 : ((2 ^ k : Nat) : Int) ≤ ((2 ^ 30 : Nat) : Int) := by exact_mod_cast this
    simpa using h2
  have hp0 : (0 : Int) < 2 ^ k := Int.pow_pos (by omega)
  have hm : (iI (2 ^ k - 1)).toBitVec.toNat = 2 ^ k - 1 := by
    rw [iI_tn, Int.emod_eq_of_lt (by omega) (by omega)]
    have : ((2 ^ k : Nat) : Int) = (2 : Int) ^ k := by simp
    omega
  unfold yand
  rw [pk_and (iI x) k hm, nI_toInt, iI_tn]
  · have e : ((2 ^ k : Nat) : Int) = (2 : Int) ^ k := by simp
    have h3 : ((x % 4294967296).toNat : Int) = x % 4294967296 := Int.toNat_of_nonneg (Int.emod_nonneg _ (by omega))
    rw [Int.natCast_emod, h3, e]
    apply Int.emod_emod_of_dvd
    have : (4294967296 : Int) = 2 ^ k * 2 ^ (32 - k) := by
      rw [← Int.pow_add, show k + (32 - k) = 32 by omega]
      rfl
    exact ⟨_, this⟩
  · have := Nat.mod_lt (iI x).toBitVec.toNat (show 0 < 2 ^ k from Nat.pow_pos (by omega))
    have h4 := Nat.pow_le_pow_right (n := 2) (by omega) hk
    omega
theorem yand_7 (x : Int) : yand x 7 = x % 8 := yand_mask x 3 (by omega)
theorem yand_3 (x : Int) : yand x 3 = x % 4 := yand_mask x 2 (by omega)
theorem yand_1 (x : Int) : yand x 1 = x % 2 := yand_mask x 1 (by omega)
theorem yand_31 (x : Int) : yand x 31 = x % 32 := yand_mask x 5 (by omega)
theorem yand_63 (x : Int) : yand x 63 = x % 64 := yand_mask x 6 (by omega)
theorem yand_65535 (x : Int) : yand x 65535 = x % 65536 := yand_mask x 16 (by omega)
theorem yshr_div {x : Int} (h1 : -2147483648 ≤ x) (h2 : x < 2147483648) {k : Int} (hk0 : 0 ≤ k) (hk : k < 32) : yshr x k = x / 2 ^ k.toNat := by
  obtain ⟨j, hj, rfl⟩ := nat_of hk0 hk
  unfold yshr
  rw [pk_shr (iI x) (iI (j : Int) &&& 31) j (s32 j hj), iI_toInt h1 h2, Int.shiftRight_eq_div_pow, Int.toNat_natCast]
  simp
theorem yshr_2 {x : Int} (h1 : -2147483648 ≤ x) (h2 : x < 2147483648) : yshr x 2 = x / 4 := yshr_div h1 h2 (by omega) (by omega)
section C9
variable {l : Launch} {G : xG} {h : yH} {n : Nat}
theorem c_Rwh {q : Int} (h1 : -2147483648 ≤ q) (h2 : q < 2147483648) : YM l G mX4_wholeInSprite 0 0 0 [vi q] h n (fun r h' n' => r = some (vi (q / 4 % 8)) ∧ h' = h ∧ n' = n) := by
  have := c_Rwhole (l := l) (G := G) (h := h) (n := n) (q := q)
  rw [yand_7, yshr_2 h1 h2] at this
  exact this
theorem c_RspotRow {a : Nat} {r0 r1 e f : Int} (ha : h a = some (ob 4 [vi r0, vi r1, vi e, vi f])) (h0 : sm r0) (h1 : sm r1) (h2 : sm e) (h3 : sm f) : YM l G mX4_spotRow 1 0 0 [vr a] h n (fun r h' n' => r = some (vi ((if f = 2 then e + r1 else e) / 4 % 8)) ∧ h' = h ∧ n' = n) := by
  refine YM.of kX4_spotRow (Nat.le_of_ble_eq_true rfl) (L0 := [some (vr a)]) rfl ?_
  obtain ⟨_, _⟩ := h0
  obtain ⟨_, _⟩ := h1
  obtain ⟨_, _⟩ := h2
  obtain ⟨_, _⟩ := h3
  refine y_run kX4_spotRow rfl ?_
  refine y_get kX4_spotRow rfl rfl ha rfl ?_
  refine y_run kX4_spotRow rfl ?_
  refine y_ic_ne kX4_spotRow rfl rfl (fun c1 => ?_) (fun c1 => ?_)
  · refine y_run kX4_spotRow rfl ?_
    refine y_get kX4_spotRow rfl rfl ha rfl ?_
    refine y_cs kX4_spotRow kX4_wholeInSprite 1 (rest := []) rfl (by decide +kernel) (c_Rwh (by omega) (by omega)) rfl rfl ?_
    rintro r h' n' ⟨rfl, rfl, rfl⟩
    exact y_ir kX4_spotRow rfl rfl ⟨by rw [if_neg c1], rfl, rfl⟩
  · refine y_run kX4_spotRow rfl ?_
    refine y_get kX4_spotRow rfl rfl ha rfl ?_
    refine y_run kX4_spotRow rfl ?_
    refine y_get kX4_spotRow rfl rfl ha rfl ?_
    refine y_run kX4_spotRow rfl ?_
    refine y_cs kX4_spotRow kX4_wholeInSprite 1 (rest := []) rfl (by decide +kernel) (c_Rwh (by omega) (by omega)) rfl rfl ?_
    rintro r h' n' ⟨rfl, rfl, rfl⟩
    exact y_ir kX4_spotRow rfl rfl ⟨by rw [if_pos c1], rfl, rfl⟩
theorem c_RspotPlace {a : Nat} {r0 r1 e f : Int} (ha : h a = some (ob 4 [vi r0, vi r1, vi e, vi f])) (h0 : sm r0) (h1 : sm r1) (h2 : sm e) (h3 : sm f) : YM l G mX4_spotPlace 1 0 0 [vr a] h n (fun r h' n' => r = some (vi ((if f = 0 then e + r1 else e + r0) / 4 % 8)) ∧ h' = h ∧ n' = n) := by
  refine YM.of kX4_spotPlace (Nat.le_of_ble_eq_true rfl) (L0 := [some (vr a)]) rfl ?_
  obtain ⟨_, _⟩ := h0
  obtain ⟨_, _⟩ := h1
  obtain ⟨_, _⟩ := h2
  obtain ⟨_, _⟩ := h3
  refine y_run kX4_spotPlace rfl ?_
  refine y_get kX4_spotPlace rfl rfl ha rfl ?_
  refine y_if_ne kX4_spotPlace rfl rfl (fun c1 => ?_) (fun c1 => ?_)
  · refine y_run kX4_spotPlace rfl ?_
    refine y_get kX4_spotPlace rfl rfl ha rfl ?_
    refine y_run kX4_spotPlace rfl ?_
    refine y_get kX4_spotPlace rfl rfl ha rfl ?_
    refine y_run kX4_spotPlace rfl ?_
    refine y_cs kX4_spotPlace kX4_wholeInSprite 1 (rest := []) rfl (by decide +kernel) (c_Rwh (by omega) (by omega)) rfl rfl ?_
    rintro r h' n' ⟨rfl, rfl, rfl⟩
    exact y_ir kX4_spotPlace rfl rfl ⟨by rw [if_neg c1], rfl, rfl⟩
  · refine y_run kX4_spotPlace rfl ?_
    refine y_get kX4_spotPlace rfl rfl ha rfl ?_
    refine y_run kX4_spotPlace rfl ?_
    refine y_get kX4_spotPlace rfl rfl ha rfl ?_
    refine y_run kX4_spotPlace rfl ?_
    refine y_cs kX4_spotPlace kX4_wholeInSprite 1 (rest := []) rfl (by decide +kernel) (c_Rwh (by omega) (by omega)) rfl rfl ?_
    rintro r h' n' ⟨rfl, rfl, rfl⟩
    exact y_ir kX4_spotPlace rfl rfl ⟨by rw [if_pos c1], rfl, rfl⟩
theorem c_ScopyFrom {a b : Nat} {t t2 : Int} {E K R T E2 K2 R2 T2 : Nat → Int} (hs : SC h a t E K R T) (hs2 : SC h b t2 E2 K2 R2 T2) (hab : a + 5 ≤ b ∨ b + 5 ≤ a) : YM l G mX5_copyFrom 1 0 0 [vr a, vr b] h n (fun r h' n' => r = none ∧ SC h' a t2 (cpZ E2 E 0 0 144) (cpZ K2 K 0 0 96) (cpZ R2 R 0 0 64) T ∧ (∀ q, q < a ∨ a + 5 ≤ q → h' q = h q) ∧ n' = n) := by
  refine YM.of kX5_copyFrom (Nat.le_of_ble_eq_true rfl) (L0 := [some (vr a), some (vr b)]) rfl ?_
  have k1 := hs.up0 t2
  have k2 := k1.up1 (cpZ E2 E 0 0 144)
  have k3 := k2.up2 (cpZ K2 K 0 0 96)
  have k4 := k3.up3 (cpZ R2 R 0 0 64)
  have q1 := hs2.frame1 (h' := yup h a (ob 5 [vi t2, vr (a + 1), vr (a + 2), vr (a + 3), vr (a + 4)])) (fun q _ _ => yup_ne _ _ (by omega))
  have q2 := q1.frame1 (h' := yup (yup h a (ob 5 [vi t2, vr (a + 1), vr (a + 2), vr (a + 3), vr (a + 4)])) (a + 1) (ai 144 (cpZ E2 E 0 0 144))) (fun q _ _ => yup_ne _ _ (by omega))
  have q3 := q2.frame1 (h' := yup (yup (yup h a (ob 5 [vi t2, vr (a + 1), vr (a + 2), vr (a + 3), vr (a + 4)])) (a + 1) (ai 144 (cpZ E2 E 0 0 144))) (a + 2) (ai 96 (cpZ K2 K 0 0 96))) (fun q _ _ => yup_ne _ _ (by omega))
  refine y_run kX5_copyFrom rfl ?_
  refine y_get kX5_copyFrom rfl rfl hs2.1 rfl ?_
  refine y_put kX5_copyFrom rfl rfl hs.1 rfl rfl rfl ?_
  refine y_run kX5_copyFrom rfl ?_
  refine y_get kX5_copyFrom rfl rfl q1.1 rfl ?_
  refine y_run kX5_copyFrom rfl ?_
  refine y_get kX5_copyFrom rfl rfl k1.1 rfl ?_
  refine y_run kX5_copyFrom rfl ?_
  refine y_get kX5_copyFrom rfl rfl k1.1 rfl ?_
  refine y_al kX5_copyFrom rfl k1.2.1 ?_
  refine y_copy kX5_copyFrom rfl (by decide +kernel) q1.2.1 k1.2.1 (by omega) (by omega) (by omega) (by omega) (by omega) (by omega) (by omega) ?_
  refine y_run kX5_copyFrom rfl ?_
  refine y_get kX5_copyFrom rfl rfl q2.1 rfl ?_
  refine y_run kX5_copyFrom rfl ?_
  refine y_get kX5_copyFrom rfl rfl k2.1 rfl ?_
  refine y_run kX5_copyFrom rfl ?_
  refine y_get kX5_copyFrom rfl rfl k2.1 rfl ?_
  refine y_al kX5_copyFrom rfl k2.2.2.1 ?_
  refine y_copy kX5_copyFrom rfl (by decide +kernel) q2.2.2.1 k2.2.2.1 (by omega) (by omega) (by omega) (by omega) (by omega) (by omega) (by omega) ?_
  refine y_run kX5_copyFrom rfl ?_
  refine y_get kX5_copyFrom rfl rfl q3.1 rfl ?_
  refine y_run kX5_copyFrom rfl ?_
  refine y_get kX5_copyFrom rfl rfl k3.1 rfl ?_
  refine y_run kX5_copyFrom rfl ?_
  refine y_get kX5_copyFrom rfl rfl k3.1 rfl ?_
  refine y_al kX5_copyFrom rfl k3.2.2.2.1 ?_
  refine y_copy kX5_copyFrom rfl (by decide +kernel) q3.2.2.2.1 k3.2.2.2.1 (by omega) (by omega) (by omega) (by omega) (by omega) (by omega) (by omega) ?_
  exact y_vr kX5_copyFrom rfl rfl ⟨rfl, k4, fun q hq => (yup_ne _ _ (by omega)).trans ((yup_ne _ _ (by omega)).trans ((yup_ne _ _ (by omega)).trans (yup_ne _ _ (by omega)))), rfl⟩
end C9
end
section
section C10
variable {l : Launch} {G : xG} {M : xM} {d kc ks : Nat} {Φ Ψ : Option xV → yH → Nat → Prop} {h : yH} {n : Nat} {pc : Nat} {L : List (Option xV)} {st rest : List xV}
/-- branches on the answer of a test -/
theorem y_beq (hM : xOK M) {P : Prop} {hP : Decidable P} {off : Int} {tgt : Nat} (hd : xat M pc = some (.ifCond .eq off, 3)) (ht : xtg M pc off = some tgt) (kt : ¬ P → YW l G M d kc ks Φ tgt L st h n) (kf : P → YW l G M d kc ks Φ (pc + 3) L st h n) : YW l G M d kc ks Φ pc L (vi (@ite _ P hP 1 0) :: st) h n := by
  by_cases c : P
  · rw [if_pos c]
    exact y_if_eq hM hd ht (fun q => absurd q (by omega)) (fun _ => kf c)
  · rw [if_neg c]
    exact y_if_eq hM hd ht (fun _ => kt c) (fun q => absurd rfl q)
theorem y_bne (hM : xOK M) {P : Prop} {hP : Decidable P} {off : Int} {tgt : Nat} (hd : xat M pc = some (.ifCond .ne off, 3)) (ht : xtg M pc off = some tgt) (kt : P → YW l G M d kc ks Φ tgt L st h n) (kf : ¬ P → YW l G M d kc ks Φ (pc + 3) L st h n) : YW l G M d kc ks Φ pc L (vi (@ite _ P hP 1 0) :: st) h n := by
  by_cases c : P
  · rw [if_pos c]
    exact y_if_ne hM hd ht (fun _ => kt c) (fun q => absurd q (by omega))
  · rw [if_neg c]
    exact y_if_ne hM hd ht (fun q => absurd rfl q) (fun _ => kf c)
end C10
def lies (f s : Int) : Prop := 0 ≤ f ∧ 0 < s ∧ s ≤ 32 ∧ f ≤ 32 - s
section C11
variable {l : Launch} {G : xG} {h : yH} {n : Nat}
theorem c_liesInRoom {f s : Int} (hf : inI f) (hs : inI s) : YM l G mX6_liesInRoom 0 0 0 [vi f, vi s] h n (fun r h' n' => ((r = some (vi 1) ∧ lies f s) ∨ (r = some (vi 0) ∧ ¬ lies f s)) ∧ h' = h ∧ n' = n) := by
  refine YM.of kX6_liesInRoom (Nat.le_of_ble_eq_true rfl) (L0 := [some (vi f), some (vi s)]) rfl ?_
  obtain ⟨_, _⟩ := hf
  obtain ⟨_, _⟩ := hs
  refine y_run kX6_liesInRoom rfl ?_
  refine y_if_lt kX6_liesInRoom rfl rfl (fun c1 => ?_) (fun c1 => ?_)
  · refine y_run kX6_liesInRoom rfl ?_
    refine y_zr kX6_liesInRoom rfl rfl (Or.inl rfl) ?_
    exact ⟨Or.inr ⟨rfl, fun q => by unfold lies at q; omega⟩, rfl, rfl⟩
  · refine y_run kX6_liesInRoom rfl ?_
    refine y_if_le kX6_liesInRoom rfl rfl (fun c2 => ?_) (fun c2 => ?_)
    · refine y_run kX6_liesInRoom rfl ?_
      refine y_zr kX6_liesInRoom rfl rfl (Or.inl rfl) ?_
      exact ⟨Or.inr ⟨rfl, fun q => by unfold lies at q; omega⟩, rfl, rfl⟩
    · refine y_run kX6_liesInRoom rfl ?_
      refine y_ic_gt kX6_liesInRoom rfl rfl (fun c3 => ?_) (fun c3 => ?_)
      · refine y_run kX6_liesInRoom rfl ?_
        refine y_zr kX6_liesInRoom rfl rfl (Or.inl rfl) ?_
        exact ⟨Or.inr ⟨rfl, fun q => by unfold lies at q; omega⟩, rfl, rfl⟩
      · refine y_run kX6_liesInRoom rfl ?_
        refine y_ic_gt kX6_liesInRoom rfl rfl (fun c4 => ?_) (fun c4 => ?_)
        · refine y_run kX6_liesInRoom rfl ?_
          refine y_zr kX6_liesInRoom rfl rfl (Or.inl rfl) ?_
          exact ⟨Or.inr ⟨rfl, fun q => by unfold lies at q; omega⟩, rfl, rfl⟩
        · refine y_run kX6_liesInRoom rfl ?_
          refine y_zr kX6_liesInRoom rfl rfl (Or.inr rfl) ?_
          exact ⟨Or.inl ⟨rfl, by omega, by omega, by omega, by omega⟩, rfl, rfl⟩
def isPx (i j : Int) : Prop := -32 ≤ i ∧ i < 32 ∧ -64 ≤ j ∧ j < 64
theorem c_isPixel {i j : Int} (hf : inI i) (hs : inI j) : YM l G mX6_isPixel 0 0 0 [vi i, vi j] h n (fun r h' n' => ((r = some (vi 1) ∧ isPx i j) ∨ (r = some (vi 0) ∧ ¬ isPx i j)) ∧ h' = h ∧ n' = n) := by
  refine YM.of kX6_isPixel (Nat.le_of_ble_eq_true rfl) (L0 := [some (vi i), some (vi j)]) rfl ?_
  obtain ⟨_, _⟩ := hf
  obtain ⟨_, _⟩ := hs
  refine y_run kX6_isPixel rfl ?_
  refine y_ic_lt kX6_isPixel rfl rfl (fun c1 => ?_) (fun c1 => ?_)
  · refine y_run kX6_isPixel rfl ?_
    refine y_zr kX6_isPixel rfl rfl (Or.inl rfl) ?_
    exact ⟨Or.inr ⟨rfl, fun q => by unfold isPx at q; omega⟩, rfl, rfl⟩
  · refine y_run kX6_isPixel rfl ?_
    refine y_ic_ge kX6_isPixel rfl rfl (fun c2 => ?_) (fun c2 => ?_)
    · refine y_run kX6_isPixel rfl ?_
      refine y_zr kX6_isPixel rfl rfl (Or.inl rfl) ?_
      exact ⟨Or.inr ⟨rfl, fun q => by unfold isPx at q; omega⟩, rfl, rfl⟩
    · refine y_run kX6_isPixel rfl ?_
      refine y_ic_lt kX6_isPixel rfl rfl (fun c3 => ?_) (fun c3 => ?_)
      · refine y_run kX6_isPixel rfl ?_
        refine y_zr kX6_isPixel rfl rfl (Or.inl rfl) ?_
        exact ⟨Or.inr ⟨rfl, fun q => by unfold isPx at q; omega⟩, rfl, rfl⟩
      · refine y_run kX6_isPixel rfl ?_
        refine y_ic_ge kX6_isPixel rfl rfl (fun c4 => ?_) (fun c4 => ?_)
        · refine y_run kX6_isPixel rfl ?_
          refine y_zr kX6_isPixel rfl rfl (Or.inl rfl) ?_
          exact ⟨Or.inr ⟨rfl, fun q => by unfold isPx at q; omega⟩, rfl, rfl⟩
        · refine y_run kX6_isPixel rfl ?_
          refine y_zr kX6_isPixel rfl rfl (Or.inr rfl) ?_
          exact ⟨Or.inl ⟨rfl, by omega, by omega, by omega, by omega⟩, rfl, rfl⟩
/-- box n is there -/
def isT (t v : Int) : Prop := (0 ≤ v ∧ v < 24) ∧ tbt t v.toNat = true
theorem c_lift {b : Nat} {t v : Int} {E K R T : Nat → Int} {fs : List xV} (hx : h b = some (ob 6 (vr (b + 1) :: fs))) (hs : SC h (b + 1) t E K R T) (hv : inI v) : YM l G mX6_lift 2 0 0 [vr b, vi v] h n (fun r h' n' => ((¬ isT t v ∧ r = some (vi 0) ∧ h' = h) ∨ (isT t v ∧ r = some (vi 1) ∧ SC h' (b + 1) (yand t (yxor (yshl 1 v) (-1))) E K R T ∧ ∀ q, q ≠ b + 1 → h' q = h q)) ∧ n' = n) := by
  refine YM.of kX6_lift (Nat.le_of_ble_eq_true rfl) (L0 := [some (vr b), some (vi v)]) rfl ?_
  refine y_run kX6_lift rfl ?_
  refine y_get kX6_lift rfl rfl hx rfl ?_
  refine y_run kX6_lift rfl ?_
  refine y_cv kX6_lift kX5_has 1 (rest := []) rfl hs.1 (by decide +kernel) (c_Shas hs hv) rfl rfl ?_
  rintro r h' n' ⟨rfl, rfl, rfl⟩
  refine y_bne kX6_lift rfl rfl (fun c => ?_) (fun c => ?_)
  · refine y_run kX6_lift rfl ?_
    refine y_get kX6_lift rfl rfl hx rfl ?_
    refine y_run kX6_lift rfl ?_
    refine y_cv kX6_lift kX5_takeAway 1 (rest := []) rfl hs.1 (by decide +kernel) (c_StakeAway hs (v := v)) rfl rfl ?_
    rintro r h' n' ⟨rfl, rfl, rfl⟩
    refine y_run kX6_lift rfl ?_
    exact y_zr kX6_lift rfl rfl (Or.inr rfl) ⟨Or.inr ⟨c, rfl, hs.up0 _, fun q hq => yup_ne _ _ hq⟩, rfl⟩
  · refine y_run kX6_lift rfl ?_
    exact y_zr kX6_lift rfl rfl (Or.inl rfl) ⟨Or.inl ⟨c, rfl, rfl⟩, rfl⟩
theorem c_ink {b : Nat} {t p r0 wd : Int} {E K R T : Nat → Int} {fs : List xV} (hx : h b = some (ob 6 (vr (b + 1) :: fs))) (hs : SC h (b + 1) t E K R T) (hp : inI p) (hr : inI r0) : YM l G mX6_ink 1 0 0 [vr b, vi p, vi r0, vi wd] h n (fun r h' n' => ((¬ ((0 ≤ p ∧ p < 8) ∧ (0 ≤ r0 ∧ r0 < 8)) ∧ r = some (vi 0) ∧ h' = h) ∨ (((0 ≤ p ∧ p < 8) ∧ (0 ≤ r0 ∧ r0 < 8)) ∧ r = some (vi 1) ∧ SC h' (b + 1) t E K (upZ R (p * 8 + r0).toNat (wd % 65536)) T ∧ ∀ q, q ≠ b + 4 → h' q = h q)) ∧ n' = n) := by
  refine YM.of kX6_ink (Nat.le_of_ble_eq_true rfl) (L0 := [some (vr b), some (vi p), some (vi r0), some (vi wd)]) rfl ?_
  have hno : ¬ ((0 ≤ p ∧ p < 8) ∧ (0 ≤ r0 ∧ r0 < 8)) → YW l (gT G) mX6_ink 1 0 0 (fun r h' n' => ((¬ ((0 ≤ p ∧ p < 8) ∧ (0 ≤ r0 ∧ r0 < 8)) ∧ r = some (vi 0) ∧ h' = h) ∨ (((0 ≤ p ∧ p < 8) ∧ (0 ≤ r0 ∧ r0 < 8)) ∧ r = some (vi 1) ∧ SC h' (b + 1) t E K (upZ R (p * 8 + r0).toNat (wd % 65536)) T ∧ ∀ q, q ≠ b + 4 → h' q = h q)) ∧ n' = n) 18 [some (vr b), some (vi p), some (vi r0), some (vi wd)] [] h n := fun c => by
    refine y_run kX6_ink rfl ?_
    exact y_zr kX6_ink rfl rfl (Or.inl rfl) ⟨Or.inl ⟨c, rfl, rfl⟩, rfl⟩
  refine y_run kX6_ink rfl ?_
  refine y_cs kX6_ink kX6_isBelow 2 (rest := []) rfl (by decide +kernel) (c_isBelow p 8 hp ⟨by omega, by omega⟩) rfl rfl ?_
  rintro r h' n' ⟨rfl, rfl, rfl⟩
  refine y_beq kX6_ink rfl rfl (fun c => hno (fun q => c q.1)) (fun c => ?_)
  refine y_run kX6_ink rfl ?_
  refine y_cs kX6_ink kX6_isBelow 2 (rest := []) rfl (by decide +kernel) (c_isBelow r0 8 hr ⟨by omega, by omega⟩) rfl rfl ?_
  rintro r h' n' ⟨rfl, rfl, rfl⟩
  refine y_bne kX6_ink rfl rfl (fun c2 => ?_) (fun c2 => hno (fun q => c2 q.2))
  refine y_run kX6_ink rfl ?_
  refine y_get kX6_ink rfl rfl hx rfl ?_
  refine y_get kX6_ink rfl rfl hs.1 rfl ?_
  refine y_run kX6_ink rfl ?_
  refine y_ldc (z := 65535) kX6_ink rfl (by decide +kernel) ?_
  refine y_run kX6_ink rfl ?_
  refine y_is kX6_ink rfl hs.2.2.2.1 (by omega) (by omega) ?_
  refine y_run kX6_ink rfl ?_
  rw [yand_65535]
  exact y_zr kX6_ink rfl rfl (Or.inr rfl) ⟨Or.inr ⟨⟨c, c2⟩, rfl, hs.up3 _, fun q hq => yup_ne _ _ (by omega)⟩, rfl⟩
theorem c_box {b : Nat} {t v wh : Int} {E K R T : Nat → Int} {fs : List xV} (hx : h b = some (ob 6 (vr (b + 1) :: fs))) (hs : SC h (b + 1) t E K R T) (hv : inI v) (hw : inI wh) : YM l G mX6_box 2 0 0 [vr b, vi v, vi wh] h n (fun r h' n' => ((isT t v ∧ ((0 ≤ wh ∧ wh < 6 ∧ r = some (vi (E (v * 6 + wh).toNat))) ∨ (6 ≤ wh ∧ wh < 10 ∧ r = some (vi (K (v * 4 + wh - 6).toNat))) ∨ (¬ (0 ≤ wh ∧ wh < 10) ∧ r = some (vi (-1))))) ∨ (¬ isT t v ∧ r = some (vi (-1)))) ∧ h' = h ∧ n' = n) := by
  obtain ⟨hw1, hw2⟩ := hw
  refine YM.of kX6_box (Nat.le_of_ble_eq_true rfl) (L0 := [some (vr b), some (vi v), some (vi wh)]) rfl ?_
  refine y_run kX6_box rfl ?_
  refine y_get kX6_box rfl rfl hx rfl ?_
  refine y_run kX6_box rfl ?_
  refine y_cv kX6_box kX5_has 1 (rest := []) rfl hs.1 (by decide +kernel) (c_Shas hs hv) rfl rfl ?_
  rintro r h' n' ⟨rfl, rfl, rfl⟩
  refine y_bne kX6_box rfl rfl (fun c => ?_) (fun c => ?_)
  · refine y_run kX6_box rfl ?_
    refine y_cs kX6_box kX6_isBelow 2 (rest := []) rfl (by decide +kernel) (c_isBelow wh 6 ⟨hw1, hw2⟩ ⟨by omega, by omega⟩) rfl rfl ?_
    rintro r h' n' ⟨rfl, rfl, rfl⟩
    refine y_beq kX6_box rfl rfl (fun c2 => ?_) (fun c2 => ?_)
    · refine y_run kX6_box rfl ?_
      by_cases cw : wh < -2147483648 + 6
      · have e : iI (wh - 6) = iI (wh - 6 + 4294967296) := by
          show Int32.ofInt _ = Int32.ofInt _
          apply Int32.toBitVec_inj.mp
          show BitVec.ofInt 32 _ = BitVec.ofInt 32 _
          apply BitVec.eq_of_toNat_eq
          rw [BitVec.toNat_ofInt, BitVec.toNat_ofInt]
          congr 1
          omega
        have hX := c_isBelow (l := l) (G := gT G) (h := h') (n := n') (wh - 6 + 4294967296) 4 ⟨by omega, by omega⟩ ⟨by omega, by omega⟩
        have hX2 : YM l (gT G) mX6_isBelow 0 0 0 [vi (wh - 6), vi 4] h' n' (fun r g m => r = some (vi 0) ∧ g = h' ∧ m = n') := by
          unfold YM mS at hX ⊢
          simp only [List.map_cons, List.map_nil, den] at hX ⊢
          rw [e]
          rw [if_neg (by omega)] at hX
          exact hX
        refine y_cs kX6_box kX6_isBelow 2 (rest := []) rfl (by decide +kernel) hX2 rfl rfl ?_
        rintro r g m ⟨rfl, rfl, rfl⟩
        refine y_if_eq kX6_box rfl rfl (fun _ => ?_) (fun q => absurd rfl q)
        refine y_run kX6_box rfl ?_
        exact y_ir kX6_box rfl rfl ⟨Or.inl ⟨c, Or.inr (Or.inr ⟨by omega, rfl⟩)⟩, rfl, rfl⟩
      · refine y_cs kX6_box kX6_isBelow 2 (rest := []) rfl (by decide +kernel) (c_isBelow (wh - 6) 4 ⟨by omega, by omega⟩ ⟨by omega, by omega⟩) rfl rfl ?_
        rintro r g m ⟨rfl, rfl, rfl⟩
        refine y_beq kX6_box rfl rfl (fun c3 => ?_) (fun c3 => ?_)
        · refine y_run kX6_box rfl ?_
          exact y_ir kX6_box rfl rfl ⟨Or.inl ⟨c, Or.inr (Or.inr ⟨by omega, rfl⟩)⟩, rfl, rfl⟩
        · have c1 := c.1
          refine y_run kX6_box rfl ?_
          refine y_get kX6_box rfl rfl hx rfl ?_
          refine y_get kX6_box rfl rfl hs.1 rfl ?_
          refine y_run kX6_box rfl ?_
          refine y_ia kX6_box rfl hs.2.2.1 (by omega) (by omega) ?_
          refine y_run kX6_box rfl ?_
          exact y_ir kX6_box rfl rfl ⟨Or.inl ⟨c, Or.inr (Or.inl ⟨by omega, by omega, rfl⟩)⟩, rfl, rfl⟩
    · have c1 := c.1
      refine y_run kX6_box rfl ?_
      refine y_get kX6_box rfl rfl hx rfl ?_
      refine y_get kX6_box rfl rfl hs.1 rfl ?_
      refine y_run kX6_box rfl ?_
      refine y_ia kX6_box rfl hs.2.1 (by omega) (by omega) ?_
      exact y_ir kX6_box rfl rfl ⟨Or.inl ⟨c, Or.inl ⟨by omega, by omega, rfl⟩⟩, rfl, rfl⟩
  · refine y_run kX6_box rfl ?_
    exact y_ir kX6_box rfl rfl ⟨Or.inr ⟨c, rfl⟩, rfl, rfl⟩
end C11
end
section
section C12
variable {l : Launch} {G : xG} {h : yH} {n : Nat}
def pnt (t v c p q u : Int) : Prop := isT t v ∧ (0 ≤ c ∧ c < 16) ∧ (0 ≤ p ∧ p < 8) ∧ (0 ≤ q ∧ q < 8) ∧ (0 ≤ u ∧ u < 8)
def lkS (K : Nat → Int) (v c p q u : Int) : Nat → Int := upZ (upZ (upZ (upZ K (v * 4).toNat c) (v * 4 + 1).toNat p) (v * 4 + 2).toNat q) (v * 4 + 3).toNat u
theorem c_paint {b : Nat} {t v c p q u : Int} {E K R T : Nat → Int} {fs : List xV} (hx : h b = some (ob 6 (vr (b + 1) :: fs))) (hs : SC h (b + 1) t E K R T) (hv : inI v) (hc : inI c) (hp : inI p) (hq : inI q) (hu : inI u) : YM l G mX6_paint 2 0 0 [vr b, vi v, vi c, vi p, vi q, vi u] h n (fun r h' n' => ((¬ pnt t v c p q u ∧ r = some (vi 0) ∧ h' = h) ∨ (pnt t v c p q u ∧ r = some (vi 1) ∧ SC h' (b + 1) t E (lkS K v c p q u) R T ∧ ∀ z, z ≠ b + 3 → h' z = h z)) ∧ n' = n) := by
  refine YM.of kX6_paint (Nat.le_of_ble_eq_true rfl) (L0 := [some (vr b), some (vi v), some (vi c), some (vi p), some (vi q), some (vi u), none]) rfl ?_
  have tail : ∀ z : Int, ((z = 1 ∧ ((0 ≤ c ∧ c < 16) ∧ (0 ≤ p ∧ p < 8) ∧ (0 ≤ q ∧ q < 8) ∧ (0 ≤ u ∧ u < 8))) ∨ (z = 0 ∧ ¬ ((0 ≤ c ∧ c < 16) ∧ (0 ≤ p ∧ p < 8) ∧ (0 ≤ q ∧ q < 8) ∧ (0 ≤ u ∧ u < 8)))) → YW l (gT G) mX6_paint 2 0 0 (fun r h' n' => ((¬ pnt t v c p q u ∧ r = some (vi 0) ∧ h' = h) ∨ (pnt t v c p q u ∧ r = some (vi 1) ∧ SC h' (b + 1) t E (lkS K v c p q u) R T ∧ ∀ z, z ≠ b + 3 → h' z = h z)) ∧ n' = n) 46 [some (vr b), some (vi v), some (vi c), some (vi p), some (vi q), some (vi u), some (vi z)] [vr b] h n := by
    intro z hz
    refine y_get kX6_paint rfl rfl hx rfl ?_
    refine y_run kX6_paint rfl ?_
    refine y_cv kX6_paint kX5_has 1 (rest := []) rfl hs.1 (by decide +kernel) (c_Shas hs hv) rfl rfl ?_
    rintro r h' n' ⟨rfl, rfl, rfl⟩
    refine y_beq kX6_paint rfl rfl (fun c1 => ?_) (fun c1 => ?_)
    · refine y_run kX6_paint rfl ?_
      exact y_zr kX6_paint rfl rfl (Or.inl rfl) ⟨Or.inl ⟨fun q => c1 q.1, rfl, rfl⟩, rfl⟩
    · refine y_run kX6_paint rfl ?_
      rcases hz with ⟨rfl, hz⟩ | ⟨rfl, hz⟩
      · refine y_if_ne kX6_paint rfl rfl (fun _ => ?_) (fun q => absurd q (by omega))
        refine y_run kX6_paint rfl ?_
        refine y_get kX6_paint rfl rfl hx rfl ?_
        refine y_run kX6_paint rfl ?_
        refine y_cv kX6_paint kX5_setLooks 5 (rest := []) rfl hs.1 (by decide +kernel) (c_SsetLooks hs (v := v) (c := c) (p := p) (q := q) (u := u) c1.1.1 c1.1.2) rfl rfl ?_
        rintro r h' n' ⟨rfl, rfl, rfl⟩
        refine y_run kX6_paint rfl ?_
        exact y_zr kX6_paint rfl rfl (Or.inr rfl) ⟨Or.inr ⟨⟨c1, hz⟩, rfl, hs.up2 _, fun q hq => yup_ne _ _ (by omega)⟩, rfl⟩
      · refine y_if_ne kX6_paint rfl rfl (fun q => absurd rfl q) (fun _ => ?_)
        refine y_run kX6_paint rfl ?_
        exact y_zr kX6_paint rfl rfl (Or.inl rfl) ⟨Or.inl ⟨fun q => hz q.2, rfl, rfl⟩, rfl⟩
  refine y_run kX6_paint rfl ?_
  refine y_cs kX6_paint kX6_isBelow 2 (rest := []) rfl (by decide +kernel) (c_isBelow c 16 hc ⟨by omega, by omega⟩) rfl rfl ?_
  rintro r h' n' ⟨rfl, rfl, rfl⟩
  refine y_beq kX6_paint rfl rfl (fun d0 => ?_) (fun d0 => ?_)
  · refine y_run kX6_paint rfl ?_
    exact tail 0 (Or.inr ⟨rfl, fun g => d0 g.1⟩)
  refine y_run kX6_paint rfl ?_
  refine y_cs kX6_paint kX6_isBelow 2 (rest := []) rfl (by decide +kernel) (c_isBelow p 8 hp ⟨by omega, by omega⟩) rfl rfl ?_
  rintro r h' n' ⟨rfl, rfl, rfl⟩
  refine y_beq kX6_paint rfl rfl (fun d1 => ?_) (fun d1 => ?_)
  · refine y_run kX6_paint rfl ?_
    exact tail 0 (Or.inr ⟨rfl, fun g => d1 g.2.1⟩)
  refine y_run kX6_paint rfl ?_
  refine y_cs kX6_paint kX6_isBelow 2 (rest := []) rfl (by decide +kernel) (c_isBelow q 8 hq ⟨by omega, by omega⟩) rfl rfl ?_
  rintro r h' n' ⟨rfl, rfl, rfl⟩
  refine y_beq kX6_paint rfl rfl (fun d2 => ?_) (fun d2 => ?_)
  · refine y_run kX6_paint rfl ?_
    exact tail 0 (Or.inr ⟨rfl, fun g => d2 g.2.2.1⟩)
  refine y_run kX6_paint rfl ?_
  refine y_cs kX6_paint kX6_isBelow 2 (rest := []) rfl (by decide +kernel) (c_isBelow u 8 hu ⟨by omega, by omega⟩) rfl rfl ?_
  rintro r h' n' ⟨rfl, rfl, rfl⟩
  refine y_beq kX6_paint rfl rfl (fun d3 => ?_) (fun d3 => ?_)
  · refine y_run kX6_paint rfl ?_
    exact tail 0 (Or.inr ⟨rfl, fun g => d3 g.2.2.2⟩)
  refine y_run kX6_paint rfl ?_
  exact tail 1 (Or.inl ⟨rfl, d0, d1, d2, d3⟩)
def plc (v x y z dx dy dz : Int) : Prop := (0 ≤ v ∧ v < 24) ∧ lies x dx ∧ lies y dy ∧ lies z dz
def tr6 (T : Nat → Int) (x y z dx dy dz : Int) : Nat → Int := upZ (upZ (upZ (upZ (upZ (upZ T 0 x) 1 (x + dx)) 2 y) 3 (y + dy)) 4 z) 5 (z + dz)
theorem tr6_b {T : Nat → Int} {v x y z dx dy dz : Int} (hp : plc v x y z dx dy dz) (hT : ∀ j, -1 ≤ T j ∧ T j ≤ 33) : ∀ j, -1 ≤ tr6 T x y z dx dy dz j ∧ tr6 T x y z dx dy dz j ≤ 33 := by
  intro j
  obtain ⟨-, ⟨_, _, _, _⟩, ⟨_, _, _, _⟩, _, _, _, _⟩ := hp
  unfold tr6 upZ
  have := hT j
  repeat' split
  all_goals omega
theorem c_place {b : Nat} {t v x y z dx dy dz : Int} {E K R T : Nat → Int} {fs : List xV} (hx : h b = some (ob 6 (vr (b + 1) :: fs))) (hs : SC h (b + 1) t E K R T) (hv : inI v) (h1 : inI x) (h2 : inI y) (h3 : inI z) (h4 : inI dx) (h5 : inI dy) (h6 : inI dz) (hE : ∀ j, 0 ≤ E j ∧ E j ≤ 32) (hT : ∀ j, -1 ≤ T j ∧ T j ≤ 33) : YM l G mX6_place 3 0 0 [vr b, vi v, vi x, vi y, vi z, vi dx, vi dy, vi dz] h n (fun r h' n' => ((¬ plc v x y z dx dy dz ∧ r = some (vi 1) ∧ h' = h) ∨ (plc v x y z dx dy dz ∧ ∃ g, least24 (wayP t E (tr6 T x y z dx dy dz) v) g ∧ ((g ≠ -1 ∧ r = some (vi (2 + 8 * g)) ∧ SC h' (b + 1) t E K R (tr6 T x y z dx dy dz)) ∨ (g = -1 ∧ r = some (vi 0) ∧ SC h' (b + 1) (if tbt t v.toNat then t else yor t (yshl 1 v)) (cpZ (tr6 T x y z dx dy dz) E 0 (v * 6).toNat 6) (if tbt t v.toNat then K else lk0 K v) R (tr6 T x y z dx dy dz))))) ∧ (∀ q, q < b + 1 ∨ b + 6 ≤ q → h' q = h q) ∧ n' = n) := by
  refine YM.of kX6_place (Nat.le_of_ble_eq_true rfl) (L0 := [some (vr b), some (vi v), some (vi x), some (vi y), some (vi z), some (vi dx), some (vi dy), some (vi dz), none]) rfl ?_
  generalize hΦ : (fun (r : Option xV) (h' : yH) (n' : Nat) => ((¬ plc v x y z dx dy dz ∧ r = some (vi 1) ∧ h' = h) ∨ (plc v x y z dx dy dz ∧ ∃ g, least24 (wayP t E (tr6 T x y z dx dy dz) v) g ∧ ((g ≠ -1 ∧ r = some (vi (2 + 8 * g)) ∧ SC h' (b + 1) t E K R (tr6 T x y z dx dy dz)) ∨ (g = -1 ∧ r = some (vi 0) ∧ SC h' (b + 1) (if tbt t v.toNat then t else yor t (yshl 1 v)) (cpZ (tr6 T x y z dx dy dz) E 0 (v * 6).toNat 6) (if tbt t v.toNat then K else lk0 K v) R (tr6 T x y z dx dy dz))))) ∧ (∀ q, q < b + 1 ∨ b + 6 ≤ q → h' q = h q) ∧ n' = n) = Φ
  have hno : ¬ plc v x y z dx dy dz → YW l (gT G) mX6_place 3 0 0 Φ 37 [some (vr b), some (vi v), some (vi x), some (vi y), some (vi z), some (vi dx), some (vi dy), some (vi dz), none] [] h n := fun c => by
    refine y_run kX6_place rfl ?_
    refine y_ir kX6_place rfl rfl ?_
    rw [← hΦ]
    exact ⟨Or.inl ⟨c, rfl, rfl⟩, fun q _ => rfl, rfl⟩
  refine y_run kX6_place rfl ?_
  refine y_cs kX6_place kX6_isBelow 2 (rest := []) rfl (by decide +kernel) (c_isBelow v 24 hv ⟨by omega, by omega⟩) rfl rfl ?_
  rintro r h' n' ⟨rfl, rfl, rfl⟩
  refine y_beq kX6_place rfl rfl (fun c => hno (fun q => c q.1)) (fun c0 => ?_)
  refine y_run kX6_place rfl ?_
  refine y_cs kX6_place kX6_liesInRoom 2 (rest := []) rfl (by decide +kernel) (c_liesInRoom (f := x) (s := dx) h1 h4) rfl rfl ?_
  rintro r h' n' ⟨hr0, rfl, rfl⟩
  rcases hr0 with ⟨rfl, c1⟩ | ⟨rfl, c1⟩
  case inr => exact y_if_eq kX6_place rfl rfl (fun _ => hno (fun q => c1 q.2.1)) (fun q => absurd rfl q)
  refine y_if_eq kX6_place rfl rfl (fun q => absurd q (by omega)) (fun _ => ?_)
  refine y_run kX6_place rfl ?_
  refine y_cs kX6_place kX6_liesInRoom 2 (rest := []) rfl (by decide +kernel) (c_liesInRoom (f := y) (s := dy) h2 h5) rfl rfl ?_
  rintro r h' n' ⟨hr1, rfl, rfl⟩
  rcases hr1 with ⟨rfl, c2⟩ | ⟨rfl, c2⟩
  case inr => exact y_if_eq kX6_place rfl rfl (fun _ => hno (fun q => c2 q.2.2.1)) (fun q => absurd rfl q)
  refine y_if_eq kX6_place rfl rfl (fun q => absurd q (by omega)) (fun _ => ?_)
  refine y_run kX6_place rfl ?_
  refine y_cs kX6_place kX6_liesInRoom 2 (rest := []) rfl (by decide +kernel) (c_liesInRoom (f := z) (s := dz) h3 h6) rfl rfl ?_
  rintro r h' n' ⟨hr2, rfl, rfl⟩
  rcases hr2 with ⟨rfl, c3⟩ | ⟨rfl, c3⟩
  case inr => exact y_if_ne kX6_place rfl rfl (fun q => absurd rfl q) (fun _ => hno (fun q => c3 q.2.2.2))
  refine y_if_ne kX6_place rfl rfl (fun _ => ?_) (fun q => absurd q (by omega))
  have hp : plc v x y z dx dy dz := ⟨c0, c1, c2, c3⟩
  have hTb := tr6_b hp hT
  have s1 := hs.up4 (upZ (upZ T 0 x) 1 (x + dx))
  have s2 := s1.up4 (upZ (upZ (upZ (upZ T 0 x) 1 (x + dx)) 2 y) 3 (y + dy))
  have s3 := s2.up4 (tr6 T x y z dx dy dz)
  have f0 : ∀ {g : yH} {e : yE}, g b = some (ob 6 (vr (b + 1) :: fs)) → yup g (b + 1 + 4) e b = some (ob 6 (vr (b + 1) :: fs)) := fun hg => (yup_ne _ _ (by omega)).trans hg
  refine y_run kX6_place rfl ?_
  refine y_get kX6_place rfl rfl hx rfl ?_
  refine y_run kX6_place rfl ?_
  refine y_cv kX6_place kX5_tryAlong 3 (rest := []) rfl hs.1 (by decide +kernel) (c_StryAlong hs (x := 0) (f := x) (s := dx) (by omega) (by omega)) rfl rfl ?_
  rintro r h' n' ⟨rfl, rfl, rfl⟩
  refine y_run kX6_place rfl ?_
  refine y_get kX6_place rfl rfl (f0 hx) rfl ?_
  refine y_run kX6_place rfl ?_
  refine y_cv kX6_place kX5_tryAlong 3 (rest := []) rfl s1.1 (by decide +kernel) (c_StryAlong s1 (x := 1) (f := y) (s := dy) (by omega) (by omega)) rfl rfl ?_
  rintro r h' n' ⟨rfl, rfl, rfl⟩
  refine y_run kX6_place rfl ?_
  refine y_get kX6_place rfl rfl (f0 (f0 hx)) rfl ?_
  refine y_run kX6_place rfl ?_
  refine y_cv kX6_place kX5_tryAlong 3 (rest := []) rfl s2.1 (by decide +kernel) (c_StryAlong s2 (x := 2) (f := z) (s := dz) (by omega) (by omega)) rfl rfl ?_
  rintro r h' n' ⟨rfl, rfl, rfl⟩
  refine y_run kX6_place rfl ?_
  refine y_get kX6_place rfl rfl (f0 (f0 (f0 hx))) rfl ?_
  refine y_run kX6_place rfl ?_
  refine y_cv kX6_place kX5_lowestInTheWay 1 (rest := []) rfl s3.1 (by decide +kernel) (c_Slowest s3 hv (fun j => ⟨by have := hE j; omega, by have := hE j; omega⟩) (fun j => ⟨by have := hTb j; omega, by have := hTb j; omega⟩)) rfl rfl ?_
  rintro r h' n' ⟨⟨g, rfl, hg⟩, rfl, rfl⟩
  have hfr : ∀ q, q < b + 1 ∨ b + 6 ≤ q → yup (yup (yup h' (b + 1 + 4) (ai 6 (upZ (upZ T 0 x) 1 (x + dx)))) (b + 1 + 4) (ai 6 (upZ (upZ (upZ (upZ T 0 x) 1 (x + dx)) 2 y) 3 (y + dy)))) (b + 1 + 4) (ai 6 (tr6 T x y z dx dy dz)) q = h' q := fun q hq => (yup_ne _ _ (by omega)).trans ((yup_ne _ _ (by omega)).trans (yup_ne _ _ (by omega)))
  have hgb : -1 ≤ g ∧ g < 24 := by rcases hg with ⟨a1, a2, -⟩ | ⟨a1, -⟩ <;> omega
  refine y_run kX6_place rfl ?_
  refine y_ic_eq kX6_place rfl rfl (fun c => ?_) (fun c => ?_)
  · refine y_run kX6_place rfl ?_
    refine y_get kX6_place rfl rfl (f0 (f0 (f0 hx))) rfl ?_
    refine y_run kX6_place rfl ?_
    refine y_cv kX6_place kX5_settle 1 (rest := []) rfl s3.1 (by decide +kernel) (c_Ssettle s3 c0.1 c0.2) rfl rfl ?_
    rintro r h' n' ⟨rfl, k1, k2, rfl⟩
    refine y_run kX6_place rfl ?_
    refine y_ir kX6_place rfl rfl ?_
    rw [← hΦ]
    exact ⟨Or.inr ⟨hp, g, hg, Or.inr ⟨c, rfl, k1⟩⟩, fun q hq => (k2 q (by omega)).trans (hfr q hq), rfl⟩
  · refine y_run kX6_place rfl ?_
    refine y_ir kX6_place rfl rfl ?_
    rw [← hΦ]
    exact ⟨Or.inr ⟨hp, g, hg, Or.inl ⟨c, rfl, s3⟩⟩, hfr, rfl⟩
end C12
end
section
section C13
variable {l : Launch} {G : xG} {h : yH} {n : Nat}
/-- which slides are asked for rightly -/
def sld (t v x M : Int) : Prop := isT t v ∧ (0 ≤ x ∧ x < 6) ∧ (0 ≤ M ∧ M < 33)
def sAx (x : Int) : Int := if x < 3 then x else x - 3
def sSt (x : Int) : Int := if x < 3 then 1 else -1
/-- w is how far box v goes -/
def went (t : Int) (E : Nat → Int) (v x s M w : Int) : Prop := 0 ≤ w ∧ w ≤ M ∧ (∀ i, 1 ≤ i → i ≤ w → goOK t E v x (s * i)) ∧ (w = M ∨ ¬ goOK t E v x (s * (w + 1)))
theorem c_slide {b : Nat} {t v x M : Int} {E K R T : Nat → Int} {fs : List xV} (hx : h b = some (ob 6 (vr (b + 1) :: fs))) (hs : SC h (b + 1) t E K R T) (hv : inI v) (hi : inI x) (hm : inI M) (hE : ∀ j, 0 ≤ E j ∧ E j ≤ 32) (hT : ∀ j, -1 ≤ T j ∧ T j ≤ 33) (hwd : ∀ v, isT t v → ∀ x, 0 ≤ x → x < 3 → E (v * 6 + 2 * x).toNat ≤ E (v * 6 + 2 * x + 1).toNat) :
    YM l G mX6_slide 4 0 0 [vr b, vi v, vi x, vi M] h n (fun r h' n' => ((¬ sld t v x M ∧ r = some (vi (-1)) ∧ h' = h) ∨ (sld t v x M ∧ ∃ w T', r = some (vi w) ∧ went t E v (sAx x) (sSt x) M w ∧ SC h' (b + 1) t (shE E v (sAx x) (sSt x * w)) K R T' ∧ (∀ j, -1 ≤ T' j ∧ T' j ≤ 33) ∧ (∀ q, q < b + 1 ∨ b + 6 ≤ q → h' q = h q))) ∧ n' = n) := by
  refine YM.of kX6_slide (Nat.le_of_ble_eq_true rfl) (L0 := [some (vr b), some (vi v), some (vi x), some (vi M)]) rfl ?_
  generalize hΦ : (fun (r : Option xV) (h' : yH) (n' : Nat) => ((¬ sld t v x M ∧ r = some (vi (-1)) ∧ h' = h) ∨ (sld t v x M ∧ ∃ w T', r = some (vi w) ∧ went t E v (sAx x) (sSt x) M w ∧ SC h' (b + 1) t (shE E v (sAx x) (sSt x * w)) K R T' ∧ (∀ j, -1 ≤ T' j ∧ T' j ≤ 33) ∧ (∀ q, q < b + 1 ∨ b + 6 ≤ q → h' q = h q))) ∧ n' = n) = Φ
  have hno : ¬ sld t v x M → YW l (gT G) mX6_slide 4 0 0 Φ 29 [some (vr b), some (vi v), some (vi x), some (vi M)] [] h n := fun c => by
    refine y_run kX6_slide rfl ?_
    refine y_ir kX6_slide rfl rfl ?_
    rw [← hΦ]
    exact ⟨Or.inl ⟨c, rfl, rfl⟩, rfl⟩
  refine y_run kX6_slide rfl ?_
  refine y_get kX6_slide rfl rfl hx rfl ?_
  refine y_run kX6_slide rfl ?_
  refine y_cv kX6_slide kX5_has 1 (rest := []) rfl hs.1 (by decide +kernel) (c_Shas hs hv) rfl rfl ?_
  rintro r h' n' ⟨rfl, rfl, rfl⟩
  refine y_beq kX6_slide rfl rfl (fun c => hno (fun q => c q.1)) (fun c0 => ?_)
  refine y_run kX6_slide rfl ?_
  refine y_cs kX6_slide kX6_isBelow 2 (rest := []) rfl (by decide +kernel) (c_isBelow x 6 hi ⟨by omega, by omega⟩) rfl rfl ?_
  rintro r h' n' ⟨rfl, rfl, rfl⟩
  refine y_beq kX6_slide rfl rfl (fun c => hno (fun q => c q.2.1)) (fun c1 => ?_)
  refine y_run kX6_slide rfl ?_
  refine y_cs kX6_slide kX6_isBelow 2 (rest := []) rfl (by decide +kernel) (c_isBelow M 33 hm ⟨by omega, by omega⟩) rfl rfl ?_
  rintro r h' n' ⟨rfl, rfl, rfl⟩
  refine y_bne kX6_slide rfl rfl (fun c2 => ?_) (fun c => hno (fun q => c q.2.2))
  refine y_run kX6_slide rfl ?_
  refine y_ic_ge kX6_slide rfl rfl (fun c3 => ?_) (fun c3 => ?_)
  · have e1 : sAx x = x - 3 := by unfold sAx; rw [if_neg (by omega)]
    have e2 : sSt x = -1 := by unfold sSt; rw [if_neg (by omega)]
    refine y_run kX6_slide rfl ?_
    refine y_get kX6_slide rfl rfl hx rfl ?_
    refine y_run kX6_slide rfl ?_
    refine y_cv kX6_slide kX5_go 4 (rest := []) rfl hs.1 (by decide +kernel) (c_Sgo hs c0.1.1 c0.1.2 (x := x - 3) (s := -1) (M := M) (by omega) (by omega) (Or.inr rfl) (by omega) (by omega) c0.2 hE (hwd v c0 (x - 3) (by omega) (by omega)) hT) rfl rfl ?_
    rintro r h' n' ⟨w, T', rfl, a1, a2, a3, a4, a5, a6, a7, rfl⟩
    refine y_ir kX6_slide rfl rfl ?_
    rw [← hΦ, e1, e2]
    exact ⟨Or.inr ⟨⟨c0, c1, c2⟩, w, T', rfl, ⟨a1, a2, a3, a4⟩, a5, a6, fun q hq => a7 q (by omega)⟩, rfl⟩
  · have e1 : sAx x = x := by unfold sAx; rw [if_pos (by omega)]
    have e2 : sSt x = 1 := by unfold sSt; rw [if_pos (by omega)]
    refine y_run kX6_slide rfl ?_
    refine y_get kX6_slide rfl rfl hx rfl ?_
    refine y_run kX6_slide rfl ?_
    refine y_cv kX6_slide kX5_go 4 (rest := []) rfl hs.1 (by decide +kernel) (c_Sgo hs c0.1.1 c0.1.2 (x := x) (s := 1) (M := M) (by omega) (by omega) (Or.inl rfl) (by omega) (by omega) c0.2 hE (hwd v c0 x (by omega) (by omega)) hT) rfl rfl ?_
    rintro r h' n' ⟨w, T', rfl, a1, a2, a3, a4, a5, a6, a7, rfl⟩
    refine y_run kX6_slide rfl ?_
    refine y_ir kX6_slide rfl rfl ?_
    rw [← hΦ, e1, e2]
    exact ⟨Or.inr ⟨⟨c0, c1, c2⟩, w, T', rfl, ⟨a1, a2, a3, a4⟩, a5, a6, fun q hq => a7 q (by omega)⟩, rfl⟩
/-- keep: the scene is copied into the kept one of that place -/
theorem c_keep {b : Nat} {t p : Int} {E K R T : Nat → Int} {fs : List xV} {Q : Nat → Option Nat} {Z : Nat → Int} {tk : Int} {Ek Kk Rk Tk : Nat → Int} {kb : Nat} (hx : h b = some (ob 6 (vr (b + 1) :: vr (b + 6) :: vr (b + 7) :: fs))) (hs : SC h (b + 1) t E K R T) (hq : h (b + 6) = some (aq 2 4 Q)) (hz : h (b + 7) = some (az 4 Z)) (hp : inI p) (hQ : 0 ≤ p → p < 4 → Q p.toNat = some kb) (hk : 0 ≤ p → p < 4 → SC h kb tk Ek Kk Rk Tk) (hkb : b + 8 ≤ kb) :
    YM l G mX6_keep 2 0 0 [vr b, vi p] h n (fun r h' n' => ((¬ (0 ≤ p ∧ p < 4) ∧ r = some (vi 0) ∧ h' = h) ∨ ((0 ≤ p ∧ p < 4) ∧ r = some (vi 1) ∧ SC h' kb t (cpZ E Ek 0 0 144) (cpZ K Kk 0 0 96) (cpZ R Rk 0 0 64) Tk ∧ h' (b + 7) = some (az 4 (upZ Z p.toNat 1)) ∧ ∀ q, q ≠ b + 7 → q < kb ∨ kb + 5 ≤ q → h' q = h q)) ∧ n' = n) := by
  refine YM.of kX6_keep (Nat.le_of_ble_eq_true rfl) (L0 := [some (vr b), some (vi p)]) rfl ?_
  refine y_run kX6_keep rfl ?_
  refine y_cs kX6_keep kX6_isBelow 2 (rest := []) rfl (by decide +kernel) (c_isBelow p 4 hp ⟨by omega, by omega⟩) rfl rfl ?_
  rintro r h' n' ⟨rfl, rfl, rfl⟩
  refine y_bne kX6_keep rfl rfl (fun c => ?_) (fun c => ?_)
  · refine y_run kX6_keep rfl ?_
    refine y_get kX6_keep rfl rfl hx rfl ?_
    refine y_run kX6_keep rfl ?_
    refine y_qa kX6_keep rfl hq rfl (by omega) (by omega) (hQ c.1 c.2) ?_
    refine y_run kX6_keep rfl ?_
    refine y_get kX6_keep rfl rfl hx rfl ?_
    refine y_cv kX6_keep kX5_copyFrom 1 (rest := []) rfl (hk c.1 c.2).1 (by decide +kernel) (c_ScopyFrom (hk c.1 c.2) hs (by omega)) rfl rfl ?_
    rintro r h1 n' ⟨rfl, k1, k2, rfl⟩
    refine y_run kX6_keep rfl ?_
    refine y_get kX6_keep rfl rfl ((k2 b (by omega)).trans hx) rfl ?_
    refine y_run kX6_keep rfl ?_
    refine y_zs kX6_keep rfl ((k2 (b + 7) (by omega)).trans hz) (by omega) (by omega) (Or.inr rfl) ?_
    refine y_run kX6_keep rfl ?_
    exact y_zr kX6_keep rfl rfl (Or.inr rfl) ⟨Or.inr ⟨c, rfl, k1.frame1 (fun q q1 q2 => yup_ne _ _ (by omega)), yup_eq _ _ _, fun q q1 q2 => (yup_ne _ _ q1).trans (k2 q q2)⟩, rfl⟩
  · refine y_run kX6_keep rfl ?_
    exact y_zr kX6_keep rfl rfl (Or.inl rfl) ⟨Or.inl ⟨c, rfl, rfl⟩, rfl⟩
theorem c_back {b : Nat} {t p : Int} {E K R T : Nat → Int} {fs : List xV} {Q : Nat → Option Nat} {Z : Nat → Int} {tk : Int} {Ek Kk Rk Tk : Nat → Int} {kb : Nat} (hx : h b = some (ob 6 (vr (b + 1) :: vr (b + 6) :: vr (b + 7) :: fs))) (hs : SC h (b + 1) t E K R T) (hq : h (b + 6) = some (aq 2 4 Q)) (hz : h (b + 7) = some (az 4 Z)) (hp : inI p) (hZ : ∀ j, Z j = 0 ∨ Z j = 1) (hQ : 0 ≤ p → p < 4 → Q p.toNat = some kb) (hk : 0 ≤ p → p < 4 → SC h kb tk Ek Kk Rk Tk) (hkb : b + 8 ≤ kb) :
    YM l G mX6_back 2 0 0 [vr b, vi p] h n (fun r h' n' => ((¬ ((0 ≤ p ∧ p < 4) ∧ Z p.toNat = 1) ∧ r = some (vi 0) ∧ h' = h) ∨ (((0 ≤ p ∧ p < 4) ∧ Z p.toNat = 1) ∧ r = some (vi 1) ∧ SC h' (b + 1) tk (cpZ Ek E 0 0 144) (cpZ Kk K 0 0 96) (cpZ Rk R 0 0 64) T ∧ ∀ q, q < b + 1 ∨ b + 6 ≤ q → h' q = h q)) ∧ n' = n) := by
  refine YM.of kX6_back (Nat.le_of_ble_eq_true rfl) (L0 := [some (vr b), some (vi p)]) rfl ?_
  refine y_run kX6_back rfl ?_
  refine y_cs kX6_back kX6_isBelow 2 (rest := []) rfl (by decide +kernel) (c_isBelow p 4 hp ⟨by omega, by omega⟩) rfl rfl ?_
  rintro r h' n' ⟨rfl, rfl, rfl⟩
  refine y_beq kX6_back rfl rfl (fun c => ?_) (fun c => ?_)
  · refine y_run kX6_back rfl ?_
    exact y_zr kX6_back rfl rfl (Or.inl rfl) ⟨Or.inl ⟨fun q => c q.1, rfl, rfl⟩, rfl⟩
  · refine y_run kX6_back rfl ?_
    refine y_get kX6_back rfl rfl hx rfl ?_
    refine y_run kX6_back rfl ?_
    refine y_za kX6_back rfl hz (by omega) (by omega) ?_
    have hZp := hZ p.toNat
    refine y_if_ne kX6_back rfl rfl (fun c2 => ?_) (fun c2 => ?_)
    · refine y_run kX6_back rfl ?_
      refine y_get kX6_back rfl rfl hx rfl ?_
      refine y_run kX6_back rfl ?_
      refine y_get kX6_back rfl rfl hx rfl ?_
      refine y_run kX6_back rfl ?_
      refine y_qa kX6_back rfl hq rfl (by omega) (by omega) (hQ c.1 c.2) ?_
      refine y_cv kX6_back kX5_copyFrom 1 (rest := []) rfl hs.1 (by decide +kernel) (c_ScopyFrom hs (hk c.1 c.2) (by omega)) rfl rfl ?_
      rintro r h1 n' ⟨rfl, k1, k2, rfl⟩
      refine y_run kX6_back rfl ?_
      exact y_zr kX6_back rfl rfl (Or.inr rfl) ⟨Or.inr ⟨⟨c, by omega⟩, rfl, k1, fun q q1 => k2 q (by omega)⟩, rfl⟩
    · refine y_run kX6_back rfl ?_
      exact y_zr kX6_back rfl rfl (Or.inl rfl) ⟨Or.inl ⟨fun q => by omega, rfl, rfl⟩, rfl⟩
end C13
end
section
/-! the reference -/
/-- its object: where its rows lie, and its numbers -/
def mo (c : Nat) (i0 i1 i2 i3 i4 i5 i6 : Int) : yE := ob 7 [vr (c + 1), vr (c + 2), vr (c + 3), vr (c + 4), vr (c + 5), vr (c + 6), vr (c + 7), vr (c + 8), vr (c + 9), vr (c + 10), vi i0, vi i1, vi i2, vi i3, vi i4, vi i5, vr (c + 11), vr (c + 12), vr (c + 13), vr (c + 14), vr (c + 15), vi i6]
section C20
variable {l : Launch} {G : xG} {h : yH} {n : Nat}
theorem c_in (v b : Int) (hv : inI v) (hb : inI b) : YM l G mX7_in 0 0 0 [vi v, vi b] h n (fun r h' n' => r = some (vi (if 0 ≤ v ∧ v < b then 1 else 0)) ∧ h' = h ∧ n' = n) := by
  refine YM.of kX7_in (Nat.le_of_ble_eq_true rfl) (L0 := [some (vi v), some (vi b)]) rfl ?_
  obtain ⟨_, _⟩ := hv
  obtain ⟨_, _⟩ := hb
  refine y_run kX7_in rfl ?_
  refine y_if_lt kX7_in rfl rfl (fun c1 => ?_) (fun c1 => ?_)
  · refine y_run kX7_in rfl ?_
    refine y_zr kX7_in rfl rfl (Or.inl rfl) ?_
    exact ⟨by rw [if_neg (by omega)], rfl, rfl⟩
  · refine y_run kX7_in rfl ?_
    refine y_ic_ge kX7_in rfl rfl (fun c2 => ?_) (fun c2 => ?_)
    · refine y_run kX7_in rfl ?_
      refine y_zr kX7_in rfl rfl (Or.inl rfl) ?_
      exact ⟨by rw [if_neg (by omega)], rfl, rfl⟩
    · refine y_run kX7_in rfl ?_
      refine y_zr kX7_in rfl rfl (Or.inr rfl) ?_
      exact ⟨by rw [if_pos (by omega)], rfl, rfl⟩
theorem c_mlies {f s : Int} (hf : inI f) (hs : inI s) : YM l G mX7_lies 0 0 0 [vi f, vi s] h n (fun r h' n' => ((r = some (vi 1) ∧ lies f s) ∨ (r = some (vi 0) ∧ ¬ lies f s)) ∧ h' = h ∧ n' = n) := by
  refine YM.of kX7_lies (Nat.le_of_ble_eq_true rfl) (L0 := [some (vi f), some (vi s)]) rfl ?_
  obtain ⟨_, _⟩ := hf
  obtain ⟨_, _⟩ := hs
  refine y_run kX7_lies rfl ?_
  refine y_if_lt kX7_lies rfl rfl (fun c1 => ?_) (fun c1 => ?_)
  · refine y_run kX7_lies rfl ?_
    refine y_zr kX7_lies rfl rfl (Or.inl rfl) ?_
    exact ⟨Or.inr ⟨rfl, fun q => by unfold lies at q; omega⟩, rfl, rfl⟩
  · refine y_run kX7_lies rfl ?_
    refine y_ic_ge kX7_lies rfl rfl (fun c2 => ?_) (fun c2 => ?_)
    · refine y_run kX7_lies rfl ?_
      refine y_zr kX7_lies rfl rfl (Or.inl rfl) ?_
      exact ⟨Or.inr ⟨rfl, fun q => by unfold lies at q; omega⟩, rfl, rfl⟩
    · refine y_run kX7_lies rfl ?_
      refine y_if_le kX7_lies rfl rfl (fun c3 => ?_) (fun c3 => ?_)
      · refine y_run kX7_lies rfl ?_
        refine y_zr kX7_lies rfl rfl (Or.inl rfl) ?_
        exact ⟨Or.inr ⟨rfl, fun q => by unfold lies at q; omega⟩, rfl, rfl⟩
      · refine y_run kX7_lies rfl ?_
        refine y_ic_gt kX7_lies rfl rfl (fun c4 => ?_) (fun c4 => ?_)
        · refine y_run kX7_lies rfl ?_
          refine y_zr kX7_lies rfl rfl (Or.inl rfl) ?_
          exact ⟨Or.inr ⟨rfl, fun q => by unfold lies at q; omega⟩, rfl, rfl⟩
        · refine y_run kX7_lies rfl ?_
          refine y_zr kX7_lies rfl rfl (Or.inr rfl) ?_
          exact ⟨Or.inl ⟨rfl, by omega, by omega, by omega, by omega⟩, rfl, rfl⟩
/-- box n is there, in the reference -/
def mT (B : Nat → Int) (v : Int) : Prop := (0 ≤ v ∧ v < 24) ∧ B (11 * v).toNat = 1
theorem c_isThere {c : Nat} {v i0 i1 i2 i3 i4 i5 i6 : Int} {B : Nat → Int} (hm : h c = some (mo c i0 i1 i2 i3 i4 i5 i6)) (hB : h (c + 1) = some (ai 264 B)) (hsm : ∀ j, sm (B j)) (hv : inI v) : YM l G mX7_isThere 1 0 0 [vr c, vi v] h n (fun r h' n' => ((r = some (vi 1) ∧ mT B v) ∨ (r = some (vi 0) ∧ ¬ mT B v)) ∧ h' = h ∧ n' = n) := by
  refine YM.of kX7_isThere (Nat.le_of_ble_eq_true rfl) (L0 := [some (vr c), some (vi v)]) rfl ?_
  refine y_run kX7_isThere rfl ?_
  refine y_cs kX7_isThere kX7_in 2 (rest := []) rfl (by decide +kernel) (c_in v 24 hv ⟨by omega, by omega⟩) rfl rfl ?_
  rintro r h' n' ⟨rfl, rfl, rfl⟩
  refine y_beq kX7_isThere rfl rfl (fun c1 => ?_) (fun c1 => ?_)
  · refine y_run kX7_isThere rfl ?_
    exact y_zr kX7_isThere rfl rfl (Or.inl rfl) ⟨Or.inr ⟨rfl, fun q => c1 q.1⟩, rfl, rfl⟩
  · obtain ⟨s1, s2⟩ := hsm (11 * v).toNat
    refine y_run kX7_isThere rfl ?_
    refine y_get kX7_isThere rfl rfl hm rfl ?_
    refine y_run kX7_isThere rfl ?_
    refine y_ia kX7_isThere rfl hB (by omega) (by omega) ?_
    refine y_run kX7_isThere rfl ?_
    refine y_ic_ne kX7_isThere rfl rfl (fun c2 => ?_) (fun c2 => ?_)
    · refine y_run kX7_isThere rfl ?_
      exact y_zr kX7_isThere rfl rfl (Or.inl rfl) ⟨Or.inr ⟨rfl, fun q => c2 q.2⟩, rfl, rfl⟩
    · refine y_run kX7_isThere rfl ?_
      exact y_zr kX7_isThere rfl rfl (Or.inr rfl) ⟨Or.inl ⟨rfl, c1, c2⟩, rfl, rfl⟩
def movl (B T : Nat → Int) (b d : Int) : Prop := T d.toNat < B (11 * b + 2 + d).toNat ∧ B (11 * b + 1 + d).toNat < T (d + 1).toNat
def mway (B T : Nat → Int) (v b : Int) : Prop := b ≠ v ∧ mT B b ∧ movl B T b 0 ∧ movl B T b 2 ∧ movl B T b 4
theorem s_mstep {Φ : Option xV → yH → Nat → Prop} {c e : Nat} {v q z d i0 i1 i2 i3 i4 i5 i6 : Int} {B T : Nat → Int} (hm : h c = some (mo c i0 i1 i2 i3 i4 i5 i6)) (hB : h (c + 1) = some (ai 264 B)) (hT : h e = some (ai 6 T)) (hsm : ∀ j, sm (B j)) (hsT : ∀ j, sm (T j)) (hq : 0 ≤ q) (hq2 : q < 24) (hd : d = 0 ∨ d = 2 ∨ d = 4) (hz : z = 0 ∨ z = 1)
    (k1 : z = 1 → movl B T q d → YW l G mX7_meets 2 0 0 Φ 30 [some (vr c), some (vi v), some (vr e), some (vi q), some (vi 1), some (vi (d + 2))] [] h n)
    (k0 : ¬ (z = 1 ∧ movl B T q d) → YW l G mX7_meets 2 0 0 Φ 30 [some (vr c), some (vi v), some (vr e), some (vi q), some (vi 0), some (vi (d + 2))] [] h n) :
    YW l G mX7_meets 2 0 0 Φ 30 [some (vr c), some (vi v), some (vr e), some (vi q), some (vi z), some (vi d)] [] h n := by
  obtain ⟨_, _⟩ := hsm (11 * q + 2 + d).toNat
  obtain ⟨_, _⟩ := hsm (11 * q + 1 + d).toNat
  obtain ⟨_, _⟩ := hsT d.toNat
  obtain ⟨_, _⟩ := hsT (d + 1).toNat
  refine y_run kX7_meets rfl ?_
  refine y_ic_ge kX7_meets rfl rfl (fun c1 => absurd c1 (by omega)) (fun c1 => ?_)
  refine y_run kX7_meets rfl ?_
  refine y_if_eq kX7_meets rfl rfl (fun c2 => ?_) (fun c2 => ?_)
  · refine y_run kX7_meets rfl ?_
    exact k0 (fun g => by omega)
  · refine y_run kX7_meets rfl ?_
    refine y_ia kX7_meets rfl hT (by omega) (by omega) ?_
    refine y_run kX7_meets rfl ?_
    refine y_get kX7_meets rfl rfl hm rfl ?_
    refine y_run kX7_meets rfl ?_
    refine y_ia kX7_meets rfl hB (by omega) (by omega) ?_
    refine y_ic_ge kX7_meets rfl rfl (fun c3 => ?_) (fun c3 => ?_)
    · refine y_run kX7_meets rfl ?_
      exact k0 (fun g => absurd g.2.1 (by omega))
    · refine y_run kX7_meets rfl ?_
      refine y_get kX7_meets rfl rfl hm rfl ?_
      refine y_run kX7_meets rfl ?_
      refine y_ia kX7_meets rfl hB (by omega) (by omega) ?_
      refine y_run kX7_meets rfl ?_
      refine y_ia kX7_meets rfl hT (by omega) (by omega) ?_
      refine y_ic_ge kX7_meets rfl rfl (fun c4 => ?_) (fun c4 => ?_)
      · refine y_run kX7_meets rfl ?_
        exact k0 (fun g => absurd g.2.2 (by omega))
      · refine y_run kX7_meets rfl ?_
        exact k1 (by omega) ⟨c3, c4⟩
theorem s_meets {Φ : Option xV → yH → Nat → Prop} {c e : Nat} {v i0 i1 i2 i3 i4 i5 i6 : Int} {B T : Nat → Int} (hm : h c = some (mo c i0 i1 i2 i3 i4 i5 i6)) (hB : h (c + 1) = some (ai 264 B)) (hT : h e = some (ai 6 T)) (hsm : ∀ j, sm (B j)) (hsT : ∀ j, sm (T j)) (hv : inI v) (hΦ : ∀ z, least24 (mway B T v) z → Φ (some (vi z)) h n) :
    ∀ (m : Nat) (x : Int) (u4 u5 : Option xV), x = 24 - (m : Int) → 0 ≤ x → (∀ b, 0 ≤ b → b < x → ¬ mway B T v b) → YW l G mX7_meets 2 0 0 Φ 2 [some (vr c), some (vi v), some (vr e), some (vi x), u4, u5] [] h n := by
  obtain ⟨hv1, hv2⟩ := hv
  intro m
  induction m with
  | zero =>
    intro x u4 u5 hx h0 hi
    have ex : x = 24 := by omega
    subst ex
    refine y_run kX7_meets rfl ?_
    refine y_ic_ge kX7_meets rfl rfl (fun c1 => ?_) (fun c1 => absurd c1 (by omega))
    refine y_run kX7_meets rfl ?_
    exact y_ir kX7_meets rfl rfl (hΦ _ (Or.inr ⟨rfl, hi⟩))
  | succ m ih =>
    intro x u4 u5 hx h0 hi
    have nxt : ¬ mway B T v x → ∀ u4 u5, YW l G mX7_meets 2 0 0 Φ 2 [some (vr c), some (vi v), some (vr e), some (vi (x + 1)), u4, u5] [] h n := fun q u4 u5 => ih (x + 1) u4 u5 (by omega) (by omega) (fun b b0 b1 => by
      by_cases cb : b = x
      · subst cb; exact q
      · exact hi b b0 (by omega))
    refine y_run kX7_meets rfl ?_
    refine y_ic_ge kX7_meets rfl rfl (fun c1 => absurd c1 (by omega)) (fun c1 => ?_)
    refine y_run kX7_meets rfl ?_
    refine y_ic_eq kX7_meets rfl rfl (fun c2 => ?_) (fun c2 => ?_)
    · refine y_run kX7_meets rfl ?_
      exact nxt (fun q => q.1 c2) _ _
    · refine y_run kX7_meets rfl ?_
      refine y_cv kX7_meets kX7_isThere 1 (rest := []) rfl hm (by decide +kernel) (c_isThere hm hB hsm (v := x) ⟨by omega, by omega⟩) rfl rfl ?_
      rintro r h' n' ⟨hr, rfl, rfl⟩
      rcases hr with ⟨rfl, hr⟩ | ⟨rfl, hr⟩
      · refine y_if_ne kX7_meets rfl rfl (fun _ => ?_) (fun q => absurd q (by omega))
        refine y_run kX7_meets rfl ?_
        have fin1 : movl B T x 0 ∧ movl B T x 2 ∧ movl B T x 4 → YW l G mX7_meets 2 0 0 Φ 30 [some (vr c), some (vi v), some (vr e), some (vi x), some (vi 1), some (vi 6)] [] h' n' := fun g => by
          refine y_run kX7_meets rfl ?_
          refine y_ic_ge kX7_meets rfl rfl (fun _ => ?_) (fun c3 => absurd c3 (by omega))
          refine y_run kX7_meets rfl ?_
          refine y_if_eq kX7_meets rfl rfl (fun q => absurd q (by omega)) (fun _ => ?_)
          refine y_run kX7_meets rfl ?_
          exact y_ir kX7_meets rfl rfl (hΦ _ (Or.inl ⟨h0, by omega, ⟨c2, hr, g⟩, hi⟩))
        have fin0 : ¬ (movl B T x 0 ∧ movl B T x 2 ∧ movl B T x 4) → YW l G mX7_meets 2 0 0 Φ 30 [some (vr c), some (vi v), some (vr e), some (vi x), some (vi 0), some (vi 6)] [] h' n' := fun g => by
          refine y_run kX7_meets rfl ?_
          refine y_ic_ge kX7_meets rfl rfl (fun _ => ?_) (fun c3 => absurd c3 (by omega))
          refine y_run kX7_meets rfl ?_
          refine y_if_eq kX7_meets rfl rfl (fun _ => ?_) (fun q => absurd rfl q)
          refine y_run kX7_meets rfl ?_
          exact nxt (fun q => g q.2.2) _ _
        have st := fun {z d : Int} (hd : d = 0 ∨ d = 2 ∨ d = 4) (hz : z = 0 ∨ z = 1) => s_mstep (l := l) (G := G) (n := n') (Φ := Φ) (v := v) (q := x) (z := z) (d := d) hm hB hT hsm hsT h0 (by omega) hd hz
        refine st (Or.inl rfl) (Or.inr rfl) (fun _ m0 => ?_) (fun m0 => ?_)
        · refine st (Or.inr (Or.inl rfl)) (Or.inr rfl) (fun _ m2 => ?_) (fun m2 => ?_)
          · refine st (Or.inr (Or.inr rfl)) (Or.inr rfl) (fun _ m4 => fin1 ⟨m0, m2, m4⟩) (fun m4 => fin0 (fun g => m4 ⟨rfl, g.2.2⟩))
          · exact st (Or.inr (Or.inr rfl)) (Or.inl rfl) (fun q => absurd q (by omega)) (fun _ => fin0 (fun g => m2 ⟨rfl, g.2.1⟩))
        · refine st (Or.inr (Or.inl rfl)) (Or.inl rfl) (fun q => absurd q (by omega)) (fun _ => ?_)
          exact st (Or.inr (Or.inr rfl)) (Or.inl rfl) (fun q => absurd q (by omega)) (fun _ => fin0 (fun g => m0 ⟨rfl, g.1⟩))
      · refine y_if_ne kX7_meets rfl rfl (fun q => absurd rfl q) (fun _ => ?_)
        refine y_run kX7_meets rfl ?_
        exact nxt (fun q => hr q.2.1) _ _
theorem c_meets {c e : Nat} {v i0 i1 i2 i3 i4 i5 i6 : Int} {B T : Nat → Int} (hm : h c = some (mo c i0 i1 i2 i3 i4 i5 i6)) (hB : h (c + 1) = some (ai 264 B)) (hT : h e = some (ai 6 T)) (hsm : ∀ j, sm (B j)) (hsT : ∀ j, sm (T j)) (hv : inI v) : YM l G mX7_meets 2 0 0 [vr c, vi v, vr e] h n (fun r h' n' => (∃ z, r = some (vi z) ∧ least24 (mway B T v) z) ∧ h' = h ∧ n' = n) := by
  refine YM.of kX7_meets (Nat.le_of_ble_eq_true rfl) (L0 := [some (vr c), some (vi v), some (vr e), none, none, none]) rfl ?_
  refine y_run kX7_meets rfl ?_
  exact s_meets hm hB hT hsm hsT hv (fun z hz => ⟨⟨z, rfl, hz⟩, rfl, rfl⟩) 24 0 none none (by omega) (by omega) (fun b b0 b1 => absurd b1 (by omega))
end C20
end
section
/-- the looks of box v all 0, up to place k; then there; then its ends -/
def bz (B : Nat → Int) (v k : Int) : Nat → Int := fun j => if 11 * v + 7 ≤ (j : Int) ∧ (j : Int) < 11 * v + k then 0 else B j
def bcp (B T : Nat → Int) (v k : Int) : Nat → Int := fun j => if 11 * v + 1 ≤ (j : Int) ∧ (j : Int) < 11 * v + 1 + k then T (j - (11 * v + 1).toNat) else B j
theorem bz_7 (B : Nat → Int) (v : Int) : bz B v 7 = B := by
  funext j
  unfold bz
  rw [if_neg (by omega)]
theorem bz_s (B : Nat → Int) {v k : Int} (hv : 0 ≤ v) (hk : 7 ≤ k) : upZ (bz B v k) (11 * v + k).toNat 0 = bz B v (k + 1) := by
  funext j
  unfold upZ bz
  by_cases c : j = (11 * v + k).toNat
  · rw [if_pos c, if_pos (by omega)]
  · rw [if_neg c]
    by_cases c2 : 11 * v + 7 ≤ (j : Int) ∧ (j : Int) < 11 * v + k
    · rw [if_pos c2, if_pos (by omega)]
    · rw [if_neg c2, if_neg (by omega)]
theorem bcp_0 (B T : Nat → Int) (v : Int) : bcp B T v 0 = B := by
  funext j
  unfold bcp
  rw [if_neg (by omega)]
theorem bcp_s (B T : Nat → Int) {v k : Int} (hv : 0 ≤ v) (hk : 0 ≤ k) : upZ (bcp B T v k) (11 * v + 1 + k).toNat (T k.toNat) = bcp B T v (k + 1) := by
  funext j
  unfold upZ bcp
  by_cases c : j = (11 * v + 1 + k).toNat
  · rw [if_pos c, if_pos (by omega)]
    congr 1
    omega
  · rw [if_neg c]
    by_cases c2 : 11 * v + 1 ≤ (j : Int) ∧ (j : Int) < 11 * v + 1 + k
    · rw [if_pos c2, if_pos (by omega)]
    · rw [if_neg c2, if_neg (by omega)]
section C21
variable {l : Launch} {G : xG} {h : yH} {n : Nat}
/-- the two loops of place -/
theorem s_pl2 {Φ : Option xV → yH → Nat → Prop} {c : Nat} {v x y z dx dy dz u i0 i1 i2 i3 i4 i5 i6 : Int} {B T : Nat → Int} {h0 : yH} (hv : 0 ≤ v) (hv2 : v < 24) (hm : h0 c = some (mo c i0 i1 i2 i3 i4 i5 i6)) (hT : h0 (c + 14) = some (ai 6 T)) (hΦ : Φ (some (vi 0)) (yup h0 (c + 1) (ai 264 (bcp B T v 6))) n) :
    ∀ (m : Nat) (k : Int), k = 6 - (m : Int) → 0 ≤ k → YW l G mX7_place 3 0 0 Φ 168 [some (vr c), some (vi v), some (vi x), some (vi y), some (vi z), some (vi dx), some (vi dy), some (vi dz), some (vi u), some (vi k)] [] (yup h0 (c + 1) (ai 264 (bcp B T v k))) n := by
  intro m
  induction m with
  | zero =>
    intro k hk hk0
    have e : k = 6 := by omega
    subst e
    refine y_run kX7_place rfl ?_
    refine y_ic_ge kX7_place rfl rfl (fun c1 => ?_) (fun c1 => absurd c1 (by omega))
    refine y_run kX7_place rfl ?_
    exact y_ir kX7_place rfl rfl hΦ
  | succ m ih =>
    intro k hk hk0
    refine y_run kX7_place rfl ?_
    refine y_ic_ge kX7_place rfl rfl (fun c1 => absurd c1 (by omega)) (fun c1 => ?_)
    refine y_run kX7_place rfl ?_
    refine y_get kX7_place rfl rfl ((yup_ne _ _ (by omega)).trans hm) rfl ?_
    refine y_run kX7_place rfl ?_
    refine y_get kX7_place rfl rfl ((yup_ne _ _ (by omega)).trans hm) rfl ?_
    refine y_run kX7_place rfl ?_
    refine y_ia kX7_place rfl ((yup_ne _ _ (by omega)).trans hT) (by omega) (by omega) ?_
    refine y_is2 kX7_place rfl (by omega) (by omega) ?_
    refine y_run kX7_place rfl ?_
    rw [bcp_s B T hv hk0]
    exact ih (k + 1) (by omega) (by omega)
theorem s_pl1 {Φ : Option xV → yH → Nat → Prop} {c : Nat} {v x y z dx dy dz u i0 i1 i2 i3 i4 i5 i6 : Int} {B T : Nat → Int} {h0 : yH} (hv : 0 ≤ v) (hv2 : v < 24) (hm : h0 c = some (mo c i0 i1 i2 i3 i4 i5 i6)) (hT : h0 (c + 14) = some (ai 6 T)) (hΦ : Φ (some (vi 0)) (yup h0 (c + 1) (ai 264 (bcp (upZ (bz B v 11) (11 * v).toNat 1) T v 6))) n) :
    ∀ (m : Nat) (k : Int), k = 11 - (m : Int) → 7 ≤ k → YW l G mX7_place 3 0 0 Φ 129 [some (vr c), some (vi v), some (vi x), some (vi y), some (vi z), some (vi dx), some (vi dy), some (vi dz), some (vi u), some (vi k)] [] (yup h0 (c + 1) (ai 264 (bz B v k))) n := by
  intro m
  induction m with
  | zero =>
    intro k hk hk0
    have e : k = 11 := by omega
    subst e
    refine y_run kX7_place rfl ?_
    refine y_ic_ge kX7_place rfl rfl (fun c1 => ?_) (fun c1 => absurd c1 (by omega))
    refine y_run kX7_place rfl ?_
    refine y_get kX7_place rfl rfl ((yup_ne _ _ (by omega)).trans hm) rfl ?_
    refine y_run kX7_place rfl ?_
    refine y_is2 kX7_place rfl (by omega) (by omega) ?_
    refine y_run kX7_place rfl ?_
    have := s_pl2 (l := l) (G := G) (n := n) (Φ := Φ) (x := x) (y := y) (z := z) (dx := dx) (dy := dy) (dz := dz) (u := u) (B := upZ (bz B v 11) (11 * v).toNat 1) hv hv2 hm hT hΦ 6 0 (by omega) (by omega)
    rw [bcp_0] at this
    exact this
  | succ m ih =>
    intro k hk hk0
    refine y_run kX7_place rfl ?_
    refine y_ic_ge kX7_place rfl rfl (fun c1 => absurd c1 (by omega)) (fun c1 => ?_)
    refine y_run kX7_place rfl ?_
    refine y_get kX7_place rfl rfl ((yup_ne _ _ (by omega)).trans hm) rfl ?_
    refine y_run kX7_place rfl ?_
    refine y_is2 kX7_place rfl (by omega) (by omega) ?_
    refine y_run kX7_place rfl ?_
    rw [bz_s B hv hk0]
    exact ih (k + 1) (by omega) (by omega)
end C21
end
section
section C22
variable {l : Launch} {G : xG} {h : yH} {n : Nat}
theorem c_mlift {c : Nat} {i0 i1 i2 i3 i4 i5 i6 : Int} {B : Nat → Int} {v : Int} (hm : h c = some (mo c i0 i1 i2 i3 i4 i5 i6)) (hB : h (c + 1) = some (ai 264 B)) (hsm : ∀ j, sm (B j)) (hv : inI v) : YM l G mX7_lift 2 0 0 [vr c, vi v] h n (fun r h' n' => ((¬ mT B v ∧ r = some (vi 0) ∧ h' = h) ∨ (mT B v ∧ r = some (vi 1) ∧ h' = yup h (c + 1) (ai 264 (upZ B (11 * v).toNat 0)))) ∧ n' = n) := by
  refine YM.of kX7_lift (Nat.le_of_ble_eq_true rfl) (L0 := [some (vr c), some (vi v)]) rfl ?_
  refine y_run kX7_lift rfl ?_
  refine y_cv kX7_lift kX7_isThere 1 (rest := []) rfl hm (by decide +kernel) (c_isThere hm hB hsm hv) rfl rfl ?_
  rintro r h' n' ⟨hr, rfl, rfl⟩
  rcases hr with ⟨rfl, hr⟩ | ⟨rfl, hr⟩
  · refine y_if_ne kX7_lift rfl rfl (fun _ => ?_) (fun q => absurd q (by omega))
    have h1 := hr.1
    refine y_run kX7_lift rfl ?_
    refine y_get kX7_lift rfl rfl hm rfl ?_
    refine y_run kX7_lift rfl ?_
    refine y_is kX7_lift rfl hB (by omega) (by omega) ?_
    refine y_run kX7_lift rfl ?_
    exact y_zr kX7_lift rfl rfl (Or.inr rfl) ⟨Or.inr ⟨hr, rfl, rfl⟩, rfl⟩
  · refine y_if_ne kX7_lift rfl rfl (fun q => absurd rfl q) (fun _ => ?_)
    refine y_run kX7_lift rfl ?_
    exact y_zr kX7_lift rfl rfl (Or.inl rfl) ⟨Or.inl ⟨hr, rfl, rfl⟩, rfl⟩
def mpnt (B : Nat → Int) (v a p q u : Int) : Prop := mT B v ∧ (0 ≤ a ∧ a < 16) ∧ (0 ≤ p ∧ p < 8) ∧ (0 ≤ q ∧ q < 8) ∧ (0 ≤ u ∧ u < 8)
def mlk (B : Nat → Int) (v a p q u : Int) : Nat → Int := upZ (upZ (upZ (upZ B (11 * v + 7).toNat a) (11 * v + 8).toNat p) (11 * v + 9).toNat q) (11 * v + 10).toNat u
theorem c_mpaint {c : Nat} {i0 i1 i2 i3 i4 i5 i6 : Int} {B : Nat → Int} {v a p q u : Int} (hm : h c = some (mo c i0 i1 i2 i3 i4 i5 i6)) (hB : h (c + 1) = some (ai 264 B)) (hsm : ∀ j, sm (B j)) (hv : inI v) (ha : inI a) (hp : inI p) (hq : inI q) (hu : inI u) : YM l G mX7_paint 2 0 0 [vr c, vi v, vi a, vi p, vi q, vi u] h n (fun r h' n' => ((¬ mpnt B v a p q u ∧ r = some (vi 0) ∧ h' = h) ∨ (mpnt B v a p q u ∧ r = some (vi 1) ∧ h' = yup h (c + 1) (ai 264 (mlk B v a p q u)))) ∧ n' = n) := by
  refine YM.of kX7_paint (Nat.le_of_ble_eq_true rfl) (L0 := [some (vr c), some (vi v), some (vi a), some (vi p), some (vi q), some (vi u)]) rfl ?_
  have hno : ¬ mpnt B v a p q u → YW l (gT G) mX7_paint 2 0 0 (fun r h' n' => ((¬ mpnt B v a p q u ∧ r = some (vi 0) ∧ h' = h) ∨ (mpnt B v a p q u ∧ r = some (vi 1) ∧ h' = yup h (c + 1) (ai 264 (mlk B v a p q u)))) ∧ n' = n) 46 [some (vr c), some (vi v), some (vi a), some (vi p), some (vi q), some (vi u)] [] h n := fun g => by
    refine y_run kX7_paint rfl ?_
    exact y_zr kX7_paint rfl rfl (Or.inl rfl) ⟨Or.inl ⟨g, rfl, rfl⟩, rfl⟩
  refine y_run kX7_paint rfl ?_
  refine y_cv kX7_paint kX7_isThere 1 (rest := []) rfl hm (by decide +kernel) (c_isThere hm hB hsm hv) rfl rfl ?_
  rintro r h' n' ⟨hr, rfl, rfl⟩
  rcases hr with ⟨rfl, hr⟩ | ⟨rfl, hr⟩
  case inr => exact y_if_eq kX7_paint rfl rfl (fun _ => hno (fun g => hr g.1)) (fun q => absurd rfl q)
  refine y_if_eq kX7_paint rfl rfl (fun q => absurd q (by omega)) (fun _ => ?_)
  refine y_run kX7_paint rfl ?_
  refine y_cs kX7_paint kX7_in 2 (rest := []) rfl (by decide +kernel) (c_in a 16 ha ⟨by omega, by omega⟩) rfl rfl ?_
  rintro r h' n' ⟨rfl, rfl, rfl⟩
  refine y_beq kX7_paint rfl rfl (fun d => hno (fun g => d g.2.1)) (fun d0 => ?_)
  refine y_run kX7_paint rfl ?_
  refine y_cs kX7_paint kX7_in 2 (rest := []) rfl (by decide +kernel) (c_in p 8 hp ⟨by omega, by omega⟩) rfl rfl ?_
  rintro r h' n' ⟨rfl, rfl, rfl⟩
  refine y_beq kX7_paint rfl rfl (fun d => hno (fun g => d g.2.2.1)) (fun d1 => ?_)
  refine y_run kX7_paint rfl ?_
  refine y_cs kX7_paint kX7_in 2 (rest := []) rfl (by decide +kernel) (c_in q 8 hq ⟨by omega, by omega⟩) rfl rfl ?_
  rintro r h' n' ⟨rfl, rfl, rfl⟩
  refine y_beq kX7_paint rfl rfl (fun d => hno (fun g => d g.2.2.2.1)) (fun d2 => ?_)
  refine y_run kX7_paint rfl ?_
  refine y_cs kX7_paint kX7_in 2 (rest := []) rfl (by decide +kernel) (c_in u 8 hu ⟨by omega, by omega⟩) rfl rfl ?_
  rintro r h' n' ⟨rfl, rfl, rfl⟩
  refine y_bne kX7_paint rfl rfl (fun d3 => ?_) (fun d => hno (fun g => d g.2.2.2.2))
  have h1 := hr.1
  refine y_run kX7_paint rfl ?_
  refine y_get kX7_paint rfl rfl hm rfl ?_
  refine y_run kX7_paint rfl ?_
  refine y_is kX7_paint rfl hB (by omega) (by omega) ?_
  refine y_run kX7_paint rfl ?_
  refine y_get kX7_paint rfl rfl ((yup_ne _ _ (by omega)).trans hm) rfl ?_
  refine y_run kX7_paint rfl ?_
  refine y_is2 kX7_paint rfl (by omega) (by omega) ?_
  refine y_run kX7_paint rfl ?_
  refine y_get kX7_paint rfl rfl ((yup_ne _ _ (by omega)).trans hm) rfl ?_
  refine y_run kX7_paint rfl ?_
  refine y_is2 kX7_paint rfl (by omega) (by omega) ?_
  refine y_run kX7_paint rfl ?_
  refine y_get kX7_paint rfl rfl ((yup_ne _ _ (by omega)).trans hm) rfl ?_
  refine y_run kX7_paint rfl ?_
  refine y_is2 kX7_paint rfl (by omega) (by omega) ?_
  refine y_run kX7_paint rfl ?_
  exact y_zr kX7_paint rfl rfl (Or.inr rfl) ⟨Or.inr ⟨⟨hr, d0, d1, d2, d3⟩, rfl, rfl⟩, rfl⟩
theorem c_mink {c : Nat} {i0 i1 i2 i3 i4 i5 i6 : Int} {I : Nat → Int} {p r0 wd : Int} (hm : h c = some (mo c i0 i1 i2 i3 i4 i5 i6)) (hI : h (c + 2) = some (ai 64 I)) (hp : inI p) (hr : inI r0) : YM l G mX7_ink 1 0 0 [vr c, vi p, vi r0, vi wd] h n (fun r h' n' => ((¬ ((0 ≤ p ∧ p < 8) ∧ (0 ≤ r0 ∧ r0 < 8)) ∧ r = some (vi 0) ∧ h' = h) ∨ (((0 ≤ p ∧ p < 8) ∧ (0 ≤ r0 ∧ r0 < 8)) ∧ r = some (vi 1) ∧ h' = yup h (c + 2) (ai 64 (upZ I (8 * p + r0).toNat (wd % 65536))))) ∧ n' = n) := by
  refine YM.of kX7_ink (Nat.le_of_ble_eq_true rfl) (L0 := [some (vr c), some (vi p), some (vi r0), some (vi wd)]) rfl ?_
  have hno : ¬ ((0 ≤ p ∧ p < 8) ∧ (0 ≤ r0 ∧ r0 < 8)) → YW l (gT G) mX7_ink 1 0 0 (fun r h' n' => ((¬ ((0 ≤ p ∧ p < 8) ∧ (0 ≤ r0 ∧ r0 < 8)) ∧ r = some (vi 0) ∧ h' = h) ∨ (((0 ≤ p ∧ p < 8) ∧ (0 ≤ r0 ∧ r0 < 8)) ∧ r = some (vi 1) ∧ h' = yup h (c + 2) (ai 64 (upZ I (8 * p + r0).toNat (wd % 65536))))) ∧ n' = n) 18 [some (vr c), some (vi p), some (vi r0), some (vi wd)] [] h n := fun g => by
    refine y_run kX7_ink rfl ?_
    exact y_zr kX7_ink rfl rfl (Or.inl rfl) ⟨Or.inl ⟨g, rfl, rfl⟩, rfl⟩
  refine y_run kX7_ink rfl ?_
  refine y_cs kX7_ink kX7_in 2 (rest := []) rfl (by decide +kernel) (c_in p 8 hp ⟨by omega, by omega⟩) rfl rfl ?_
  rintro r h' n' ⟨rfl, rfl, rfl⟩
  refine y_beq kX7_ink rfl rfl (fun d => hno (fun g => d g.1)) (fun d0 => ?_)
  refine y_run kX7_ink rfl ?_
  refine y_cs kX7_ink kX7_in 2 (rest := []) rfl (by decide +kernel) (c_in r0 8 hr ⟨by omega, by omega⟩) rfl rfl ?_
  rintro r h' n' ⟨rfl, rfl, rfl⟩
  refine y_bne kX7_ink rfl rfl (fun d1 => ?_) (fun d => hno (fun g => d g.2))
  refine y_run kX7_ink rfl ?_
  refine y_get kX7_ink rfl rfl hm rfl ?_
  refine y_run kX7_ink rfl ?_
  refine y_ldc (z := 65535) kX7_ink rfl (by decide +kernel) ?_
  refine y_run kX7_ink rfl ?_
  refine y_is kX7_ink rfl hI (by omega) (by omega) ?_
  refine y_run kX7_ink rfl ?_
  rw [yand_65535]
  exact y_zr kX7_ink rfl rfl (Or.inr rfl) ⟨Or.inr ⟨⟨d0, d1⟩, rfl, rfl⟩, rfl⟩
theorem c_mbox {c : Nat} {i0 i1 i2 i3 i4 i5 i6 : Int} {B : Nat → Int} {v wh : Int} (hm : h c = some (mo c i0 i1 i2 i3 i4 i5 i6)) (hB : h (c + 1) = some (ai 264 B)) (hsm : ∀ j, sm (B j)) (hv : inI v) (hw : inI wh) : YM l G mX7_box 2 0 0 [vr c, vi v, vi wh] h n (fun r h' n' => ((mT B v ∧ (0 ≤ wh ∧ wh < 10) ∧ r = some (vi (B (11 * v + 1 + wh).toNat))) ∨ (¬ (mT B v ∧ (0 ≤ wh ∧ wh < 10)) ∧ r = some (vi (-1)))) ∧ h' = h ∧ n' = n) := by
  refine YM.of kX7_box (Nat.le_of_ble_eq_true rfl) (L0 := [some (vr c), some (vi v), some (vi wh)]) rfl ?_
  refine y_run kX7_box rfl ?_
  refine y_cv kX7_box kX7_isThere 1 (rest := []) rfl hm (by decide +kernel) (c_isThere hm hB hsm hv) rfl rfl ?_
  rintro r h' n' ⟨hr, rfl, rfl⟩
  rcases hr with ⟨rfl, hr⟩ | ⟨rfl, hr⟩
  · refine y_if_eq kX7_box rfl rfl (fun q => absurd q (by omega)) (fun _ => ?_)
    refine y_run kX7_box rfl ?_
    refine y_cs kX7_box kX7_in 2 (rest := []) rfl (by decide +kernel) (c_in wh 10 hw ⟨by omega, by omega⟩) rfl rfl ?_
    rintro r h' n' ⟨rfl, rfl, rfl⟩
    have h1 := hr.1
    refine y_beq kX7_box rfl rfl (fun d => ?_) (fun d => ?_)
    · refine y_run kX7_box rfl ?_
      exact y_ir kX7_box rfl rfl ⟨Or.inr ⟨fun g => d g.2, rfl⟩, rfl, rfl⟩
    · refine y_run kX7_box rfl ?_
      refine y_get kX7_box rfl rfl hm rfl ?_
      refine y_run kX7_box rfl ?_
      refine y_ia kX7_box rfl hB (by omega) (by omega) ?_
      refine y_run kX7_box rfl ?_
      exact y_ir kX7_box rfl rfl ⟨Or.inl ⟨hr, d, rfl⟩, rfl, rfl⟩
  · refine y_if_eq kX7_box rfl rfl (fun _ => ?_) (fun q => absurd rfl q)
    refine y_run kX7_box rfl ?_
    exact y_ir kX7_box rfl rfl ⟨Or.inr ⟨fun g => hr g.1, rfl⟩, rfl, rfl⟩
theorem c_mplace {c : Nat} {i0 i1 i2 i3 i4 i5 i6 : Int} {B : Nat → Int} {T : Nat → Int} {v x y z dx dy dz : Int} (hm : h c = some (mo c i0 i1 i2 i3 i4 i5 i6)) (hB : h (c + 1) = some (ai 264 B)) (hsm : ∀ j, sm (B j)) (hT : h (c + 14) = some (ai 6 T)) (hTb : ∀ j, -1 ≤ T j ∧ T j ≤ 33) (hv : inI v) (h1 : inI x) (h2 : inI y) (h3 : inI z) (h4 : inI dx) (h5 : inI dy) (h6 : inI dz) : YM l G mX7_place 3 0 0 [vr c, vi v, vi x, vi y, vi z, vi dx, vi dy, vi dz] h n (fun r h' n' => ((¬ plc v x y z dx dy dz ∧ r = some (vi 1) ∧ h' = h) ∨ (plc v x y z dx dy dz ∧ ∃ g, least24 (mway B (tr6 T x y z dx dy dz) v) g ∧ ((g ≠ -1 ∧ r = some (vi (2 + 8 * g)) ∧ h' = yup h (c + 14) (ai 6 (tr6 T x y z dx dy dz))) ∨ (g = -1 ∧ r = some (vi 0) ∧ ((mT B v ∧ h' = yup (yup h (c + 14) (ai 6 (tr6 T x y z dx dy dz))) (c + 1) (ai 264 (bcp (upZ B (11 * v).toNat 1) (tr6 T x y z dx dy dz) v 6))) ∨ (¬ mT B v ∧ h' = yup (yup h (c + 14) (ai 6 (tr6 T x y z dx dy dz))) (c + 1) (ai 264 (bcp (upZ (bz B v 11) (11 * v).toNat 1) (tr6 T x y z dx dy dz) v 6)))))))) ∧ n' = n) := by
  refine YM.of kX7_place (Nat.le_of_ble_eq_true rfl) (L0 := [some (vr c), some (vi v), some (vi x), some (vi y), some (vi z), some (vi dx), some (vi dy), some (vi dz), none, none]) rfl ?_
  generalize hΦ : (fun (r : Option xV) (h' : yH) (n' : Nat) => ((¬ plc v x y z dx dy dz ∧ r = some (vi 1) ∧ h' = h) ∨ (plc v x y z dx dy dz ∧ ∃ g, least24 (mway B (tr6 T x y z dx dy dz) v) g ∧ ((g ≠ -1 ∧ r = some (vi (2 + 8 * g)) ∧ h' = yup h (c + 14) (ai 6 (tr6 T x y z dx dy dz))) ∨ (g = -1 ∧ r = some (vi 0) ∧ ((mT B v ∧ h' = yup (yup h (c + 14) (ai 6 (tr6 T x y z dx dy dz))) (c + 1) (ai 264 (bcp (upZ B (11 * v).toNat 1) (tr6 T x y z dx dy dz) v 6))) ∨ (¬ mT B v ∧ h' = yup (yup h (c + 14) (ai 6 (tr6 T x y z dx dy dz))) (c + 1) (ai 264 (bcp (upZ (bz B v 11) (11 * v).toNat 1) (tr6 T x y z dx dy dz) v 6)))))))) ∧ n' = n) = Φ
  have hno : ¬ plc v x y z dx dy dz → YW l (gT G) mX7_place 3 0 0 Φ 37 [some (vr c), some (vi v), some (vi x), some (vi y), some (vi z), some (vi dx), some (vi dy), some (vi dz), none, none] [] h n := fun g => by
    refine y_run kX7_place rfl ?_
    refine y_ir kX7_place rfl rfl ?_
    rw [← hΦ]
    exact ⟨Or.inl ⟨g, rfl, rfl⟩, rfl⟩
  refine y_run kX7_place rfl ?_
  refine y_cs kX7_place kX7_in 2 (rest := []) rfl (by decide +kernel) (c_in v 24 hv ⟨by omega, by omega⟩) rfl rfl ?_
  rintro r h' n' ⟨rfl, rfl, rfl⟩
  refine y_beq kX7_place rfl rfl (fun g => hno (fun q => g q.1)) (fun c0 => ?_)
  refine y_run kX7_place rfl ?_
  refine y_cs kX7_place kX7_lies 2 (rest := []) rfl (by decide +kernel) (c_mlies (f := x) (s := dx) h1 h4) rfl rfl ?_
  rintro r h' n' ⟨hr0, rfl, rfl⟩
  rcases hr0 with ⟨rfl, c1⟩ | ⟨rfl, c1⟩
  case inr => exact y_if_eq kX7_place rfl rfl (fun _ => hno (fun q => c1 q.2.1)) (fun q => absurd rfl q)
  refine y_if_eq kX7_place rfl rfl (fun q => absurd q (by omega)) (fun _ => ?_)
  refine y_run kX7_place rfl ?_
  refine y_cs kX7_place kX7_lies 2 (rest := []) rfl (by decide +kernel) (c_mlies (f := y) (s := dy) h2 h5) rfl rfl ?_
  rintro r h' n' ⟨hr1, rfl, rfl⟩
  rcases hr1 with ⟨rfl, c2⟩ | ⟨rfl, c2⟩
  case inr => exact y_if_eq kX7_place rfl rfl (fun _ => hno (fun q => c2 q.2.2.1)) (fun q => absurd rfl q)
  refine y_if_eq kX7_place rfl rfl (fun q => absurd q (by omega)) (fun _ => ?_)
  refine y_run kX7_place rfl ?_
  refine y_cs kX7_place kX7_lies 2 (rest := []) rfl (by decide +kernel) (c_mlies (f := z) (s := dz) h3 h6) rfl rfl ?_
  rintro r h' n' ⟨hr2, rfl, rfl⟩
  rcases hr2 with ⟨rfl, c3⟩ | ⟨rfl, c3⟩
  case inr => exact y_if_ne kX7_place rfl rfl (fun q => absurd rfl q) (fun _ => hno (fun q => c3 q.2.2.2))
  refine y_if_ne kX7_place rfl rfl (fun _ => ?_) (fun q => absurd q (by omega))
  have hp : plc v x y z dx dy dz := ⟨c0, c1, c2, c3⟩
  have hTb2 := tr6_b hp hTb
  refine y_run kX7_place rfl ?_
  refine y_get kX7_place rfl rfl hm rfl ?_
  refine y_run kX7_place rfl ?_
  refine y_is kX7_place rfl hT (by omega) (by omega) ?_
  refine y_run kX7_place rfl ?_
  refine y_get kX7_place rfl rfl ((yup_ne _ _ (by omega)).trans hm) rfl ?_
  refine y_run kX7_place rfl ?_
  refine y_is2 kX7_place rfl (by omega) (by omega) ?_
  refine y_run kX7_place rfl ?_
  refine y_get kX7_place rfl rfl ((yup_ne _ _ (by omega)).trans hm) rfl ?_
  refine y_run kX7_place rfl ?_
  refine y_is2 kX7_place rfl (by omega) (by omega) ?_
  refine y_run kX7_place rfl ?_
  refine y_get kX7_place rfl rfl ((yup_ne _ _ (by omega)).trans hm) rfl ?_
  refine y_run kX7_place rfl ?_
  refine y_is2 kX7_place rfl (by omega) (by omega) ?_
  refine y_run kX7_place rfl ?_
  refine y_get kX7_place rfl rfl ((yup_ne _ _ (by omega)).trans hm) rfl ?_
  refine y_run kX7_place rfl ?_
  refine y_is2 kX7_place rfl (by omega) (by omega) ?_
  refine y_run kX7_place rfl ?_
  refine y_get kX7_place rfl rfl ((yup_ne _ _ (by omega)).trans hm) rfl ?_
  refine y_run kX7_place rfl ?_
  refine y_is2 kX7_place rfl (by omega) (by omega) ?_
  refine YW.he (h' := yup h' (c + 14) (ai 6 (tr6 T x y z dx dy dz))) rfl ?_
  have hm2 : yup h' (c + 14) (ai 6 (tr6 T x y z dx dy dz)) c = some (mo c i0 i1 i2 i3 i4 i5 i6) := (yup_ne _ _ (by omega)).trans hm
  have hB2 : yup h' (c + 14) (ai 6 (tr6 T x y z dx dy dz)) (c + 1) = some (ai 264 B) := (yup_ne _ _ (by omega)).trans hB
  refine y_run kX7_place rfl ?_
  refine y_get kX7_place rfl rfl hm2 rfl ?_
  refine y_cv kX7_place kX7_meets 2 (rest := []) rfl hm2 (by decide +kernel) (c_meets hm2 hB2 (yup_eq _ _ _) hsm (fun j => ⟨by have := hTb2 j; omega, by have := hTb2 j; omega⟩) hv) rfl rfl ?_
  rintro r h1 n' ⟨⟨g, rfl, hg⟩, rfl, rfl⟩
  have hgb : -1 ≤ g ∧ g < 24 := by rcases hg with ⟨a1, a2, -⟩ | ⟨a1, -⟩ <;> omega
  refine y_run kX7_place rfl ?_
  refine y_ic_eq kX7_place rfl rfl (fun cg => ?_) (fun cg => ?_)
  · refine y_run kX7_place rfl ?_
    refine y_cv kX7_place kX7_isThere 1 (rest := []) rfl hm2 (by decide +kernel) (c_isThere hm2 hB2 hsm hv) rfl rfl ?_
    rintro r h1 n' ⟨hr, rfl, rfl⟩
    rcases hr with ⟨rfl, hr⟩ | ⟨rfl, hr⟩
    · refine y_if_ne kX7_place rfl rfl (fun _ => ?_) (fun q => absurd q (by omega))
      refine y_run kX7_place rfl ?_
      refine y_get kX7_place rfl rfl hm2 rfl ?_
      refine y_run kX7_place rfl ?_
      refine y_is kX7_place rfl hB2 (by omega) (by omega) ?_
      refine y_run kX7_place rfl ?_
      have := s_pl2 (l := l) (G := gT G) (n := n') (Φ := Φ) (x := x) (y := y) (z := z) (dx := dx) (dy := dy) (dz := dz) (u := g) (B := upZ B (11 * v).toNat 1) c0.1 c0.2 hm2 (yup_eq _ _ _) (by
        rw [← hΦ]
        exact ⟨Or.inr ⟨hp, g, hg, Or.inr ⟨cg, rfl, Or.inl ⟨hr, rfl⟩⟩⟩, rfl⟩) 6 0 (by omega) (by omega)
      rw [bcp_0] at this
      exact this
    · refine y_if_ne kX7_place rfl rfl (fun q => absurd rfl q) (fun _ => ?_)
      refine y_run kX7_place rfl ?_
      have := s_pl1 (l := l) (G := gT G) (n := n') (Φ := Φ) (x := x) (y := y) (z := z) (dx := dx) (dy := dy) (dz := dz) (u := g) (B := B) c0.1 c0.2 hm2 (yup_eq _ _ _) (by
        rw [← hΦ]
        exact ⟨Or.inr ⟨hp, g, hg, Or.inr ⟨cg, rfl, Or.inr ⟨hr, rfl⟩⟩⟩, rfl⟩) 4 7 (by omega) (by omega)
      rw [bz_7] at this
      refine YW.he ?_ this
      funext q
      by_cases cq : q = c + 1
      · subst cq; rw [yup_eq]; exact hB2
      · rw [yup_ne _ _ cq]
  · refine y_run kX7_place rfl ?_
    refine y_ir kX7_place rfl rfl ?_
    rw [← hΦ]
    exact ⟨Or.inr ⟨hp, g, hg, Or.inl ⟨cg, rfl, rfl⟩⟩, rfl⟩
end C22
end
section
/-- the boxes, box v moved by e along axis x; its ends then -/
def msh (B : Nat → Int) (v x e : Int) : Nat → Int := fun j => if (j : Int) = 11 * v + 1 + 2 * x ∨ (j : Int) = 11 * v + 2 + 2 * x then B j + e else B j
def mshT (B : Nat → Int) (v x e : Int) : Nat → Int := fun j => msh B v x e ((11 * v + 1).toNat + j)
def mgoOK (B : Nat → Int) (v x e : Int) : Prop := 0 ≤ B (11 * v + 1 + 2 * x).toNat + e ∧ B (11 * v + 2 + 2 * x).toNat + e ≤ 32 ∧ ∀ b, 0 ≤ b → b < 24 → ¬ mway B (mshT B v x e) v b
def tgk (B T : Nat → Int) (v x e k : Int) : Nat → Int := fun j => if (j : Int) < k then mshT B v x e j else T j
theorem tgk_0 (B T : Nat → Int) (v x e : Int) : tgk B T v x e 0 = T := by
  funext j
  unfold tgk
  rw [if_neg (by omega)]
theorem tgk_s (B T : Nat → Int) {v x e k y : Int} (hk : 0 ≤ k) (hy : y = mshT B v x e k.toNat) : upZ (tgk B T v x e k) k.toNat y = tgk B T v x e (k + 1) := by
  subst hy
  funext j
  unfold upZ tgk
  by_cases c : j = k.toNat
  · rw [if_pos c, if_pos (by omega), c]
  · rw [if_neg c]
    by_cases c2 : (j : Int) < k
    · rw [if_pos c2, if_pos (by omega)]
    · rw [if_neg c2, if_neg (by omega)]
theorem movl_congr {B T T' : Nat → Int} {b d : Int} (hd : 0 ≤ d) (hd2 : d ≤ 4) (hT : ∀ j : Nat, j < 6 → T j = T' j) : movl B T b d ↔ movl B T' b d := by
  unfold movl
  rw [hT d.toNat (by omega), hT (d + 1).toNat (by omega)]
theorem mway_congr {B T T' : Nat → Int} {v b : Int} (hT : ∀ j : Nat, j < 6 → T j = T' j) : mway B T v b ↔ mway B T' v b := by
  unfold mway
  rw [movl_congr (B := B) (b := b) (d := 0) (by omega) (by omega) hT, movl_congr (B := B) (b := b) (d := 2) (by omega) (by omega) hT, movl_congr (B := B) (b := b) (d := 4) (by omega) (by omega) hT]
theorem msh_cp (B T : Nat → Int) {v x e : Int} (hv : 0 ≤ v) (hx : 0 ≤ x) (hx2 : x < 3) (hT : ∀ j : Nat, j < 6 → T j = mshT B v x e j) : bcp B T v 6 = msh B v x e := by
  funext j
  unfold bcp
  by_cases c : 11 * v + 1 ≤ (j : Int) ∧ (j : Int) < 11 * v + 1 + 6
  · rw [if_pos c, hT _ (by omega)]
    unfold mshT
    congr 1
    omega
  · rw [if_neg c]
    unfold msh
    rw [if_neg (by omega)]
section C23
variable {l : Launch} {G : xG} {h : yH} {n : Nat}
theorem s_goes2 {Φ : Option xV → yH → Nat → Prop} {c : Nat} {v ax s u4 u5 i0 i1 i2 i3 i4 i5 i6 : Int} {B T : Nat → Int} {h0 : yH} (hv : 0 ≤ v) (hv2 : v < 24) (hm : h0 c = some (mo c i0 i1 i2 i3 i4 i5 i6)) (hT : h0 (c + 14) = some (ai 6 T)) (hΦ : Φ (some (vi 1)) (yup h0 (c + 1) (ai 264 (bcp B T v 6))) n) :
    ∀ (m : Nat) (k : Int), k = 6 - (m : Int) → 0 ≤ k → YW l G mX7_goes 3 0 0 Φ 120 [some (vr c), some (vi v), some (vi ax), some (vi s), some (vi u4), some (vi u5), some (vi k)] [] (yup h0 (c + 1) (ai 264 (bcp B T v k))) n := by
  intro m
  induction m with
  | zero =>
    intro k hk hk0
    have e : k = 6 := by omega
    subst e
    refine y_run kX7_goes rfl ?_
    refine y_ic_ge kX7_goes rfl rfl (fun c1 => ?_) (fun c1 => absurd c1 (by omega))
    refine y_run kX7_goes rfl ?_
    exact y_zr kX7_goes rfl rfl (Or.inr rfl) hΦ
  | succ m ih =>
    intro k hk hk0
    refine y_run kX7_goes rfl ?_
    refine y_ic_ge kX7_goes rfl rfl (fun c1 => absurd c1 (by omega)) (fun c1 => ?_)
    refine y_run kX7_goes rfl ?_
    refine y_get kX7_goes rfl rfl ((yup_ne _ _ (by omega)).trans hm) rfl ?_
    refine y_run kX7_goes rfl ?_
    refine y_get kX7_goes rfl rfl ((yup_ne _ _ (by omega)).trans hm) rfl ?_
    refine y_run kX7_goes rfl ?_
    refine y_ia kX7_goes rfl ((yup_ne _ _ (by omega)).trans hT) (by omega) (by omega) ?_
    refine y_is2 kX7_goes rfl (by omega) (by omega) ?_
    refine y_run kX7_goes rfl ?_
    rw [bcp_s B T hv hk0]
    exact ih (k + 1) (by omega) (by omega)
theorem s_goes1 {Φ : Option xV → yH → Nat → Prop} {c : Nat} {v ax s i0 i1 i2 i3 i4 i5 i6 : Int} {B T : Nat → Int} {h0 : yH} (hv : 0 ≤ v) (hv2 : v < 24) (ha : 0 ≤ ax) (ha2 : ax < 6) (hm : h0 c = some (mo c i0 i1 i2 i3 i4 i5 i6)) (hB : h0 (c + 1) = some (ai 264 B))
    (kk : YW l G mX7_goes 3 0 0 Φ 64 [some (vr c), some (vi v), some (vi ax), some (vi s), some (vi 6), none, none] [] (yup h0 (c + 14) (ai 6 (tgk B T v (ax % 3) s 6))) n) :
    ∀ (m : Nat) (k : Int), k = 6 - (m : Int) → 0 ≤ k → YW l G mX7_goes 3 0 0 Φ 14 [some (vr c), some (vi v), some (vi ax), some (vi s), some (vi k), none, none] [] (yup h0 (c + 14) (ai 6 (tgk B T v (ax % 3) s k))) n := by
  intro m
  induction m with
  | zero =>
    intro k hk hk0
    have e : k = 6 := by omega
    subst e
    refine y_run kX7_goes rfl ?_
    refine y_ic_ge kX7_goes rfl rfl (fun c1 => kk) (fun c1 => absurd c1 (by omega))
  | succ m ih =>
    intro k hk hk0
    refine y_run kX7_goes rfl ?_
    refine y_ic_ge kX7_goes rfl rfl (fun c1 => absurd c1 (by omega)) (fun c1 => ?_)
    refine y_run kX7_goes rfl ?_
    refine y_get kX7_goes rfl rfl ((yup_ne _ _ (by omega)).trans hm) rfl ?_
    refine y_run kX7_goes rfl ?_
    refine y_get kX7_goes rfl rfl ((yup_ne _ _ (by omega)).trans hm) rfl ?_
    refine y_run kX7_goes rfl ?_
    refine y_ia kX7_goes rfl ((yup_ne _ _ (by omega)).trans hB) (by omega) (by omega) ?_
    refine y_run kX7_goes rfl ?_
    refine y_idiv kX7_goes rfl (by omega) (by omega) (by omega) (by omega) ?_
    refine y_run kX7_goes rfl ?_
    refine y_irem kX7_goes rfl (by omega) (by omega) (by omega) (by omega) ?_
    have e0 : (11 * v + 1).toNat + k.toNat = (11 * v + 1 + k).toNat := by omega
    refine y_ic_ne kX7_goes rfl rfl (fun c2 => ?_) (fun c2 => ?_)
    · refine y_run kX7_goes rfl ?_
      refine y_is2 kX7_goes rfl (by omega) (by omega) ?_
      refine y_run kX7_goes rfl ?_
      rw [tgk_s B T hk0 (by unfold mshT msh; rw [if_neg (by omega), e0]; omega)]
      exact ih (k + 1) (by omega) (by omega)
    · refine y_run kX7_goes rfl ?_
      refine y_is2 kX7_goes rfl (by omega) (by omega) ?_
      refine y_run kX7_goes rfl ?_
      rw [tgk_s B T hk0 (by unfold mshT msh; rw [if_pos (by omega), e0])]
      exact ih (k + 1) (by omega) (by omega)
theorem c_goes {c : Nat} {v ax i0 i1 i2 i3 i4 i5 i6 : Int} {B T : Nat → Int} (hm : h c = some (mo c i0 i1 i2 i3 i4 i5 i6)) (hB : h (c + 1) = some (ai 264 B)) (hT : h (c + 14) = some (ai 6 T)) (hBb : ∀ j, 0 ≤ B j ∧ B j ≤ 32) (hv : 0 ≤ v) (hv2 : v < 24) (ha : 0 ≤ ax) (ha2 : ax < 6) (hTb : ∀ j, -1 ≤ T j ∧ T j ≤ 33) :
    YM l G mX7_goes 3 0 0 [vr c, vi v, vi ax] h n (fun r h' n' => (∃ T', (∀ j, -1 ≤ T' j ∧ T' j ≤ 33) ∧ ((¬ mgoOK B v (ax % 3) (sSt ax) ∧ r = some (vi 0) ∧ h' = yup h (c + 14) (ai 6 T')) ∨ (mgoOK B v (ax % 3) (sSt ax) ∧ r = some (vi 1) ∧ h' = yup (yup h (c + 14) (ai 6 T')) (c + 1) (ai 264 (msh B v (ax % 3) (sSt ax)))))) ∧ n' = n) := by
  have hs1 : sSt ax = 1 ∨ sSt ax = -1 := by unfold sSt; split <;> omega
  have hT6 : ∀ j : Nat, j < 6 → tgk B T v (ax % 3) (sSt ax) 6 j = mshT B v (ax % 3) (sSt ax) j := fun j hj => by
    unfold tgk
    rw [if_pos (by omega)]
  have hTb2 : ∀ j, -1 ≤ tgk B T v (ax % 3) (sSt ax) 6 j ∧ tgk B T v (ax % 3) (sSt ax) 6 j ≤ 33 := fun j => by
    unfold tgk
    split
    · unfold mshT msh
      have := hBb ((11 * v + 1).toNat + j)
      split <;> omega
    · exact hTb j
  have q0 : tgk B T v (ax % 3) (sSt ax) 6 (ax % 3 * 2).toNat = B (11 * v + 1 + 2 * (ax % 3)).toNat + sSt ax := by
    rw [hT6 _ (by omega)]
    unfold mshT msh
    rw [if_pos (by omega)]
    congr 2
    omega
  have q1 : tgk B T v (ax % 3) (sSt ax) 6 (ax % 3 * 2 + 1).toNat = B (11 * v + 2 + 2 * (ax % 3)).toNat + sSt ax := by
    rw [hT6 _ (by omega)]
    unfold mshT msh
    rw [if_pos (by omega)]
    congr 2
    omega
  have w0 := hBb (11 * v + 1 + 2 * (ax % 3)).toNat
  have w1 := hBb (11 * v + 2 + 2 * (ax % 3)).toNat
  refine YM.of kX7_goes (Nat.le_of_ble_eq_true rfl) (L0 := [some (vr c), some (vi v), some (vi ax), none, none, none, none]) rfl ?_
  generalize hΦ : (fun (r : Option xV) (h' : yH) (n' : Nat) => (∃ T', (∀ j, -1 ≤ T' j ∧ T' j ≤ 33) ∧ ((¬ mgoOK B v (ax % 3) (sSt ax) ∧ r = some (vi 0) ∧ h' = yup h (c + 14) (ai 6 T')) ∨ (mgoOK B v (ax % 3) (sSt ax) ∧ r = some (vi 1) ∧ h' = yup (yup h (c + 14) (ai 6 T')) (c + 1) (ai 264 (msh B v (ax % 3) (sSt ax)))))) ∧ n' = n) = Φ
  generalize hh1 : yup h (c + 14) (ai 6 (tgk B T v (ax % 3) (sSt ax) 6)) = h1
  have hm1 : h1 c = some (mo c i0 i1 i2 i3 i4 i5 i6) := by rw [← hh1]; exact (yup_ne _ _ (by omega)).trans hm
  have hB1 : h1 (c + 1) = some (ai 264 B) := by rw [← hh1]; exact (yup_ne _ _ (by omega)).trans hB
  have hT1 : h1 (c + 14) = some (ai 6 (tgk B T v (ax % 3) (sSt ax) 6)) := by rw [← hh1]; exact yup_eq _ _ _
  have hno : ¬ mgoOK B v (ax % 3) (sSt ax) → ∀ L, YW l (gT G) mX7_goes 3 0 0 Φ 115 L [] h1 n := fun g L => by
    refine y_run kX7_goes rfl ?_
    refine y_zr kX7_goes rfl rfl (Or.inl rfl) ?_
    rw [← hΦ, ← hh1]
    exact ⟨⟨_, hTb2, Or.inl ⟨g, rfl, rfl⟩⟩, rfl⟩
  have kk : YW l (gT G) mX7_goes 3 0 0 Φ 64 [some (vr c), some (vi v), some (vi ax), some (vi (sSt ax)), some (vi 6), none, none] [] h1 n := by
    refine y_run kX7_goes rfl ?_
    refine y_get kX7_goes rfl rfl hm1 rfl ?_
    refine y_run kX7_goes rfl ?_
    refine y_irem kX7_goes rfl (by omega) (by omega) (by omega) (by omega) ?_
    refine y_run kX7_goes rfl ?_
    refine y_ie kX7_goes rfl hT1 (by omega) (by omega) q0 ?_
    refine y_run kX7_goes rfl ?_
    refine y_get kX7_goes rfl rfl hm1 rfl ?_
    refine y_run kX7_goes rfl ?_
    refine y_irem kX7_goes rfl (by omega) (by omega) (by omega) (by omega) ?_
    refine y_run kX7_goes rfl ?_
    refine y_ie kX7_goes rfl hT1 (by omega) (by omega) q1 ?_
    refine y_run kX7_goes rfl ?_
    refine y_if_lt kX7_goes rfl rfl (fun c1 => hno (fun g => absurd g.1 (by omega)) _) (fun c1 => ?_)
    refine y_run kX7_goes rfl ?_
    refine y_ic_gt kX7_goes rfl rfl (fun c2 => hno (fun g => absurd g.2.1 (by omega)) _) (fun c2 => ?_)
    refine y_run kX7_goes rfl ?_
    refine y_get kX7_goes rfl rfl hm1 rfl ?_
    refine y_cv kX7_goes kX7_meets 2 (rest := []) rfl hm1 (by decide +kernel) (c_meets hm1 hB1 hT1 (fun j => ⟨by have := hBb j; omega, by have := hBb j; omega⟩) (fun j => ⟨by have := hTb2 j; omega, by have := hTb2 j; omega⟩) ⟨by omega, by omega⟩) rfl rfl ?_
    rintro r h2 n' ⟨⟨g, rfl, hg⟩, rfl, rfl⟩
    have hgb : -1 ≤ g ∧ g < 24 := by rcases hg with ⟨a1, a2, -⟩ | ⟨a1, -⟩ <;> omega
    refine y_run kX7_goes rfl ?_
    refine y_ic_eq kX7_goes rfl rfl (fun cg => ?_) (fun cg => ?_)
    · have hok : mgoOK B v (ax % 3) (sSt ax) := ⟨by omega, by omega, fun b b0 b1 q => by
        rcases hg with ⟨a1, -⟩ | ⟨-, a2⟩
        · omega
        · exact a2 b b0 b1 ((mway_congr hT6).mpr q)⟩
      refine y_run kX7_goes rfl ?_
      have := s_goes2 (l := l) (G := gT G) (n := n') (Φ := Φ) (ax := ax) (s := sSt ax) (u4 := B (11 * v + 1 + 2 * (ax % 3)).toNat + sSt ax) (u5 := B (11 * v + 2 + 2 * (ax % 3)).toNat + sSt ax) (B := B) hv hv2 hm1 hT1 (by
        rw [← hΦ, msh_cp B _ hv (by omega) (by omega) hT6, ← hh1]
        exact ⟨⟨_, hTb2, Or.inr ⟨hok, rfl, rfl⟩⟩, rfl⟩) 6 0 (by omega) (by omega)
      rw [bcp_0] at this
      refine YW.he ?_ this
      funext q
      by_cases cq : q = c + 1
      · subst cq; rw [yup_eq]; exact hB1
      · rw [yup_ne _ _ cq]
    · refine hno (fun q => ?_) _
      rcases hg with ⟨a1, a2, a3, -⟩ | ⟨a1, -⟩
      · exact q.2.2 g a1 a2 ((mway_congr hT6).mp a3)
      · omega
  have k14 := s_goes1 (l := l) (G := gT G) (n := n) (Φ := Φ) (T := T) hv hv2 ha ha2 hm hB (by rw [hh1]; exact kk) 6 0 (by omega) (by omega)
  rw [tgk_0] at k14
  have k14' : YW l (gT G) mX7_goes 3 0 0 Φ 14 [some (vr c), some (vi v), some (vi ax), some (vi (sSt ax)), some (vi 0), none, none] [] h n := by
    refine YW.he ?_ k14
    funext q
    by_cases cq : q = c + 14
    · subst cq; rw [yup_eq]; exact hT
    · rw [yup_ne _ _ cq]
  refine y_run kX7_goes rfl ?_
  refine y_ic_ge kX7_goes rfl rfl (fun c1 => ?_) (fun c1 => ?_)
  · have e : sSt ax = -1 := by unfold sSt; rw [if_neg (by omega)]
    rw [e] at k14'
    refine y_run kX7_goes rfl ?_
    exact k14'
  · have e : sSt ax = 1 := by unfold sSt; rw [if_pos (by omega)]
    rw [e] at k14'
    refine y_run kX7_goes rfl ?_
    exact k14'
end C23
end
section
theorem msh_msh (B : Nat → Int) (v x e e' : Int) : msh (msh B v x e) v x e' = msh B v x (e + e') := by
  funext j
  unfold msh
  by_cases c : (j : Int) = 11 * v + 1 + 2 * x ∨ (j : Int) = 11 * v + 2 + 2 * x
  · rw [if_pos c, if_pos c, if_pos c]; omega
  · rw [if_neg c, if_neg c, if_neg c]
theorem msh_0 (B : Nat → Int) (v x : Int) : msh B v x 0 = B := by
  funext j
  unfold msh
  split <;> omega
theorem msh_off {B : Nat → Int} {v x e : Int} {j : Nat} (hx : 0 ≤ x) (hx2 : x < 3) (hj : (j : Int) ≤ 11 * v ∨ 11 * v + 7 ≤ (j : Int)) : msh B v x e j = B j := by
  unfold msh
  rw [if_neg (by omega)]
theorem msh_mT {B : Nat → Int} {v x e b : Int} (hx : 0 ≤ x) (hx2 : x < 3) (hv : 0 ≤ v) : mT (msh B v x e) b ↔ mT B b := by
  unfold mT
  constructor
  · rintro ⟨q1, q2⟩
    refine ⟨q1, ?_⟩
    rw [← q2, msh_off hx hx2]
    by_cases c : b ≤ v
    · left; omega
    · right; omega
  · rintro ⟨q1, q2⟩
    refine ⟨q1, ?_⟩
    rw [← q2, msh_off hx hx2]
    by_cases c : b ≤ v
    · left; omega
    · right; omega
theorem msh_mway {B T : Nat → Int} {v x e b : Int} (hx : 0 ≤ x) (hx2 : x < 3) (hv : 0 ≤ v) (hb : 0 ≤ b) : mway (msh B v x e) T v b ↔ mway B T v b := by
  unfold mway
  by_cases c : b = v
  · constructor <;> (intro q; exact absurd c q.1)
  · have o : ∀ d : Int, 0 ≤ d → d ≤ 4 → (movl (msh B v x e) T b d ↔ movl B T b d) := fun d d0 d1 => by
      unfold movl
      rw [msh_off hx hx2 (by omega), msh_off hx hx2 (by omega)]
    rw [msh_mT hx hx2 hv, o 0 (by omega) (by omega), o 2 (by omega) (by omega), o 4 (by omega) (by omega)]
theorem msh_go {B : Nat → Int} {v x e e' : Int} (hx : 0 ≤ x) (hx2 : x < 3) (hv : 0 ≤ v) : mgoOK (msh B v x e) v x e' ↔ mgoOK B v x (e + e') := by
  unfold mgoOK
  have a0 : msh B v x e (11 * v + 1 + 2 * x).toNat = B (11 * v + 1 + 2 * x).toNat + e := by unfold msh; rw [if_pos (by omega)]
  have a1 : msh B v x e (11 * v + 2 + 2 * x).toNat = B (11 * v + 2 + 2 * x).toNat + e := by unfold msh; rw [if_pos (by omega)]
  have a2 : mshT (msh B v x e) v x e' = mshT B v x (e + e') := by unfold mshT; rw [msh_msh]
  rw [a0, a1, a2]
  constructor
  · rintro ⟨q1, q2, q3⟩
    exact ⟨by omega, by omega, fun b b0 b1 q => q3 b b0 b1 ((msh_mway hx hx2 hv b0).mpr q)⟩
  · rintro ⟨q1, q2, q3⟩
    exact ⟨by omega, by omega, fun b b0 b1 q => q3 b b0 b1 ((msh_mway hx hx2 hv b0).mp q)⟩
def mwent (B : Nat → Int) (v x s M w : Int) : Prop := 0 ≤ w ∧ w ≤ M ∧ (∀ i, 1 ≤ i → i ≤ w → mgoOK B v x (s * i)) ∧ (w = M ∨ ¬ mgoOK B v x (s * (w + 1)))
def msld (B : Nat → Int) (v x M : Int) : Prop := mT B v ∧ (0 ≤ x ∧ x < 6) ∧ (0 ≤ M ∧ M < 33)
section C24
variable {l : Launch} {G : xG} {n : Nat}
theorem s_mslide {Φ : Option xV → yH → Nat → Prop} {h0 : yH} {c : Nat} {v ax M i0 i1 i2 i3 i4 i5 i6 : Int} {B : Nat → Int} (hm0 : h0 c = some (mo c i0 i1 i2 i3 i4 i5 i6)) (hBb : ∀ j, 0 ≤ B j ∧ B j ≤ 32) (hwd : B (11 * v + 1 + 2 * (ax % 3)).toNat ≤ B (11 * v + 2 + 2 * (ax % 3)).toNat) (hv : 0 ≤ v) (hv2 : v < 24) (ha : 0 ≤ ax) (ha2 : ax < 6) (hM2 : M ≤ 32)
    (hΦ : ∀ (w : Int) (h' : yH) (T' : Nat → Int), mwent B v (ax % 3) (sSt ax) M w → h' (c + 1) = some (ai 264 (msh B v (ax % 3) (sSt ax * w))) → h' (c + 14) = some (ai 6 T') → (∀ j, -1 ≤ T' j ∧ T' j ≤ 33) → (∀ q, q ≠ c + 1 → q ≠ c + 14 → h' q = h0 q) → Φ (some (vi w)) h' n) :
    ∀ (m : Nat) (k : Int) (h : yH) (T : Nat → Int), k = M - (m : Int) → 0 ≤ k → (∀ i, 1 ≤ i → i ≤ k → mgoOK B v (ax % 3) (sSt ax * i)) → (∀ j, 0 ≤ msh B v (ax % 3) (sSt ax * k) j ∧ msh B v (ax % 3) (sSt ax * k) j ≤ 32) → h (c + 1) = some (ai 264 (msh B v (ax % 3) (sSt ax * k))) → h (c + 14) = some (ai 6 T) → (∀ j, -1 ≤ T j ∧ T j ≤ 33) → (∀ q, q ≠ c + 1 → q ≠ c + 14 → h q = h0 q) →
      YW l G mX7_slide 4 0 0 Φ 31 [some (vr c), some (vi v), some (vi ax), some (vi M), some (vi k)] [] h n := by
  have hs1 : sSt ax = 1 ∨ sSt ax = -1 := by unfold sSt; split <;> omega
  intro m
  induction m with
  | zero =>
    intro k h T hk hk0 hok hBk hB hT hTb hfr
    have e : k = M := by omega
    subst e
    refine y_run kX7_slide rfl ?_
    refine y_ic_ge kX7_slide rfl rfl (fun c1 => ?_) (fun c1 => absurd c1 (by omega))
    refine y_run kX7_slide rfl ?_
    exact y_ir kX7_slide rfl rfl (hΦ k h T ⟨hk0, by omega, hok, Or.inl rfl⟩ hB hT hTb hfr)
  | succ m ih =>
    intro k h T hk hk0 hok hBk hB hT hTb hfr
    have hstep : sSt ax * (k + 1) = sSt ax * k + sSt ax := by rw [Int.mul_add, Int.mul_one]
    have hm : h c = some (mo c i0 i1 i2 i3 i4 i5 i6) := (hfr c (by omega) (by omega)).trans hm0
    refine y_run kX7_slide rfl ?_
    refine y_ic_ge kX7_slide rfl rfl (fun c1 => absurd c1 (by omega)) (fun c1 => ?_)
    refine y_run kX7_slide rfl ?_
    refine y_cv kX7_slide kX7_goes 2 (rest := []) rfl hm (by decide +kernel) (c_goes hm hB hT hBk hv hv2 ha ha2 hTb) rfl rfl ?_
    rintro r h' n' ⟨⟨T', hT', hr⟩, rfl⟩
    rw [msh_go (by omega) (by omega) hv, ← hstep, msh_msh, ← hstep] at hr
    rcases hr with ⟨g, rfl, rfl⟩ | ⟨g, rfl, rfl⟩
    · refine y_if_eq kX7_slide rfl rfl (fun _ => ?_) (fun q => absurd rfl q)
      refine y_run kX7_slide rfl ?_
      exact y_ir kX7_slide rfl rfl (hΦ k _ T' ⟨hk0, by omega, hok, Or.inr g⟩ ((yup_ne _ _ (by omega)).trans hB) (yup_eq _ _ _) hT' (fun q q1 q2 => (yup_ne _ _ q2).trans (hfr q q1 q2)))
    · refine y_if_eq kX7_slide rfl rfl (fun q => absurd q (by omega)) (fun _ => ?_)
      refine y_run kX7_slide rfl ?_
      have g0 := g.1
      have g1 := g.2.1
      refine ih (k + 1) _ T' (by omega) (by omega) (fun i i1 i2 => ?_) (fun j => ?_) (yup_eq _ _ _) ((yup_ne _ _ (by omega)).trans (yup_eq _ _ _)) hT' (fun q q1 q2 => (yup_ne _ _ q1).trans ((yup_ne _ _ q2).trans (hfr q q1 q2)))
      · by_cases ci : i = k + 1
        · rw [ci]; exact g
        · exact hok i i1 (by omega)
      · unfold msh
        by_cases cj : (j : Int) = 11 * v + 1 + 2 * (ax % 3) ∨ (j : Int) = 11 * v + 2 + 2 * (ax % 3)
        · rw [if_pos cj]
          rcases cj with cj | cj
          · rw [show j = (11 * v + 1 + 2 * (ax % 3)).toNat by omega]; omega
          · rw [show j = (11 * v + 2 + 2 * (ax % 3)).toNat by omega]; omega
        · rw [if_neg cj]; exact hBb j
theorem c_mslide {h : yH} {c : Nat} {v ax M i0 i1 i2 i3 i4 i5 i6 : Int} {B T : Nat → Int} (hm : h c = some (mo c i0 i1 i2 i3 i4 i5 i6)) (hB : h (c + 1) = some (ai 264 B)) (hT : h (c + 14) = some (ai 6 T)) (hBb : ∀ j, 0 ≤ B j ∧ B j ≤ 32) (hTb : ∀ j, -1 ≤ T j ∧ T j ≤ 33) (hwd : ∀ v, mT B v → ∀ x, 0 ≤ x → x < 3 → B (11 * v + 1 + 2 * x).toNat ≤ B (11 * v + 2 + 2 * x).toNat) (hv : inI v) (hi : inI ax) (hM : inI M) :
    YM l G mX7_slide 4 0 0 [vr c, vi v, vi ax, vi M] h n (fun r h' n' => ((¬ msld B v ax M ∧ r = some (vi (-1)) ∧ h' = h) ∨ (msld B v ax M ∧ ∃ w T', r = some (vi w) ∧ mwent B v (ax % 3) (sSt ax) M w ∧ h' (c + 1) = some (ai 264 (msh B v (ax % 3) (sSt ax * w))) ∧ h' (c + 14) = some (ai 6 T') ∧ (∀ j, -1 ≤ T' j ∧ T' j ≤ 33) ∧ (∀ q, q ≠ c + 1 → q ≠ c + 14 → h' q = h q))) ∧ n' = n) := by
  refine YM.of kX7_slide (Nat.le_of_ble_eq_true rfl) (L0 := [some (vr c), some (vi v), some (vi ax), some (vi M), none]) rfl ?_
  generalize hΦ : (fun (r : Option xV) (h' : yH) (n' : Nat) => ((¬ msld B v ax M ∧ r = some (vi (-1)) ∧ h' = h) ∨ (msld B v ax M ∧ ∃ w T', r = some (vi w) ∧ mwent B v (ax % 3) (sSt ax) M w ∧ h' (c + 1) = some (ai 264 (msh B v (ax % 3) (sSt ax * w))) ∧ h' (c + 14) = some (ai 6 T') ∧ (∀ j, -1 ≤ T' j ∧ T' j ≤ 33) ∧ (∀ q, q ≠ c + 1 → q ≠ c + 14 → h' q = h q))) ∧ n' = n) = Φ
  have hno : ¬ msld B v ax M → YW l (gT G) mX7_slide 4 0 0 Φ 26 [some (vr c), some (vi v), some (vi ax), some (vi M), none] [] h n := fun g => by
    refine y_run kX7_slide rfl ?_
    refine y_ir kX7_slide rfl rfl ?_
    rw [← hΦ]
    exact ⟨Or.inl ⟨g, rfl, rfl⟩, rfl⟩
  refine y_run kX7_slide rfl ?_
  refine y_cv kX7_slide kX7_isThere 1 (rest := []) rfl hm (by decide +kernel) (c_isThere hm hB (fun j => ⟨by have := hBb j; omega, by have := hBb j; omega⟩) hv) rfl rfl ?_
  rintro r h' n' ⟨hr, rfl, rfl⟩
  rcases hr with ⟨rfl, hr⟩ | ⟨rfl, hr⟩
  case inr => exact y_if_eq kX7_slide rfl rfl (fun _ => hno (fun g => hr g.1)) (fun q => absurd rfl q)
  refine y_if_eq kX7_slide rfl rfl (fun q => absurd q (by omega)) (fun _ => ?_)
  refine y_run kX7_slide rfl ?_
  refine y_cs kX7_slide kX7_in 2 (rest := []) rfl (by decide +kernel) (c_in ax 6 hi ⟨by omega, by omega⟩) rfl rfl ?_
  rintro r h' n' ⟨rfl, rfl, rfl⟩
  refine y_beq kX7_slide rfl rfl (fun d => hno (fun g => d g.2.1)) (fun d0 => ?_)
  refine y_run kX7_slide rfl ?_
  refine y_cs kX7_slide kX7_in 2 (rest := []) rfl (by decide +kernel) (c_in M 33 hM ⟨by omega, by omega⟩) rfl rfl ?_
  rintro r h' n' ⟨rfl, rfl, rfl⟩
  refine y_bne kX7_slide rfl rfl (fun d1 => ?_) (fun d => hno (fun g => d g.2.2))
  refine y_run kX7_slide rfl ?_
  refine s_mslide (h0 := h') hm hBb (hwd v hr (ax % 3) (by omega) (by omega)) hr.1.1 hr.1.2 d0.1 d0.2 (by omega) (fun w h2 T' a1 a2 a3 a4 a5 => ?_) M.toNat 0 h' T (by omega) (by omega) (fun i i1 i2 => absurd i2 (by omega)) ?_ ?_ hT hTb (fun q _ _ => rfl)
  · rw [← hΦ]
    exact ⟨Or.inr ⟨⟨hr, d0, d1⟩, w, T', rfl, a1, a2, a3, a4, a5⟩, rfl⟩
  · rw [Int.mul_zero, msh_0]; exact hBb
  · rw [Int.mul_zero, msh_0]; exact hB
end C24
end
section
theorem cpZ_0 (f g : Nat → Int) (sp dp : Nat) : cpZ f g sp dp 0 = g := by
  funext j
  unfold cpZ
  rw [if_neg (by omega)]
theorem cpZ_s (f g : Nat → Int) (sp dp k : Nat) : upZ (cpZ f g sp dp k) (dp + k) (f (sp + k)) = cpZ f g sp dp (k + 1) := by
  funext j
  unfold upZ cpZ
  by_cases c : j = dp + k
  · rw [if_pos c, if_pos (by omega)]
    congr 1
    omega
  · rw [if_neg c]
    by_cases c2 : dp ≤ j ∧ j < dp + k
    · rw [if_pos c2, if_pos (by omega)]
    · rw [if_neg c2, if_neg (by omega)]
section C25
variable {l : Launch} {G : xG} {n : Nat}
theorem s_mkeep2 {Φ : Option xV → yH → Nat → Prop} {h0 : yH} {c : Nat} {p i0 i1 i2 i3 i4 i5 i6 : Int} {I Kp Z : Nat → Int} (hm : h0 c = some (mo c i0 i1 i2 i3 i4 i5 i6)) (hI : h0 (c + 2) = some (ai 64 I)) (hZ : h0 (c + 4) = some (az 4 Z)) (hp : 0 ≤ p) (hp2 : p < 4)
    (hΦ : Φ (some (vi 1)) (yup (yup h0 (c + 3) (ai 1312 (cpZ I Kp 0 (328 * p + 264).toNat 64))) (c + 4) (az 4 (upZ Z p.toNat 1))) n) :
    ∀ (m k : Nat), k = 64 - m → m ≤ 64 → YW l G mX7_keep 2 0 0 Φ 45 [some (vr c), some (vi p), some (vi (k : Int))] [] (yup h0 (c + 3) (ai 1312 (cpZ I Kp 0 (328 * p + 264).toNat k))) n := by
  intro m
  induction m with
  | zero =>
    intro k hk hk0
    have e : k = 64 := by omega
    subst e
    refine y_run kX7_keep rfl ?_
    refine y_ic_ge kX7_keep rfl rfl (fun c1 => ?_) (fun c1 => absurd c1 (by omega))
    refine y_run kX7_keep rfl ?_
    refine y_get kX7_keep rfl rfl ((yup_ne _ _ (by omega)).trans hm) rfl ?_
    refine y_run kX7_keep rfl ?_
    refine y_zs kX7_keep rfl ((yup_ne _ _ (by omega)).trans hZ) (by omega) (by omega) (Or.inr rfl) ?_
    refine y_run kX7_keep rfl ?_
    exact y_zr kX7_keep rfl rfl (Or.inr rfl) hΦ
  | succ m ih =>
    intro k hk hk0
    refine y_run kX7_keep rfl ?_
    refine y_ic_ge kX7_keep rfl rfl (fun c1 => absurd c1 (by omega)) (fun c1 => ?_)
    refine y_run kX7_keep rfl ?_
    refine y_get kX7_keep rfl rfl ((yup_ne _ _ (by omega)).trans hm) rfl ?_
    refine y_run kX7_keep rfl ?_
    refine y_get kX7_keep rfl rfl ((yup_ne _ _ (by omega)).trans hm) rfl ?_
    refine y_run kX7_keep rfl ?_
    refine y_ie kX7_keep rfl ((yup_ne _ _ (by omega)).trans hI) (by omega) (by omega) (v := I (0 + k)) (by congr 1; omega) ?_
    refine y_is2 kX7_keep rfl (by omega) (by omega) ?_
    refine y_run kX7_keep rfl ?_
    rw [show (328 * p + 264 + (k : Int)).toNat = (328 * p + 264).toNat + k by omega, cpZ_s]
    exact ih (k + 1) (by omega) (by omega)
theorem s_mkeep1 {Φ : Option xV → yH → Nat → Prop} {h0 : yH} {c : Nat} {p i0 i1 i2 i3 i4 i5 i6 : Int} {B I Kp Z : Nat → Int} (hm : h0 c = some (mo c i0 i1 i2 i3 i4 i5 i6)) (hB : h0 (c + 1) = some (ai 264 B)) (hI : h0 (c + 2) = some (ai 64 I)) (hZ : h0 (c + 4) = some (az 4 Z)) (hp : 0 ≤ p) (hp2 : p < 4)
    (hΦ : Φ (some (vi 1)) (yup (yup h0 (c + 3) (ai 1312 (cpZ I (cpZ B Kp 0 (328 * p).toNat 264) 0 (328 * p + 264).toNat 64))) (c + 4) (az 4 (upZ Z p.toNat 1))) n) :
    ∀ (m k : Nat), k = 264 - m → m ≤ 264 → YW l G mX7_keep 2 0 0 Φ 12 [some (vr c), some (vi p), some (vi (k : Int))] [] (yup h0 (c + 3) (ai 1312 (cpZ B Kp 0 (328 * p).toNat k))) n := by
  intro m
  induction m with
  | zero =>
    intro k hk hk0
    have e : k = 264 := by omega
    subst e
    refine y_run kX7_keep rfl ?_
    refine y_ic_ge kX7_keep rfl rfl (fun c1 => ?_) (fun c1 => absurd c1 (by omega))
    refine y_run kX7_keep rfl ?_
    have := s_mkeep2 (l := l) (G := G) (n := n) (Φ := Φ) (Kp := cpZ B Kp 0 (328 * p).toNat 264) hm hI hZ hp hp2 hΦ 64 0 (by omega) (by omega)
    rw [cpZ_0] at this
    exact this
  | succ m ih =>
    intro k hk hk0
    refine y_run kX7_keep rfl ?_
    refine y_ic_ge kX7_keep rfl rfl (fun c1 => absurd c1 (by omega)) (fun c1 => ?_)
    refine y_run kX7_keep rfl ?_
    refine y_get kX7_keep rfl rfl ((yup_ne _ _ (by omega)).trans hm) rfl ?_
    refine y_run kX7_keep rfl ?_
    refine y_get kX7_keep rfl rfl ((yup_ne _ _ (by omega)).trans hm) rfl ?_
    refine y_run kX7_keep rfl ?_
    refine y_ie kX7_keep rfl ((yup_ne _ _ (by omega)).trans hB) (by omega) (by omega) (v := B (0 + k)) (by congr 1; omega) ?_
    refine y_is2 kX7_keep rfl (by omega) (by omega) ?_
    refine y_run kX7_keep rfl ?_
    rw [show (328 * p + (k : Int)).toNat = (328 * p).toNat + k by omega, cpZ_s]
    exact ih (k + 1) (by omega) (by omega)
theorem yup_self {h : yH} {a : Nat} {e : yE} (ha : h a = some e) : h = yup h a e := by
  funext q
  by_cases c : q = a
  · subst c; rw [yup_eq]; exact ha
  · rw [yup_ne _ _ c]
theorem c_mkeep {h : yH} {c : Nat} {p i0 i1 i2 i3 i4 i5 i6 : Int} {B I Kp Z : Nat → Int} (hm : h c = some (mo c i0 i1 i2 i3 i4 i5 i6)) (hB : h (c + 1) = some (ai 264 B)) (hI : h (c + 2) = some (ai 64 I)) (hK : h (c + 3) = some (ai 1312 Kp)) (hZ : h (c + 4) = some (az 4 Z)) (hp : inI p) :
    YM l G mX7_keep 2 0 0 [vr c, vi p] h n (fun r h' n' => ((¬ (0 ≤ p ∧ p < 4) ∧ r = some (vi 0) ∧ h' = h) ∨ ((0 ≤ p ∧ p < 4) ∧ r = some (vi 1) ∧ h' = yup (yup h (c + 3) (ai 1312 (cpZ I (cpZ B Kp 0 (328 * p).toNat 264) 0 (328 * p + 264).toNat 64))) (c + 4) (az 4 (upZ Z p.toNat 1)))) ∧ n' = n) := by
  refine YM.of kX7_keep (Nat.le_of_ble_eq_true rfl) (L0 := [some (vr c), some (vi p), none]) rfl ?_
  refine y_run kX7_keep rfl ?_
  refine y_cs kX7_keep kX7_in 2 (rest := []) rfl (by decide +kernel) (c_in p 4 hp ⟨by omega, by omega⟩) rfl rfl ?_
  rintro r h' n' ⟨rfl, rfl, rfl⟩
  refine y_bne kX7_keep rfl rfl (fun d => ?_) (fun d => ?_)
  · refine y_run kX7_keep rfl ?_
    refine YW.he (yup_self hK) ?_
    have := s_mkeep1 (l := l) (G := gT G) (n := n') (Kp := Kp) (Φ := fun r g m => ((¬ (0 ≤ p ∧ p < 4) ∧ r = some (vi 0) ∧ g = h') ∨ ((0 ≤ p ∧ p < 4) ∧ r = some (vi 1) ∧ g = yup (yup h' (c + 3) (ai 1312 (cpZ I (cpZ B Kp 0 (328 * p).toNat 264) 0 (328 * p + 264).toNat 64))) (c + 4) (az 4 (upZ Z p.toNat 1)))) ∧ m = n') hm hB hI hZ d.1 d.2 ⟨Or.inr ⟨d, rfl, rfl⟩, rfl⟩ 264 0 (by omega) (by omega)
    rw [cpZ_0] at this
    exact this
  · refine y_run kX7_keep rfl ?_
    exact y_zr kX7_keep rfl rfl (Or.inl rfl) ⟨Or.inl ⟨d, rfl, rfl⟩, rfl⟩
theorem s_mback2 {Φ : Option xV → yH → Nat → Prop} {h0 : yH} {c : Nat} {p i0 i1 i2 i3 i4 i5 i6 : Int} {I Kp : Nat → Int} (hm : h0 c = some (mo c i0 i1 i2 i3 i4 i5 i6)) (hK : h0 (c + 3) = some (ai 1312 Kp)) (hp : 0 ≤ p) (hp2 : p < 4)
    (hΦ : Φ (some (vi 1)) (yup h0 (c + 2) (ai 64 (cpZ Kp I (328 * p + 264).toNat 0 64))) n) :
    ∀ (m k : Nat), k = 64 - m → m ≤ 64 → YW l G mX7_back 2 0 0 Φ 54 [some (vr c), some (vi p), some (vi (k : Int))] [] (yup h0 (c + 2) (ai 64 (cpZ Kp I (328 * p + 264).toNat 0 k))) n := by
  intro m
  induction m with
  | zero =>
    intro k hk hk0
    have e : k = 64 := by omega
    subst e
    refine y_run kX7_back rfl ?_
    refine y_ic_ge kX7_back rfl rfl (fun c1 => ?_) (fun c1 => absurd c1 (by omega))
    refine y_run kX7_back rfl ?_
    exact y_zr kX7_back rfl rfl (Or.inr rfl) hΦ
  | succ m ih =>
    intro k hk hk0
    refine y_run kX7_back rfl ?_
    refine y_ic_ge kX7_back rfl rfl (fun c1 => absurd c1 (by omega)) (fun c1 => ?_)
    refine y_run kX7_back rfl ?_
    refine y_get kX7_back rfl rfl ((yup_ne _ _ (by omega)).trans hm) rfl ?_
    refine y_run kX7_back rfl ?_
    refine y_get kX7_back rfl rfl ((yup_ne _ _ (by omega)).trans hm) rfl ?_
    refine y_run kX7_back rfl ?_
    refine y_ie kX7_back rfl ((yup_ne _ _ (by omega)).trans hK) (by omega) (by omega) (v := Kp ((328 * p + 264).toNat + k)) (by congr 1; omega) ?_
    refine y_is2 kX7_back rfl (by omega) (by omega) ?_
    refine y_run kX7_back rfl ?_
    rw [show ((k : Int)).toNat = 0 + k by omega, cpZ_s]
    exact ih (k + 1) (by omega) (by omega)
theorem s_mback1 {Φ : Option xV → yH → Nat → Prop} {h0 : yH} {c : Nat} {p i0 i1 i2 i3 i4 i5 i6 : Int} {B I Kp : Nat → Int} (hm : h0 c = some (mo c i0 i1 i2 i3 i4 i5 i6)) (hI : h0 (c + 2) = some (ai 64 I)) (hK : h0 (c + 3) = some (ai 1312 Kp)) (hp : 0 ≤ p) (hp2 : p < 4)
    (hΦ : Φ (some (vi 1)) (yup (yup h0 (c + 1) (ai 264 (cpZ Kp B (328 * p).toNat 0 264))) (c + 2) (ai 64 (cpZ Kp I (328 * p + 264).toNat 0 64))) n) :
    ∀ (m k : Nat), k = 264 - m → m ≤ 264 → YW l G mX7_back 2 0 0 Φ 21 [some (vr c), some (vi p), some (vi (k : Int))] [] (yup h0 (c + 1) (ai 264 (cpZ Kp B (328 * p).toNat 0 k))) n := by
  intro m
  induction m with
  | zero =>
    intro k hk hk0
    have e : k = 264 := by omega
    subst e
    refine y_run kX7_back rfl ?_
    refine y_ic_ge kX7_back rfl rfl (fun c1 => ?_) (fun c1 => absurd c1 (by omega))
    refine y_run kX7_back rfl ?_
    have hI1 : yup h0 (c + 1) (ai 264 (cpZ Kp B (328 * p).toNat 0 264)) (c + 2) = some (ai 64 I) := (yup_ne _ _ (by omega)).trans hI
    refine YW.he (yup_self hI1) ?_
    have := s_mback2 (l := l) (G := G) (n := n) (Φ := Φ) (I := I) (h0 := yup h0 (c + 1) (ai 264 (cpZ Kp B (328 * p).toNat 0 264))) ((yup_ne _ _ (by omega)).trans hm) ((yup_ne _ _ (by omega)).trans hK) hp hp2 hΦ 64 0 (by omega) (by omega)
    rw [cpZ_0] at this
    exact this
  | succ m ih =>
    intro k hk hk0
    refine y_run kX7_back rfl ?_
    refine y_ic_ge kX7_back rfl rfl (fun c1 => absurd c1 (by omega)) (fun c1 => ?_)
    refine y_run kX7_back rfl ?_
    refine y_get kX7_back rfl rfl ((yup_ne _ _ (by omega)).trans hm) rfl ?_
    refine y_run kX7_back rfl ?_
    refine y_get kX7_back rfl rfl ((yup_ne _ _ (by omega)).trans hm) rfl ?_
    refine y_run kX7_back rfl ?_
    refine y_ie kX7_back rfl ((yup_ne _ _ (by omega)).trans hK) (by omega) (by omega) (v := Kp ((328 * p).toNat + k)) (by congr 1; omega) ?_
    refine y_is2 kX7_back rfl (by omega) (by omega) ?_
    refine y_run kX7_back rfl ?_
    rw [show ((k : Int)).toNat = 0 + k by omega, cpZ_s]
    exact ih (k + 1) (by omega) (by omega)
theorem c_mback {h : yH} {c : Nat} {p i0 i1 i2 i3 i4 i5 i6 : Int} {B I Kp Z : Nat → Int} (hm : h c = some (mo c i0 i1 i2 i3 i4 i5 i6)) (hB : h (c + 1) = some (ai 264 B)) (hI : h (c + 2) = some (ai 64 I)) (hK : h (c + 3) = some (ai 1312 Kp)) (hZ : h (c + 4) = some (az 4 Z)) (hZb : ∀ j, Z j = 0 ∨ Z j = 1) (hp : inI p) :
    YM l G mX7_back 2 0 0 [vr c, vi p] h n (fun r h' n' => ((¬ ((0 ≤ p ∧ p < 4) ∧ Z p.toNat = 1) ∧ r = some (vi 0) ∧ h' = h) ∨ (((0 ≤ p ∧ p < 4) ∧ Z p.toNat = 1) ∧ r = some (vi 1) ∧ h' = yup (yup h (c + 1) (ai 264 (cpZ Kp B (328 * p).toNat 0 264))) (c + 2) (ai 64 (cpZ Kp I (328 * p + 264).toNat 0 64)))) ∧ n' = n) := by
  refine YM.of kX7_back (Nat.le_of_ble_eq_true rfl) (L0 := [some (vr c), some (vi p), none]) rfl ?_
  refine y_run kX7_back rfl ?_
  refine y_cs kX7_back kX7_in 2 (rest := []) rfl (by decide +kernel) (c_in p 4 hp ⟨by omega, by omega⟩) rfl rfl ?_
  rintro r h' n' ⟨rfl, rfl, rfl⟩
  refine y_beq kX7_back rfl rfl (fun d => ?_) (fun d => ?_)
  · refine y_run kX7_back rfl ?_
    exact y_zr kX7_back rfl rfl (Or.inl rfl) ⟨Or.inl ⟨fun g => d g.1, rfl, rfl⟩, rfl⟩
  · refine y_run kX7_back rfl ?_
    refine y_get kX7_back rfl rfl hm rfl ?_
    refine y_run kX7_back rfl ?_
    refine y_za kX7_back rfl hZ (by omega) (by omega) ?_
    have hZp := hZb p.toNat
    refine y_if_ne kX7_back rfl rfl (fun d2 => ?_) (fun d2 => ?_)
    · refine y_run kX7_back rfl ?_
      refine YW.he (yup_self hB) ?_
      have := s_mback1 (l := l) (G := gT G) (n := n') (B := B) (Φ := fun r g m => ((¬ ((0 ≤ p ∧ p < 4) ∧ Z p.toNat = 1) ∧ r = some (vi 0) ∧ g = h') ∨ (((0 ≤ p ∧ p < 4) ∧ Z p.toNat = 1) ∧ r = some (vi 1) ∧ g = yup (yup h' (c + 1) (ai 264 (cpZ Kp B (328 * p).toNat 0 264))) (c + 2) (ai 64 (cpZ Kp I (328 * p + 264).toNat 0 64)))) ∧ m = n') hm hI hK d.1 d.2 ⟨Or.inr ⟨⟨d, by omega⟩, rfl, rfl⟩, rfl⟩ 264 0 (by omega) (by omega)
      rw [cpZ_0] at this
      exact this
    · refine y_run kX7_back rfl ?_
      exact y_zr kX7_back rfl rfl (Or.inl rfl) ⟨Or.inl ⟨fun g => by omega, rfl, rfl⟩, rfl⟩
end C25
end
section
/-- the stage's object -/
def bo (b sh sp : Nat) (dr : Int) : yE := ob 6 [vr (b + 1), vr (b + 6), vr (b + 7), vr (b + 8), vr (b + 15), vr (b + 16), vr (b + 17), vr (b + 18), vr (b + 19), vr sh, vr sp, vi dr]
theorem went_uniq {t : Int} {E : Nat → Int} {v x s M w w' : Int} (h1 : went t E v x s M w) (h2 : went t E v x s M w') : w = w' := by
  obtain ⟨a1, a2, a3, a4⟩ := h1
  obtain ⟨b1, b2, b3, b4⟩ := h2
  rcases Int.lt_trichotomy w w' with c | c | c
  · rcases a4 with q | q
    · omega
    · exact absurd (b3 (w + 1) (by omega) (by omega)) q
  · exact c
  · rcases b4 with q | q
    · omega
    · exact absurd (a3 (w' + 1) (by omega) (by omega)) q
/-- how far box v falls -/
noncomputable def fall (t : Int) (E : Nat → Int) (v : Int) : Int := @dite _ (∃ w, went t E v 2 (-1) 32 w) (Classical.propDecidable _) (fun h => Classical.choose h) (fun _ => 0)
theorem fall_eq {t : Int} {E : Nat → Int} {v w : Int} (h : went t E v 2 (-1) 32 w) : fall t E v = w := by
  unfold fall
  have h' : ∃ w, went t E v 2 (-1) 32 w := ⟨w, h⟩
  rw [dif_pos h']
  exact went_uniq (Classical.choose_spec h') h
/-- one turn of drop: box v, if its height was g -/
noncomputable def dstep (t : Int) (H : Nat → Int) (g v : Int) (s : (Nat → Int) × Int) : (Nat → Int) × Int := if H v.toNat = g then (shE s.1 v 2 (-1 * fall t s.1 v), s.2 + fall t s.1 v) else s
/-- the turns v .. of a height -/
noncomputable def drow (t : Int) (H : Nat → Int) (g : Int) : Nat → (Nat → Int) × Int → (Nat → Int) × Int
  | 0, s => s
  | m + 1, s => drow t H g m (dstep t H g (24 - ((m + 1 : Nat) : Int)) s)
noncomputable def dall (t : Int) (H : Nat → Int) : Nat → (Nat → Int) × Int → (Nat → Int) × Int
  | 0, s => s
  | m + 1, s => dall t H m (drow t H (32 - ((m + 1 : Nat) : Int)) 24 s)
def hgt (t : Int) (E : Nat → Int) : Nat → Int := fun j => if tbt t j then E (j * 6 + 4) else -1
def hgk (t : Int) (E H : Nat → Int) (k : Nat) : Nat → Int := fun j => if j < k then hgt t E j else H j
theorem hgk_s (t : Int) (E H : Nat → Int) (k : Nat) {y : Int} (hy : y = hgt t E k) : upZ (hgk t E H k) k y = hgk t E H (k + 1) := by
  subst hy
  funext j
  unfold upZ hgk
  by_cases c : j = k
  · rw [if_pos c, if_pos (by omega), c]
  · rw [if_neg c]
    by_cases c2 : j < k
    · rw [if_pos c2, if_pos (by omega)]
    · rw [if_neg c2, if_neg (by omega)]
/-- what is right of a scene's numbers: ends in the room, each box that is there is no thinner than 1 -/
def okE (t : Int) (E : Nat → Int) : Prop := (∀ j, 0 ≤ E j ∧ E j ≤ 32) ∧ ∀ v, isT t v → ∀ x, 0 ≤ x → x < 3 → E (v * 6 + 2 * x).toNat < E (v * 6 + 2 * x + 1).toNat
theorem okE_sh {t : Int} {E : Nat → Int} {v x s M w : Int} (hE : okE t E) (hv : isT t v) (hx : 0 ≤ x) (hx2 : x < 3) (hw : went t E v x s M w) : okE t (shE E v x (s * w)) := by
  have hw0 := hE.2 v hv x hx hx2
  have hb0 := hE.1 (v * 6 + 2 * x).toNat
  have hb1 := hE.1 (v * 6 + 2 * x + 1).toNat
  have hv1 := hv.1
  have hin : 0 ≤ E (v * 6 + 2 * x).toNat + s * w ∧ E (v * 6 + 2 * x + 1).toNat + s * w ≤ 32 := by
    obtain ⟨a1, a2, a3, a4⟩ := hw
    by_cases c : w = 0
    · subst c; rw [Int.mul_zero]; omega
    · have := a3 w (by omega) (by omega)
      exact ⟨this.1, this.2.1⟩
  refine ⟨fun j => ?_, fun v' hv' x' h0 h1 => ?_⟩
  · unfold shE
    by_cases c : (j : Int) = v * 6 + 2 * x ∨ (j : Int) = v * 6 + 2 * x + 1
    · rw [if_pos c]
      rcases c with c | c
      · rw [show j = (v * 6 + 2 * x).toNat by omega]; omega
      · rw [show j = (v * 6 + 2 * x + 1).toNat by omega]; omega
    · rw [if_neg c]; exact hE.1 j
  · have hv2 := hv'.1
    have o := hE.2 v' hv' x' h0 h1
    unfold shE
    by_cases c : v' = v ∧ x' = x
    · obtain ⟨rfl, rfl⟩ := c
      rw [if_pos (by omega), if_pos (by omega)]
      omega
    · rw [if_neg (by omega), if_neg (by omega)]
      exact o
section C26
variable {l : Launch} {G : xG} {n : Nat}
theorem s_drop3 {Φ : Option xV → yH → Nat → Prop} {h0 : yH} {b sh sp : Nat} {t g dr : Int} {H K R : Nat → Int} (hx0 : h0 b = some (bo b sh sp dr)) (hH0 : h0 (b + 19) = some (ai 24 H)) (hg : 0 ≤ g) (hg2 : g < 32) (hH : ∀ j : Nat, j < 24 → tbt t j = false → H j = -1) (hHb : ∀ j, -1 ≤ H j ∧ H j ≤ 32) :
    ∀ (m : Nat), m ≤ 24 → ∀ (E T : Nat → Int) (a : Int) (h : yH), okE t E → (∀ j, -1 ≤ T j ∧ T j ≤ 33) → SC h (b + 1) t E K R T → (∀ q, q < b + 1 ∨ b + 6 ≤ q → h q = h0 q) →
      (∀ (T' : Nat → Int) (h' : yH) (u : Option xV), okE t (drow t H g m (E, a)).1 → (∀ j, -1 ≤ T' j ∧ T' j ≤ 33) → SC h' (b + 1) t (drow t H g m (E, a)).1 K R T' → (∀ q, q < b + 1 ∨ b + 6 ≤ q → h' q = h0 q) → YW l G mX6_drop 4 0 0 Φ 98 [some (vr b), some (vi (drow t H g m (E, a)).2), some (vi g), u] [] h' n) →
      YW l G mX6_drop 4 0 0 Φ 61 [some (vr b), some (vi a), some (vi g), some (vi (24 - (m : Int)))] [] h n := by
  intro m
  induction m with
  | zero =>
    intro hm E T a h hE hT hs hf kk
    refine y_run kX6_drop rfl ?_
    refine y_ic_ge kX6_drop rfl rfl (fun c1 => ?_) (fun c1 => absurd c1 (by omega))
    exact kk T h _ hE hT hs hf
  | succ m ih =>
    intro hm E T a h hE hT hs hf kk
    have hx : h b = some (bo b sh sp dr) := (hf b (by omega)).trans hx0
    have hHh : h (b + 19) = some (ai 24 H) := (hf (b + 19) (by omega)).trans hH0
    generalize hv : (24 - ((m + 1 : Nat) : Int)) = v
    have e1 : v + 1 = 24 - (m : Int) := by omega
    have hb := hHb v.toNat
    have kk2 : ∀ (T' : Nat → Int) (h' : yH) (u : Option xV), okE t (drow t H g m (dstep t H g v (E, a))).1 → (∀ j, -1 ≤ T' j ∧ T' j ≤ 33) → SC h' (b + 1) t (drow t H g m (dstep t H g v (E, a))).1 K R T' → (∀ q, q < b + 1 ∨ b + 6 ≤ q → h' q = h0 q) → YW l G mX6_drop 4 0 0 Φ 98 [some (vr b), some (vi (drow t H g m (dstep t H g v (E, a))).2), some (vi g), u] [] h' n := by
      have := kk
      unfold drow at this
      rw [hv] at this
      exact this
    refine y_run kX6_drop rfl ?_
    refine y_ic_ge kX6_drop rfl rfl (fun c1 => absurd c1 (by omega)) (fun c1 => ?_)
    refine y_run kX6_drop rfl ?_
    refine y_get kX6_drop rfl rfl hx rfl ?_
    refine y_run kX6_drop rfl ?_
    refine y_ia kX6_drop rfl hHh (by omega) (by omega) ?_
    refine y_run kX6_drop rfl ?_
    refine y_ic_ne kX6_drop rfl rfl (fun c2 => ?_) (fun c2 => ?_)
    · refine y_run kX6_drop rfl ?_
      have e2 : dstep t H g v (E, a) = (E, a) := by unfold dstep; rw [if_neg c2]
      rw [e2] at kk2
      rw [e1]
      exact ih (by omega) E T a h hE hT hs hf kk2
    · have hbit : tbt t v.toNat = true := by
        cases q : tbt t v.toNat with
        | true => rfl
        | false =>
          have := hH v.toNat (by omega) q
          omega
      have hisT : isT t v := ⟨⟨by omega, by omega⟩, hbit⟩
      refine y_run kX6_drop rfl ?_
      refine y_get kX6_drop rfl rfl hx rfl ?_
      refine y_run kX6_drop rfl ?_
      refine y_cv kX6_drop kX5_go 4 (rest := [vi a]) rfl hs.1 (by decide +kernel) (c_Sgo hs (v := v) (x := 2) (s := -1) (M := 32) (by omega) (by omega) (by omega) (by omega) (Or.inr rfl) (by omega) (by omega) hbit hE.1 (Int.le_of_lt (hE.2 v hisT 2 (by omega) (by omega))) hT) rfl rfl ?_
      rintro r h' n' ⟨w, T', rfl, a1, a2, a3, a4, a5, a6, a7, rfl⟩
      have hw : went t E v 2 (-1) 32 w := ⟨a1, a2, a3, a4⟩
      have e3 : dstep t H g v (E, a) = (shE E v 2 (-1 * w), a + w) := by
        unfold dstep
        rw [if_pos c2]
        dsimp only
        rw [fall_eq hw]
      rw [e3] at kk2
      refine y_run kX6_drop rfl ?_
      rw [e1]
      exact ih (by omega) _ T' _ h' (okE_sh hE hisT (by omega) (by omega) hw) a6 a5 (fun q hq => (a7 q (by omega)).trans (hf q hq)) kk2
theorem s_drop2 {Φ : Option xV → yH → Nat → Prop} {h0 : yH} {b sh sp : Nat} {t dr : Int} {H K R : Nat → Int} (hx0 : h0 b = some (bo b sh sp dr)) (hH0 : h0 (b + 19) = some (ai 24 H)) (hH : ∀ j : Nat, j < 24 → tbt t j = false → H j = -1) (hHb : ∀ j, -1 ≤ H j ∧ H j ≤ 32) :
    ∀ (m : Nat), m ≤ 32 → ∀ (E T : Nat → Int) (a : Int) (h : yH) (u : Option xV), okE t E → (∀ j, -1 ≤ T j ∧ T j ≤ 33) → SC h (b + 1) t E K R T → (∀ q, q < b + 1 ∨ b + 6 ≤ q → h q = h0 q) →
      (∀ (T' : Nat → Int) (h' : yH), okE t (dall t H m (E, a)).1 → (∀ j, -1 ≤ T' j ∧ T' j ≤ 33) → SC h' (b + 1) t (dall t H m (E, a)).1 K R T' → (∀ q, q < b + 1 ∨ b + 6 ≤ q → h' q = h0 q) → Φ (some (vi (dall t H m (E, a)).2)) h' n) →
      YW l G mX6_drop 4 0 0 Φ 53 [some (vr b), some (vi a), some (vi (32 - (m : Int))), u] [] h n := by
  intro m
  induction m with
  | zero =>
    intro hm E T a h u hE hT hs hf kk
    refine y_run kX6_drop rfl ?_
    refine y_ic_ge kX6_drop rfl rfl (fun c1 => ?_) (fun c1 => absurd c1 (by omega))
    refine y_run kX6_drop rfl ?_
    exact y_ir kX6_drop rfl rfl (kk T h hE hT hs hf)
  | succ m ih =>
    intro hm E T a h u hE hT hs hf kk
    generalize hg : (32 - ((m + 1 : Nat) : Int)) = g
    have e1 : g + 1 = 32 - (m : Int) := by omega
    refine y_run kX6_drop rfl ?_
    refine y_ic_ge kX6_drop rfl rfl (fun c1 => absurd c1 (by omega)) (fun c1 => ?_)
    refine y_run kX6_drop rfl ?_
    refine s_drop3 hx0 hH0 (by omega) (by omega) hH hHb 24 (by omega) E T a h hE hT hs hf (fun T' h' u' b1 b2 b3 b4 => ?_)
    refine y_run kX6_drop rfl ?_
    rw [e1]
    refine ih (by omega) _ T' _ h' _ b1 b2 b3 b4 ?_
    unfold dall at kk
    rw [hg] at kk
    exact kk
theorem s_drop1 {Φ : Option xV → yH → Nat → Prop} {h0 : yH} {b sh sp : Nat} {t dr : Int} {E K R T H : Nat → Int} (hx0 : h0 b = some (bo b sh sp dr)) (hs0 : SC h0 (b + 1) t E K R T) (hE : okE t E)
    (kk : YW l G mX6_drop 4 0 0 Φ 49 [some (vr b), some (vi 24), none, none] [] (yup h0 (b + 19) (ai 24 (hgk t E H 24))) n) :
    ∀ (m k : Nat), k = 24 - m → m ≤ 24 → YW l G mX6_drop 4 0 0 Φ 2 [some (vr b), some (vi (k : Int)), none, none] [] (yup h0 (b + 19) (ai 24 (hgk t E H k))) n := by
  intro m
  induction m with
  | zero =>
    intro k hk hk0
    have e : k = 24 := by omega
    subst e
    refine y_run kX6_drop rfl ?_
    refine y_ic_ge kX6_drop rfl rfl (fun c1 => kk) (fun c1 => absurd c1 (by omega))
  | succ m ih =>
    intro k hk hk0
    have hx : yup h0 (b + 19) (ai 24 (hgk t E H k)) b = some (bo b sh sp dr) := (yup_ne _ _ (by omega)).trans hx0
    have hs : SC (yup h0 (b + 19) (ai 24 (hgk t E H k))) (b + 1) t E K R T := hs0.frame1 (fun q _ _ => yup_ne _ _ (by omega))
    refine y_run kX6_drop rfl ?_
    refine y_ic_ge kX6_drop rfl rfl (fun c1 => absurd c1 (by omega)) (fun c1 => ?_)
    refine y_run kX6_drop rfl ?_
    refine y_get kX6_drop rfl rfl hx rfl ?_
    refine y_run kX6_drop rfl ?_
    refine y_get kX6_drop rfl rfl hx rfl ?_
    refine y_run kX6_drop rfl ?_
    refine y_cv kX6_drop kX5_has 1 (rest := [vi (k : Int), vr (b + 19)]) rfl hs.1 (by decide +kernel) (c_Shas hs (v := (k : Int)) ⟨by omega, by omega⟩) rfl rfl ?_
    rintro r h' n' ⟨rfl, rfl, rfl⟩
    refine y_beq kX6_drop rfl rfl (fun c2 => ?_) (fun c2 => ?_)
    · refine y_run kX6_drop rfl ?_
      refine y_is2 kX6_drop rfl (by omega) (by omega) ?_
      refine y_run kX6_drop rfl ?_
      rw [Int.toNat_natCast, hgk_s t E H k (by
        unfold hgt
        rw [if_neg]
        intro q
        exact c2 ⟨⟨by omega, by omega⟩, by rw [Int.toNat_natCast]; exact q⟩)]
      exact ih (k + 1) (by omega) (by omega)
    · refine y_run kX6_drop rfl ?_
      refine y_get kX6_drop rfl rfl hx rfl ?_
      refine y_get kX6_drop rfl rfl hs.1 rfl ?_
      refine y_run kX6_drop rfl ?_
      refine y_ia kX6_drop rfl hs.2.1 (by omega) (by omega) ?_
      refine y_run kX6_drop rfl ?_
      refine y_is2 kX6_drop rfl (by omega) (by omega) ?_
      refine y_run kX6_drop rfl ?_
      rw [Int.toNat_natCast, hgk_s t E H k (by
        unfold hgt
        rw [Int.toNat_natCast] at c2
        rw [if_pos c2.2]
        congr 1)]
      exact ih (k + 1) (by omega) (by omega)
theorem drow_congr {t g : Int} {H H' : Nat → Int} (hH : ∀ j : Nat, j < 24 → H j = H' j) : ∀ (m : Nat), m ≤ 24 → ∀ s, drow t H g m s = drow t H' g m s := by
  intro m
  induction m with
  | zero => intro _ s; rfl
  | succ m ih =>
    intro hm s
    unfold drow
    rw [ih (by omega)]
    congr 1
    unfold dstep
    rw [hH _ (by omega)]
theorem dall_congr {t : Int} {H H' : Nat → Int} (hH : ∀ j : Nat, j < 24 → H j = H' j) : ∀ (m : Nat) (s : (Nat → Int) × Int), dall t H m s = dall t H' m s := by
  intro m
  induction m with
  | zero => intro s; rfl
  | succ m ih =>
    intro s
    unfold dall
    rw [ih, drow_congr hH 24 (by omega)]
theorem c_drop {h : yH} {b sh sp : Nat} {t dr : Int} {E K R T H : Nat → Int} (hx : h b = some (bo b sh sp dr)) (hs : SC h (b + 1) t E K R T) (hH : h (b + 19) = some (ai 24 H)) (hHb : ∀ j, -1 ≤ H j ∧ H j ≤ 32) (hE : okE t E) (hT : ∀ j, -1 ≤ T j ∧ T j ≤ 33) :
    YM l G mX6_drop 4 0 0 [vr b] h n (fun r h' n' => ∃ T' H', r = some (vi (dall t (hgt t E) 32 (E, 0)).2) ∧ okE t (dall t (hgt t E) 32 (E, 0)).1 ∧ (∀ j, -1 ≤ T' j ∧ T' j ≤ 33) ∧ SC h' (b + 1) t (dall t (hgt t E) 32 (E, 0)).1 K R T' ∧ h' (b + 19) = some (ai 24 H') ∧ (∀ j, -1 ≤ H' j ∧ H' j ≤ 32) ∧ (∀ q, q < b + 1 ∨ b + 6 ≤ q → q ≠ b + 19 → h' q = h q) ∧ n' = n) := by
  have hk : ∀ j : Nat, j < 24 → hgk t E H 24 j = hgt t E j := fun j hj => by unfold hgk; rw [if_pos hj]
  have hgb : ∀ j, -1 ≤ hgt t E j ∧ hgt t E j ≤ 32 := fun j => by
    unfold hgt
    have := hE.1 (j * 6 + 4)
    split <;> omega
  have hkb : ∀ j, -1 ≤ hgk t E H 24 j ∧ hgk t E H 24 j ≤ 32 := fun j => by
    unfold hgk
    split
    · exact hgb j
    · exact hHb j
  refine YM.of kX6_drop (Nat.le_of_ble_eq_true rfl) (L0 := [some (vr b), none, none, none]) rfl ?_
  generalize hΦ : (fun (r : Option xV) (h' : yH) (n' : Nat) => ∃ T' H', r = some (vi (dall t (hgt t E) 32 (E, 0)).2) ∧ okE t (dall t (hgt t E) 32 (E, 0)).1 ∧ (∀ j, -1 ≤ T' j ∧ T' j ≤ 33) ∧ SC h' (b + 1) t (dall t (hgt t E) 32 (E, 0)).1 K R T' ∧ h' (b + 19) = some (ai 24 H') ∧ (∀ j, -1 ≤ H' j ∧ H' j ≤ 32) ∧ (∀ q, q < b + 1 ∨ b + 6 ≤ q → q ≠ b + 19 → h' q = h q) ∧ n' = n) = Φ
  refine y_run kX6_drop rfl ?_
  refine YW.he (yup_self hH) ?_
  have k1 := s_drop1 (l := l) (G := gT G) (n := n) (Φ := Φ) (H := H) hx hs hE (by
    refine y_run kX6_drop rfl ?_
    refine s_drop2 (h0 := yup h (b + 19) (ai 24 (hgk t E H 24))) (K := K) (R := R) ((yup_ne _ _ (by omega)).trans hx) (yup_eq _ _ _) (fun j hj q => ?_) hkb 32 (by omega) E T 0 _ _ hE hT (hs.frame1 (fun q _ _ => yup_ne _ _ (by omega))) (fun q _ => rfl) (fun T' h' a1 a2 a3 a4 => ?_)
    · rw [hk j hj]
      unfold hgt
      rw [if_neg (by rw [q]; decide)]
    · rw [dall_congr hk] at a1 a3 ⊢
      rw [← hΦ]
      exact ⟨T', _, rfl, a1, a2, a3, (a4 (b + 19) (by omega)).trans (yup_eq _ _ _), hkb, fun q q1 q2 => (a4 q q1).trans (yup_ne _ _ q2), rfl⟩) 24 0 (by omega) (by omega)
  have e0 : hgk t E H 0 = H := by
    funext j
    unfold hgk
    rw [if_neg (by omega)]
  rw [e0] at k1
  exact k1
end C26
end
section
theorem mwent_uniq {B : Nat → Int} {v x s M w w' : Int} (h1 : mwent B v x s M w) (h2 : mwent B v x s M w') : w = w' := by
  obtain ⟨a1, a2, a3, a4⟩ := h1
  obtain ⟨b1, b2, b3, b4⟩ := h2
  rcases Int.lt_trichotomy w w' with c | c | c
  · rcases a4 with q | q
    · omega
    · exact absurd (b3 (w + 1) (by omega) (by omega)) q
  · exact c
  · rcases b4 with q | q
    · omega
    · exact absurd (a3 (w' + 1) (by omega) (by omega)) q
noncomputable def mfall (B : Nat → Int) (v : Int) : Int := @dite _ (∃ w, mwent B v 2 (-1) 32 w) (Classical.propDecidable _) (fun h => Classical.choose h) (fun _ => 0)
theorem mfall_eq {B : Nat → Int} {v w : Int} (h : mwent B v 2 (-1) 32 w) : mfall B v = w := by
  unfold mfall
  have h' : ∃ w, mwent B v 2 (-1) 32 w := ⟨w, h⟩
  rw [dif_pos h']
  exact mwent_uniq (Classical.choose_spec h') h
noncomputable def mdstep (H : Nat → Int) (g v : Int) (s : (Nat → Int) × Int) : (Nat → Int) × Int := if H v.toNat = g then (msh s.1 v 2 (-1 * mfall s.1 v), s.2 + mfall s.1 v) else s
noncomputable def mdrow (H : Nat → Int) (g : Int) : Nat → (Nat → Int) × Int → (Nat → Int) × Int
  | 0, s => s
  | m + 1, s => mdrow H g m (mdstep H g (24 - ((m + 1 : Nat) : Int)) s)
noncomputable def mdall (H : Nat → Int) : Nat → (Nat → Int) × Int → (Nat → Int) × Int
  | 0, s => s
  | m + 1, s => mdall H m (mdrow H (32 - ((m + 1 : Nat) : Int)) 24 s)
def mhgt (B : Nat → Int) : Nat → Int := fun j => if B (11 * j) = 1 then B (11 * j + 5) else -1
def mhgk (B H : Nat → Int) (k : Nat) : Nat → Int := fun j => if j < k then mhgt B j else H j
theorem mhgk_s (B H : Nat → Int) (k : Nat) {y : Int} (hy : y = mhgt B k) : upZ (mhgk B H k) k y = mhgk B H (k + 1) := by
  subst hy
  funext j
  unfold upZ mhgk
  by_cases c : j = k
  · rw [if_pos c, if_pos (by omega), c]
  · rw [if_neg c]
    by_cases c2 : j < k
    · rw [if_pos c2, if_pos (by omega)]
    · rw [if_neg c2, if_neg (by omega)]
def okB (B : Nat → Int) : Prop := (∀ j, 0 ≤ B j ∧ B j ≤ 32) ∧ ∀ v, mT B v → ∀ x, 0 ≤ x → x < 3 → B (11 * v + 1 + 2 * x).toNat < B (11 * v + 2 + 2 * x).toNat
theorem okB_sh {B : Nat → Int} {v x s M w : Int} (hB : okB B) (hv : mT B v) (hx : 0 ≤ x) (hx2 : x < 3) (hw : mwent B v x s M w) : okB (msh B v x (s * w)) := by
  have hw0 := hB.2 v hv x hx hx2
  have hb0 := hB.1 (11 * v + 1 + 2 * x).toNat
  have hb1 := hB.1 (11 * v + 2 + 2 * x).toNat
  have hv1 := hv.1
  have hin : 0 ≤ B (11 * v + 1 + 2 * x).toNat + s * w ∧ B (11 * v + 2 + 2 * x).toNat + s * w ≤ 32 := by
    obtain ⟨a1, a2, a3, a4⟩ := hw
    by_cases c : w = 0
    · subst c; rw [Int.mul_zero]; omega
    · have := a3 w (by omega) (by omega)
      exact ⟨this.1, this.2.1⟩
  refine ⟨fun j => ?_, fun v' hv' x' h0 h1 => ?_⟩
  · unfold msh
    by_cases c : (j : Int) = 11 * v + 1 + 2 * x ∨ (j : Int) = 11 * v + 2 + 2 * x
    · rw [if_pos c]
      rcases c with c | c
      · rw [show j = (11 * v + 1 + 2 * x).toNat by omega]; omega
      · rw [show j = (11 * v + 2 + 2 * x).toNat by omega]; omega
    · rw [if_neg c]; exact hB.1 j
  · have hv3 := (msh_mT hx hx2 hv1.1).mp hv'
    have hv2 := hv3.1
    have o := hB.2 v' hv3 x' h0 h1
    unfold msh
    by_cases c : v' = v ∧ x' = x
    · obtain ⟨rfl, rfl⟩ := c
      rw [if_pos (by omega), if_pos (by omega)]
      omega
    · rw [if_neg (by omega), if_neg (by omega)]
      exact o
section C27
variable {l : Launch} {G : xG} {n : Nat}
theorem s_mdrop3 {Φ : Option xV → yH → Nat → Prop} {h0 : yH} {c : Nat} {g i0 i1 i2 i3 i4 i5 i6 : Int} {B0 H : Nat → Int} (hm0 : h0 c = some (mo c i0 i1 i2 i3 i4 i5 i6)) (hH0 : h0 (c + 15) = some (ai 24 H)) (hg : 0 ≤ g) (hg2 : g < 32) (hH : ∀ v : Int, 0 ≤ v → v < 24 → ¬ mT B0 v → H v.toNat = -1) (hHb : ∀ j, -1 ≤ H j ∧ H j ≤ 32) :
    ∀ (m : Nat), m ≤ 24 → ∀ (B T : Nat → Int) (a : Int) (h : yH), okB B → (∀ v, mT B v ↔ mT B0 v) → (∀ j, -1 ≤ T j ∧ T j ≤ 33) → h (c + 1) = some (ai 264 B) → h (c + 14) = some (ai 6 T) → (∀ q, q ≠ c + 1 → q ≠ c + 14 → h q = h0 q) →
      (∀ (T' : Nat → Int) (h' : yH) (u : Option xV), okB (mdrow H g m (B, a)).1 → (∀ v, mT (mdrow H g m (B, a)).1 v ↔ mT B0 v) → (∀ j, -1 ≤ T' j ∧ T' j ≤ 33) → h' (c + 1) = some (ai 264 (mdrow H g m (B, a)).1) → h' (c + 14) = some (ai 6 T') → (∀ q, q ≠ c + 1 → q ≠ c + 14 → h' q = h0 q) → YW l G mX7_drop 5 0 0 Φ 92 [some (vr c), some (vi (mdrow H g m (B, a)).2), some (vi g), u] [] h' n) →
      YW l G mX7_drop 5 0 0 Φ 55 [some (vr c), some (vi a), some (vi g), some (vi (24 - (m : Int)))] [] h n := by
  intro m
  induction m with
  | zero =>
    intro hm B T a h hB hB0 hT hb ht hf kk
    refine y_run kX7_drop rfl ?_
    refine y_ic_ge kX7_drop rfl rfl (fun c1 => ?_) (fun c1 => absurd c1 (by omega))
    exact kk T h _ hB hB0 hT hb ht hf
  | succ m ih =>
    intro hm B T a h hB hB0 hT hb ht hf kk
    have hmh : h c = some (mo c i0 i1 i2 i3 i4 i5 i6) := (hf c (by omega) (by omega)).trans hm0
    have hHh : h (c + 15) = some (ai 24 H) := (hf (c + 15) (by omega) (by omega)).trans hH0
    generalize hv : (24 - ((m + 1 : Nat) : Int)) = v
    have e1 : v + 1 = 24 - (m : Int) := by omega
    have hbv := hHb v.toNat
    unfold mdrow at kk
    rw [hv] at kk
    refine y_run kX7_drop rfl ?_
    refine y_ic_ge kX7_drop rfl rfl (fun c1 => absurd c1 (by omega)) (fun c1 => ?_)
    refine y_run kX7_drop rfl ?_
    refine y_get kX7_drop rfl rfl hmh rfl ?_
    refine y_run kX7_drop rfl ?_
    refine y_ia kX7_drop rfl hHh (by omega) (by omega) ?_
    refine y_run kX7_drop rfl ?_
    refine y_ic_ne kX7_drop rfl rfl (fun c2 => ?_) (fun c2 => ?_)
    · refine y_run kX7_drop rfl ?_
      have e2 : mdstep H g v (B, a) = (B, a) := by unfold mdstep; rw [if_neg c2]
      rw [e2] at kk
      rw [e1, Int.add_zero]
      exact ih (by omega) B T a h hB hB0 hT hb ht hf kk
    · have hisT : mT B v := by
        rcases Classical.em (mT B v) with q | q
        · exact q
        · have := hH v (by omega) (by omega) (fun z => q ((hB0 v).mpr z))
          omega
      refine y_run kX7_drop rfl ?_
      refine y_cv kX7_drop kX7_slide 3 (rest := [vi a]) rfl hmh (by decide +kernel) (c_mslide hmh hb ht (v := v) (ax := 5) (M := 32) hB.1 hT (fun v' hv' x' x0 x1 => Int.le_of_lt (hB.2 v' hv' x' x0 x1)) ⟨by omega, by omega⟩ ⟨by omega, by omega⟩ ⟨by omega, by omega⟩) rfl rfl ?_
      rintro r h' n' ⟨hr, rfl⟩
      rcases hr with ⟨hno, -⟩ | ⟨-, w, T', rfl, a1, a2, a3, a4, a5⟩
      · exact absurd ⟨hisT, ⟨by omega, by omega⟩, by omega, by omega⟩ hno
      · have hw : mwent B v 2 (-1) 32 w := a1
        have a2 : h' (c + 1) = some (ai 264 (msh B v 2 (-1 * w))) := a2
        have e3 : mdstep H g v (B, a) = (msh B v 2 (-1 * w), a + w) := by
          unfold mdstep
          rw [if_pos c2]
          dsimp only
          rw [mfall_eq hw]
        rw [e3] at kk
        refine y_run kX7_drop rfl ?_
        rw [e1]
        exact ih (by omega) _ T' _ h' (okB_sh hB hisT (by omega) (by omega) hw) (fun v' => (msh_mT (by omega) (by omega) (by omega)).trans (hB0 v')) a4 a2 a3 (fun q q1 q2 => (a5 q q1 q2).trans (hf q q1 q2)) kk
theorem s_mdrop2 {Φ : Option xV → yH → Nat → Prop} {h0 : yH} {c : Nat} {i0 i1 i2 i3 i4 i5 i6 : Int} {B0 H : Nat → Int} (hm0 : h0 c = some (mo c i0 i1 i2 i3 i4 i5 i6)) (hH0 : h0 (c + 15) = some (ai 24 H)) (hH : ∀ v : Int, 0 ≤ v → v < 24 → ¬ mT B0 v → H v.toNat = -1) (hHb : ∀ j, -1 ≤ H j ∧ H j ≤ 32) :
    ∀ (m : Nat), m ≤ 32 → ∀ (B T : Nat → Int) (a : Int) (h : yH) (u : Option xV), okB B → (∀ v, mT B v ↔ mT B0 v) → (∀ j, -1 ≤ T j ∧ T j ≤ 33) → h (c + 1) = some (ai 264 B) → h (c + 14) = some (ai 6 T) → (∀ q, q ≠ c + 1 → q ≠ c + 14 → h q = h0 q) →
      (∀ (T' : Nat → Int) (h' : yH), okB (mdall H m (B, a)).1 → (∀ v, mT (mdall H m (B, a)).1 v ↔ mT B0 v) → (∀ j, -1 ≤ T' j ∧ T' j ≤ 33) → h' (c + 1) = some (ai 264 (mdall H m (B, a)).1) → h' (c + 14) = some (ai 6 T') → (∀ q, q ≠ c + 1 → q ≠ c + 14 → h' q = h0 q) → Φ (some (vi (mdall H m (B, a)).2)) h' n) →
      YW l G mX7_drop 5 0 0 Φ 47 [some (vr c), some (vi a), some (vi (32 - (m : Int))), u] [] h n := by
  intro m
  induction m with
  | zero =>
    intro hm B T a h u hB hB0 hT hb ht hf kk
    refine y_run kX7_drop rfl ?_
    refine y_ic_ge kX7_drop rfl rfl (fun c1 => ?_) (fun c1 => absurd c1 (by omega))
    refine y_run kX7_drop rfl ?_
    exact y_ir kX7_drop rfl rfl (kk T h hB hB0 hT hb ht hf)
  | succ m ih =>
    intro hm B T a h u hB hB0 hT hb ht hf kk
    generalize hg : (32 - ((m + 1 : Nat) : Int)) = g
    have e1 : g + 1 = 32 - (m : Int) := by omega
    refine y_run kX7_drop rfl ?_
    refine y_ic_ge kX7_drop rfl rfl (fun c1 => absurd c1 (by omega)) (fun c1 => ?_)
    refine y_run kX7_drop rfl ?_
    refine s_mdrop3 hm0 hH0 (by omega) (by omega) hH hHb 24 (by omega) B T a h hB hB0 hT hb ht hf (fun T' h' u' b1 b2 b3 b4 b5 b6 => ?_)
    refine y_run kX7_drop rfl ?_
    rw [e1]
    refine ih (by omega) _ T' _ h' _ b1 b2 b3 b4 b5 b6 ?_
    unfold mdall at kk
    rw [hg] at kk
    exact kk
theorem s_mdrop1 {Φ : Option xV → yH → Nat → Prop} {h0 : yH} {c : Nat} {i0 i1 i2 i3 i4 i5 i6 : Int} {B H : Nat → Int} (hm0 : h0 c = some (mo c i0 i1 i2 i3 i4 i5 i6)) (hb0 : h0 (c + 1) = some (ai 264 B)) (hB : okB B)
    (kk : YW l G mX7_drop 5 0 0 Φ 45 [some (vr c), some (vi 0), some (vi 24), none] [] (yup h0 (c + 15) (ai 24 (mhgk B H 24))) n) :
    ∀ (m k : Nat), k = 24 - m → m ≤ 24 → YW l G mX7_drop 5 0 0 Φ 4 [some (vr c), some (vi 0), some (vi (k : Int)), none] [] (yup h0 (c + 15) (ai 24 (mhgk B H k))) n := by
  intro m
  induction m with
  | zero =>
    intro k hk hk0
    have e : k = 24 := by omega
    subst e
    refine y_run kX7_drop rfl ?_
    refine y_ic_ge kX7_drop rfl rfl (fun c1 => kk) (fun c1 => absurd c1 (by omega))
  | succ m ih =>
    intro k hk hk0
    have hm : yup h0 (c + 15) (ai 24 (mhgk B H k)) c = some (mo c i0 i1 i2 i3 i4 i5 i6) := (yup_ne _ _ (by omega)).trans hm0
    have hb : yup h0 (c + 15) (ai 24 (mhgk B H k)) (c + 1) = some (ai 264 B) := (yup_ne _ _ (by omega)).trans hb0
    refine y_run kX7_drop rfl ?_
    refine y_ic_ge kX7_drop rfl rfl (fun c1 => absurd c1 (by omega)) (fun c1 => ?_)
    refine y_run kX7_drop rfl ?_
    refine y_get kX7_drop rfl rfl hm rfl ?_
    refine y_run kX7_drop rfl ?_
    refine y_cv kX7_drop kX7_isThere 1 (rest := [vi (k : Int), vr (c + 15)]) rfl hm (by decide +kernel) (c_isThere hm hb (fun j => ⟨by have := hB.1 j; omega, by have := hB.1 j; omega⟩) (v := (k : Int)) ⟨by omega, by omega⟩) rfl rfl ?_
    rintro r h' n' ⟨hr, rfl, rfl⟩
    rcases hr with ⟨rfl, hr⟩ | ⟨rfl, hr⟩
    · refine y_if_eq kX7_drop rfl rfl (fun q => absurd q (by omega)) (fun _ => ?_)
      refine y_run kX7_drop rfl ?_
      refine y_get kX7_drop rfl rfl hm rfl ?_
      refine y_run kX7_drop rfl ?_
      refine y_ia kX7_drop rfl hb (by omega) (by omega) ?_
      refine y_run kX7_drop rfl ?_
      refine y_is2 kX7_drop rfl (by omega) (by omega) ?_
      refine y_run kX7_drop rfl ?_
      rw [Int.toNat_natCast, mhgk_s B H k (by
        unfold mhgt
        rw [if_pos (by rw [← hr.2]; congr 1)]
        congr 1)]
      exact ih (k + 1) (by omega) (by omega)
    · refine y_if_eq kX7_drop rfl rfl (fun _ => ?_) (fun q => absurd rfl q)
      refine y_run kX7_drop rfl ?_
      refine y_is2 kX7_drop rfl (by omega) (by omega) ?_
      refine y_run kX7_drop rfl ?_
      rw [Int.toNat_natCast, mhgk_s B H k (by
        unfold mhgt
        rw [if_neg]
        intro q
        exact hr ⟨⟨by omega, by omega⟩, by rw [← q]; congr 1⟩)]
      exact ih (k + 1) (by omega) (by omega)
theorem mdrow_congr {g : Int} {H H' : Nat → Int} (hH : ∀ j : Nat, j < 24 → H j = H' j) : ∀ (m : Nat), m ≤ 24 → ∀ s, mdrow H g m s = mdrow H' g m s := by
  intro m
  induction m with
  | zero => intro _ s; rfl
  | succ m ih =>
    intro hm s
    unfold mdrow
    rw [ih (by omega)]
    congr 1
    unfold mdstep
    rw [hH _ (by omega)]
theorem mdall_congr {H H' : Nat → Int} (hH : ∀ j : Nat, j < 24 → H j = H' j) : ∀ (m : Nat) (s : (Nat → Int) × Int), mdall H m s = mdall H' m s := by
  intro m
  induction m with
  | zero => intro s; rfl
  | succ m ih =>
    intro s
    unfold mdall
    rw [ih, mdrow_congr hH 24 (by omega)]
theorem c_mdrop {h : yH} {c : Nat} {i0 i1 i2 i3 i4 i5 i6 : Int} {B T H : Nat → Int} (hm : h c = some (mo c i0 i1 i2 i3 i4 i5 i6)) (hb : h (c + 1) = some (ai 264 B)) (ht : h (c + 14) = some (ai 6 T)) (hH : h (c + 15) = some (ai 24 H)) (hHb : ∀ j, -1 ≤ H j ∧ H j ≤ 32) (hB : okB B) (hT : ∀ j, -1 ≤ T j ∧ T j ≤ 33) :
    YM l G mX7_drop 5 0 0 [vr c] h n (fun r h' n' => ∃ T' H', r = some (vi (mdall (mhgt B) 32 (B, 0)).2) ∧ okB (mdall (mhgt B) 32 (B, 0)).1 ∧ (∀ v, mT (mdall (mhgt B) 32 (B, 0)).1 v ↔ mT B v) ∧ (∀ j, -1 ≤ T' j ∧ T' j ≤ 33) ∧ h' (c + 1) = some (ai 264 (mdall (mhgt B) 32 (B, 0)).1) ∧ h' (c + 14) = some (ai 6 T') ∧ h' (c + 15) = some (ai 24 H') ∧ (∀ j, -1 ≤ H' j ∧ H' j ≤ 32) ∧ (∀ q, q ≠ c + 1 → q ≠ c + 14 → q ≠ c + 15 → h' q = h q) ∧ n' = n) := by
  have hk : ∀ j : Nat, j < 24 → mhgk B H 24 j = mhgt B j := fun j hj => by unfold mhgk; rw [if_pos hj]
  have hgb : ∀ j, -1 ≤ mhgt B j ∧ mhgt B j ≤ 32 := fun j => by
    unfold mhgt
    have := hB.1 (11 * j + 5)
    split <;> omega
  have hkb : ∀ j, -1 ≤ mhgk B H 24 j ∧ mhgk B H 24 j ≤ 32 := fun j => by
    unfold mhgk
    split
    · exact hgb j
    · exact hHb j
  refine YM.of kX7_drop (Nat.le_of_ble_eq_true rfl) (L0 := [some (vr c), none, none, none]) rfl ?_
  generalize hΦ : (fun (r : Option xV) (h' : yH) (n' : Nat) => ∃ T' H', r = some (vi (mdall (mhgt B) 32 (B, 0)).2) ∧ okB (mdall (mhgt B) 32 (B, 0)).1 ∧ (∀ v, mT (mdall (mhgt B) 32 (B, 0)).1 v ↔ mT B v) ∧ (∀ j, -1 ≤ T' j ∧ T' j ≤ 33) ∧ h' (c + 1) = some (ai 264 (mdall (mhgt B) 32 (B, 0)).1) ∧ h' (c + 14) = some (ai 6 T') ∧ h' (c + 15) = some (ai 24 H') ∧ (∀ j, -1 ≤ H' j ∧ H' j ≤ 32) ∧ (∀ q, q ≠ c + 1 → q ≠ c + 14 → q ≠ c + 15 → h' q = h q) ∧ n' = n) = Φ
  refine y_run kX7_drop rfl ?_
  refine YW.he (yup_self hH) ?_
  have k1 := s_mdrop1 (l := l) (G := gT G) (n := n) (Φ := Φ) (H := H) hm hb hB (by
    refine y_run kX7_drop rfl ?_
    refine s_mdrop2 (h0 := yup h (c + 15) (ai 24 (mhgk B H 24))) (B0 := B) ((yup_ne _ _ (by omega)).trans hm) (yup_eq _ _ _) (fun v v0 v1 q => ?_) hkb 32 (by omega) B T 0 _ _ hB (fun v => Iff.rfl) hT ((yup_ne _ _ (by omega)).trans hb) ((yup_ne _ _ (by omega)).trans ht) (fun q _ _ => rfl) (fun T' h' a1 a2 a3 a4 a5 a6 => ?_)
    · rw [hk _ (by omega)]
      unfold mhgt
      rw [if_neg]
      intro z
      exact q ⟨⟨v0, v1⟩, by rw [← z]; congr 1; omega⟩
    · rw [mdall_congr hk] at a1 a2 a4 ⊢
      rw [← hΦ]
      exact ⟨T', _, rfl, a1, a2, a3, a4, a5, (a6 (c + 15) (by omega) (by omega)).trans (yup_eq _ _ _), hkb, fun q q1 q2 q3 => (a6 q q1 q2).trans (yup_ne _ _ q3), rfl⟩) 24 0 (by omega) (by omega)
  have e0 : mhgk B H 0 = H := by
    funext j
    unfold mhgk
    rw [if_neg (by omega)]
  rw [e0] at k1
  exact k1
end C27
end
section
/-! class and reference hold the same scene -/
def REL (t : Int) (E K R B I : Nat → Int) : Prop := (∀ v : Int, 0 ≤ v → v < 24 → (tbt t v.toNat = true ↔ B (11 * v).toNat = 1)) ∧ (∀ v k : Int, 0 ≤ v → v < 24 → 0 ≤ k → k < 6 → E (v * 6 + k).toNat = B (11 * v + 1 + k).toNat) ∧ (∀ v k : Int, 0 ≤ v → v < 24 → 0 ≤ k → k < 4 → K (v * 4 + k).toNat = B (11 * v + 7 + k).toNat) ∧ ∀ j : Nat, j < 64 → R j = I j
section C30
variable {t : Int} {E K R B I T T' : Nat → Int}
theorem REL.r_isT (h : REL t E K R B I) (v : Int) : isT t v ↔ mT B v := by
  unfold isT mT
  constructor
  · rintro ⟨q1, q2⟩; exact ⟨q1, (h.1 v q1.1 q1.2).mp q2⟩
  · rintro ⟨q1, q2⟩; exact ⟨q1, (h.1 v q1.1 q1.2).mpr q2⟩
theorem REL.r_ovl (h : REL t E K R B I) (hT : ∀ j : Nat, j < 6 → T j = T' j) {b j : Int} (hb : 0 ≤ b) (hb2 : b < 24) (hj : 0 ≤ j) (hj2 : j < 3) : ovl E T b j ↔ movl B T' b (2 * j) := by
  have e1 := h.2.1 b (2 * j) hb hb2 (by omega) (by omega)
  have e2 := h.2.1 b (2 * j + 1) hb hb2 (by omega) (by omega)
  have e3 := hT (2 * j).toNat (by omega)
  have e4 := hT (2 * j + 1).toNat (by omega)
  rw [show b * 6 + (2 * j + 1) = b * 6 + 2 * j + 1 by omega, show 11 * b + 1 + (2 * j + 1) = 11 * b + 2 + 2 * j by omega] at e2
  unfold ovl movl
  rw [e1, e2, e3, e4]
theorem REL.r_way (h : REL t E K R B I) (hT : ∀ j : Nat, j < 6 → T j = T' j) (v : Int) {b : Int} (hb : 0 ≤ b) (hb2 : b < 24) : wayP t E T v b ↔ mway B T' v b := by
  have hi := h.r_isT b
  have o0 := h.r_ovl hT hb hb2 (j := 0) (by omega) (by omega)
  have o1 := h.r_ovl hT hb hb2 (j := 1) (by omega) (by omega)
  have o2 := h.r_ovl hT hb hb2 (j := 2) (by omega) (by omega)
  unfold wayP mway
  constructor
  · rintro ⟨q1, q2, q3⟩
    exact ⟨q1, hi.mp ⟨⟨hb, hb2⟩, q2⟩, o0.mp (q3 0 (by omega) (by omega)), o1.mp (q3 1 (by omega) (by omega)), o2.mp (q3 2 (by omega) (by omega))⟩
  · rintro ⟨q1, q2, q3, q4, q5⟩
    refine ⟨q1, (hi.mpr q2).2, fun j j0 j1 => ?_⟩
    rcases (show j = 0 ∨ j = 1 ∨ j = 2 by omega) with rfl | rfl | rfl
    · exact o0.mpr q3
    · exact o1.mpr q4
    · exact o2.mpr q5
theorem least24_uniq {P Q : Int → Prop} {z z' : Int} (hPQ : ∀ b, 0 ≤ b → b < 24 → (P b ↔ Q b)) (h1 : least24 P z) (h2 : least24 Q z') : z = z' := by
  rcases h1 with ⟨a1, a2, a3, a4⟩ | ⟨a1, a2⟩
  · rcases h2 with ⟨b1, b2, b3, b4⟩ | ⟨b1, b2⟩
    · rcases Int.lt_trichotomy z z' with c | c | c
      · exact absurd ((hPQ z a1 a2).mp a3) (b4 z a1 c)
      · exact c
      · exact absurd ((hPQ z' b1 b2).mpr b3) (a4 z' b1 c)
    · exact absurd ((hPQ z a1 a2).mp a3) (b2 z a1 a2)
  · rcases h2 with ⟨b1, b2, b3, b4⟩ | ⟨b1, b2⟩
    · exact absurd ((hPQ z' b1 b2).mpr b3) (a2 z' b1 b2)
    · omega
theorem REL.r_shT (h : REL t E K R B I) {v x e : Int} (hv : 0 ≤ v) (hv2 : v < 24) (hx : 0 ≤ x) (hx2 : x < 3) (j : Nat) (hj : j < 6) : shT E v x e j = mshT B v x e j := by
  have e1 := h.2.1 v (j : Int) hv hv2 (by omega) (by omega)
  unfold shT mshT shE msh
  rw [show (v * 6).toNat + j = (v * 6 + (j : Int)).toNat by omega, show (11 * v + 1).toNat + j = (11 * v + 1 + (j : Int)).toNat by omega, e1]
  by_cases c : (j : Int) = 2 * x ∨ (j : Int) = 2 * x + 1
  · rw [if_pos (by omega), if_pos (by omega)]
  · rw [if_neg (by omega), if_neg (by omega)]
theorem REL.r_go (h : REL t E K R B I) {v x e : Int} (hv : 0 ≤ v) (hv2 : v < 24) (hx : 0 ≤ x) (hx2 : x < 3) : goOK t E v x e ↔ mgoOK B v x e := by
  have e1 := h.2.1 v (2 * x) hv hv2 (by omega) (by omega)
  have e2 := h.2.1 v (2 * x + 1) hv hv2 (by omega) (by omega)
  rw [show v * 6 + (2 * x + 1) = v * 6 + 2 * x + 1 by omega, show 11 * v + 1 + (2 * x + 1) = 11 * v + 2 + 2 * x by omega] at e2
  have w := fun b (b0 : 0 ≤ b) (b1 : b < 24) => h.r_way (fun j hj => h.r_shT (e := e) hv hv2 hx hx2 j hj) v (b := b) b0 b1
  unfold goOK mgoOK
  rw [e1, e2]
  constructor
  · rintro ⟨q1, q2, q3⟩; exact ⟨q1, q2, fun b b0 b1 q => q3 b b0 b1 ((w b b0 b1).mpr q)⟩
  · rintro ⟨q1, q2, q3⟩; exact ⟨q1, q2, fun b b0 b1 q => q3 b b0 b1 ((w b b0 b1).mp q)⟩
theorem REL.r_went (h : REL t E K R B I) {v x s M w : Int} (hv : 0 ≤ v) (hv2 : v < 24) (hx : 0 ≤ x) (hx2 : x < 3) : went t E v x s M w ↔ mwent B v x s M w := by
  have g := fun e => h.r_go (e := e) hv hv2 hx hx2
  unfold went mwent
  constructor
  · rintro ⟨q1, q2, q3, q4⟩
    exact ⟨q1, q2, fun i i1 i2 => (g _).mp (q3 i i1 i2), q4.imp id (fun z y => z ((g _).mpr y))⟩
  · rintro ⟨q1, q2, q3, q4⟩
    exact ⟨q1, q2, fun i i1 i2 => (g _).mpr (q3 i i1 i2), q4.imp id (fun z y => z ((g _).mp y))⟩
theorem REL.r_sh (h : REL t E K R B I) {v x e : Int} (hv : 0 ≤ v) (hv2 : v < 24) (hx : 0 ≤ x) (hx2 : x < 3) : REL t (shE E v x e) K R (msh B v x e) I := by
  refine ⟨fun b b0 b1 => ?_, fun b k b0 b1 k0 k1 => ?_, fun b k b0 b1 k0 k1 => ?_, h.2.2.2⟩
  · rw [msh_off hx hx2 (by by_cases c : b ≤ v; (left; omega); (right; omega))]
    exact h.1 b b0 b1
  · have e1 := h.2.1 b k b0 b1 k0 k1
    unfold shE msh
    rw [e1]
    by_cases c : b = v ∧ (k = 2 * x ∨ k = 2 * x + 1)
    · rw [if_pos (by omega), if_pos (by omega)]
    · rw [if_neg (by omega), if_neg (by omega)]
  · rw [msh_off hx hx2 (by by_cases c : b < v; (left; omega); (right; omega))]
    exact h.2.2.1 b k b0 b1 k0 k1
theorem REL.r_fall (h : REL t E K R B I) {v : Int} (hv : 0 ≤ v) (hv2 : v < 24) : fall t E v = mfall B v := by
  by_cases q : ∃ w, went t E v 2 (-1) 32 w
  · obtain ⟨w, hw⟩ := q
    rw [fall_eq hw, mfall_eq ((h.r_went hv hv2 (by omega) (by omega)).mp hw)]
  · have q2 : ¬ ∃ w, mwent B v 2 (-1) 32 w := fun ⟨w, hw⟩ => q ⟨w, (h.r_went hv hv2 (by omega) (by omega)).mpr hw⟩
    unfold fall mfall
    rw [dif_neg q, dif_neg q2]
theorem REL.r_step (h : REL t E K R B I) {H : Nat → Int} {g v a : Int} (hv : 0 ≤ v) (hv2 : v < 24) : REL t (dstep t H g v (E, a)).1 K R (mdstep H g v (B, a)).1 I ∧ (dstep t H g v (E, a)).2 = (mdstep H g v (B, a)).2 := by
  unfold dstep mdstep
  by_cases c : H v.toNat = g
  · rw [if_pos c, if_pos c]
    dsimp only
    rw [h.r_fall hv hv2]
    exact ⟨h.r_sh hv hv2 (by omega) (by omega), rfl⟩
  · rw [if_neg c, if_neg c]
    exact ⟨h, rfl⟩
end C30
theorem REL_row {t g : Int} {K R I H : Nat → Int} : ∀ (m : Nat), m ≤ 24 → ∀ (E B : Nat → Int) (a : Int), REL t E K R B I → REL t (drow t H g m (E, a)).1 K R (mdrow H g m (B, a)).1 I ∧ (drow t H g m (E, a)).2 = (mdrow H g m (B, a)).2 := by
  intro m
  induction m with
  | zero => intro _ E B a h; exact ⟨h, rfl⟩
  | succ m ih =>
    intro hm E B a h
    obtain ⟨h1, h2⟩ := h.r_step (H := H) (g := g) (v := 24 - ((m + 1 : Nat) : Int)) (a := a) (by omega) (by omega)
    unfold drow mdrow
    generalize hA : dstep t H g (24 - ((m + 1 : Nat) : Int)) (E, a) = A at *
    generalize hC : mdstep H g (24 - ((m + 1 : Nat) : Int)) (B, a) = C at *
    obtain ⟨A1, A2⟩ := A
    obtain ⟨C1, C2⟩ := C
    dsimp only at h1 h2
    subst h2
    exact ih (by omega) A1 C1 A2 h1
theorem REL_all {t : Int} {K R I H : Nat → Int} : ∀ (m : Nat) (E B : Nat → Int) (a : Int), REL t E K R B I → REL t (dall t H m (E, a)).1 K R (mdall H m (B, a)).1 I ∧ (dall t H m (E, a)).2 = (mdall H m (B, a)).2 := by
  intro m
  induction m with
  | zero => intro E B a h; exact ⟨h, rfl⟩
  | succ m ih =>
    intro E B a h
    obtain ⟨h1, h2⟩ := REL_row (H := H) (g := 32 - ((m + 1 : Nat) : Int)) 24 (by omega) E B a h
    unfold dall mdall
    generalize hA : drow t H (32 - ((m + 1 : Nat) : Int)) 24 (E, a) = A at *
    generalize hC : mdrow H (32 - ((m + 1 : Nat) : Int)) 24 (B, a) = C at *
    obtain ⟨A1, A2⟩ := A
    obtain ⟨C1, C2⟩ := C
    dsimp only at h1 h2
    subst h2
    exact ih A1 C1 A2 h1
theorem REL.r_hgt {t : Int} {E K R B I : Nat → Int} (h : REL t E K R B I) (j : Nat) (hj : j < 24) : hgt t E j = mhgt B j := by
  have e1 := h.1 (j : Int) (by omega) (by omega)
  have e2 := h.2.1 (j : Int) 4 (by omega) (by omega) (by omega) (by omega)
  rw [Int.toNat_natCast, show (11 * (j : Int)).toNat = 11 * j by omega] at e1
  rw [show ((j : Int) * 6 + 4).toNat = j * 6 + 4 by omega, show (11 * (j : Int) + 1 + 4).toNat = 11 * j + 5 by omega] at e2
  unfold hgt mhgt
  by_cases c : tbt t j = true
  · rw [if_pos c, if_pos (e1.mp c), e2]
  · rw [if_neg c, if_neg (fun q => c (e1.mpr q))]
theorem REL.r_drop {t : Int} {E K R B I : Nat → Int} (h : REL t E K R B I) : REL t (dall t (hgt t E) 32 (E, 0)).1 K R (mdall (mhgt B) 32 (B, 0)).1 I ∧ (dall t (hgt t E) 32 (E, 0)).2 = (mdall (mhgt B) 32 (B, 0)).2 := by
  rw [dall_congr (fun j hj => h.r_hgt j hj)]
  exact REL_all 32 E B 0 h
end
section
theorem upZ_eq (F : Nat → Int) (k : Nat) (x : Int) : upZ F k x k = x := by unfold upZ; rw [if_pos rfl]
theorem upZ_ne (F : Nat → Int) {k j : Nat} (x : Int) (h : j ≠ k) : upZ F k x j = F j := by unfold upZ; rw [if_neg h]
section C31
variable {t : Int} {E K R B I : Nat → Int}
theorem REL.r_lift (h : REL t E K R B I) {v : Int} (hv : 0 ≤ v) (hv2 : v < 24) : REL (yand t (yxor (yshl 1 v) (-1))) E K R (upZ B (11 * v).toNat 0) I := by
  refine ⟨fun b b0 b1 => ?_, fun b k b0 b1 k0 k1 => ?_, fun b k b0 b1 k0 k1 => ?_, h.2.2.2⟩
  · rw [tbt_and, tbt_xor, tbt_bit hv (by omega), tbt_m1 (by omega)]
    by_cases c : b = v
    · subst c
      rw [upZ_eq]
      simp
    · rw [upZ_ne _ _ (by omega), show decide (b.toNat = v.toNat) = false from decide_eq_false (by omega)]
      have := h.1 b b0 b1
      simpa using this
  · rw [upZ_ne _ _ (by omega)]; exact h.2.1 b k b0 b1 k0 k1
  · rw [upZ_ne _ _ (by omega)]; exact h.2.2.1 b k b0 b1 k0 k1
theorem REL.r_paint (h : REL t E K R B I) {v a p q u : Int} (hv : 0 ≤ v) (hv2 : v < 24) : REL t E (lkS K v a p q u) R (mlk B v a p q u) I := by
  refine ⟨fun b b0 b1 => ?_, fun b k b0 b1 k0 k1 => ?_, fun b k b0 b1 k0 k1 => ?_, h.2.2.2⟩
  · unfold mlk
    rw [upZ_ne _ _ (by omega), upZ_ne _ _ (by omega), upZ_ne _ _ (by omega), upZ_ne _ _ (by omega)]
    exact h.1 b b0 b1
  · unfold mlk
    rw [upZ_ne _ _ (by omega), upZ_ne _ _ (by omega), upZ_ne _ _ (by omega), upZ_ne _ _ (by omega)]
    exact h.2.1 b k b0 b1 k0 k1
  · have o := h.2.2.1 b k b0 b1 k0 k1
    unfold lkS mlk upZ
    by_cases c : b = v
    · subst c
      rcases (show k = 0 ∨ k = 1 ∨ k = 2 ∨ k = 3 by omega) with rfl | rfl | rfl | rfl
      · rw [if_neg (by omega), if_neg (by omega), if_neg (by omega), if_pos (by omega), if_neg (by omega), if_neg (by omega), if_neg (by omega), if_pos (by omega)]
      · rw [if_neg (by omega), if_neg (by omega), if_pos (by omega), if_neg (by omega), if_neg (by omega), if_pos (by omega)]
      · rw [if_neg (by omega), if_pos (by omega), if_neg (by omega), if_pos (by omega)]
      · rw [if_pos (by omega), if_pos (by omega)]
    · rw [if_neg (by omega), if_neg (by omega), if_neg (by omega), if_neg (by omega), if_neg (by omega), if_neg (by omega), if_neg (by omega), if_neg (by omega)]
      exact o
theorem REL.r_ink (h : REL t E K R B I) {p r w : Int} (hp : 0 ≤ p) (hp2 : p < 8) (hr : 0 ≤ r) (hr2 : r < 8) : REL t E K (upZ R (p * 8 + r).toNat w) B (upZ I (8 * p + r).toNat w) := by
  refine ⟨h.1, h.2.1, h.2.2.1, fun j hj => ?_⟩
  unfold upZ
  by_cases c : j = (p * 8 + r).toNat
  · rw [if_pos c, if_pos (by omega)]
  · rw [if_neg c, if_neg (by omega)]
    exact h.2.2.2 j hj
theorem tr6_eq (T T' : Nat → Int) (x y z dx dy dz : Int) (j : Nat) (hj : j < 6) : tr6 T x y z dx dy dz j = tr6 T' x y z dx dy dz j := by
  unfold tr6 upZ
  by_cases c5 : j = 5
  · rw [if_pos c5, if_pos c5]
  · rw [if_neg c5, if_neg c5]
    by_cases c4 : j = 4
    · rw [if_pos c4, if_pos c4]
    · rw [if_neg c4, if_neg c4]
      by_cases c3 : j = 3
      · rw [if_pos c3, if_pos c3]
      · rw [if_neg c3, if_neg c3]
        by_cases c2 : j = 2
        · rw [if_pos c2, if_pos c2]
        · rw [if_neg c2, if_neg c2]
          by_cases c1 : j = 1
          · rw [if_pos c1, if_pos c1]
          · rw [if_neg c1, if_neg c1, if_pos (by omega), if_pos (by omega)]
theorem REL.r_place1 (h : REL t E K R B I) {v : Int} {T T' : Nat → Int} (hT : ∀ j : Nat, j < 6 → T j = T' j) (hv : 0 ≤ v) (hv2 : v < 24) (hb : tbt t v.toNat = true) : REL t (cpZ T E 0 (v * 6).toNat 6) K R (bcp (upZ B (11 * v).toNat 1) T' v 6) I := by
  refine ⟨fun b b0 b1 => ?_, fun b k b0 b1 k0 k1 => ?_, fun b k b0 b1 k0 k1 => ?_, h.2.2.2⟩
  · unfold bcp
    rw [if_neg (by by_cases c : b ≤ v <;> omega)]
    by_cases c : b = v
    · subst c
      rw [upZ_eq]
      exact ⟨fun _ => rfl, fun _ => hb⟩
    · rw [upZ_ne _ _ (by omega)]; exact h.1 b b0 b1
  · unfold cpZ bcp
    by_cases c : b = v
    · subst c
      rw [if_pos (by omega), if_pos (by omega), hT _ (by omega)]
      congr 1
      omega
    · rw [if_neg (by omega), if_neg (by omega), upZ_ne _ _ (by omega)]
      exact h.2.1 b k b0 b1 k0 k1
  · unfold bcp
    rw [if_neg (by by_cases c : b < v <;> omega), upZ_ne _ _ (by omega)]
    exact h.2.2.1 b k b0 b1 k0 k1
theorem REL.r_place0 (h : REL t E K R B I) {v : Int} {T T' : Nat → Int} (hT : ∀ j : Nat, j < 6 → T j = T' j) (hv : 0 ≤ v) (hv2 : v < 24) : REL (yor t (yshl 1 v)) (cpZ T E 0 (v * 6).toNat 6) (lk0 K v) R (bcp (upZ (bz B v 11) (11 * v).toNat 1) T' v 6) I := by
  refine ⟨fun b b0 b1 => ?_, fun b k b0 b1 k0 k1 => ?_, fun b k b0 b1 k0 k1 => ?_, h.2.2.2⟩
  · rw [tbt_or, tbt_bit hv (by omega)]
    unfold bcp
    rw [if_neg (by by_cases c : b ≤ v <;> omega)]
    by_cases c : b = v
    · subst c
      rw [upZ_eq]
      simp
    · rw [upZ_ne _ _ (by omega), show decide (b.toNat = v.toNat) = false from decide_eq_false (by omega)]
      unfold bz
      rw [if_neg (by by_cases c2 : b ≤ v <;> omega)]
      have := h.1 b b0 b1
      simpa using this
  · unfold cpZ bcp
    by_cases c : b = v
    · subst c
      rw [if_pos (by omega), if_pos (by omega), hT _ (by omega)]
      congr 1
      omega
    · rw [if_neg (by omega), if_neg (by omega), upZ_ne _ _ (by omega)]
      unfold bz
      rw [if_neg (by omega)]
      exact h.2.1 b k b0 b1 k0 k1
  · have o := h.2.2.1 b k b0 b1 k0 k1
    unfold bcp
    rw [if_neg (by by_cases c : b < v <;> omega), upZ_ne _ _ (by omega)]
    by_cases c : b = v
    · subst c
      rw [show bz B b 11 (11 * b + 7 + k).toNat = 0 by unfold bz; rw [if_pos (by omega)]]
      unfold lk0 upZ
      rcases (show k = 0 ∨ k = 1 ∨ k = 2 ∨ k = 3 by omega) with rfl | rfl | rfl | rfl
      · rw [if_neg (by omega), if_neg (by omega), if_neg (by omega), if_pos (by omega)]
      · rw [if_neg (by omega), if_neg (by omega), if_pos (by omega)]
      · rw [if_neg (by omega), if_pos (by omega)]
      · rw [if_pos (by omega)]
    · rw [show bz B v 11 (11 * b + 7 + k).toNat = B (11 * b + 7 + k).toNat by unfold bz; rw [if_neg (by omega)]]
      unfold lk0 upZ
      rw [if_neg (by omega), if_neg (by omega), if_neg (by omega), if_neg (by omega)]
      exact o
end C31
end
section
/-! the law's own body: the script is known beside the heap -/
abbrev gS (G : xG) (b N : Nat) (xs : Nat → Int32) : xG := (G.1, G.2.1, fun s A => va_X b N xs s s.heap ∧ b < s.heap.size ∧ ¬ A b)
section C40
variable {l : Launch} {G : xG} {M : xM} {d kc ks : Nat} {Φ : Option xV → yH → Nat → Prop} {h : yH} {n : Nat} {pc : Nat} {L : List (Option xV)} {st : List xV} {b N : Nat} {xs : Nat → Int32}
theorem y_sld (hM : xOK M) {z : Int} (hd : xat M pc = some (.iaload, 1)) (h1 : 0 ≤ z) (h2 : z < N) (h3 : z < 2147483648) (kk : YW l (gS G b N xs) M d kc ks Φ (pc + 1) L (vi (xs z.toNat).toInt :: st) h n) : YW l (gS G b N xs) M d kc ks Φ pc L (vi z :: vr b :: st) h n := by
  intro p e R s m args below meth c H locs cells slots ls A hC hR hS hI hA g1 g2 g3 g4 hL
  obtain ⟨hX, hbl, hbA⟩ := hA.2
  refine va_sld hC.1 hC.2.1 hX hbl hbA hS (iI_in h1 h2 h3) (hM.dec hd) ?_
  rw [iI_nat h1 h3]
  have k := kk p e R s m args below meth c H locs cells slots ls A hC hR hS hI hA g1 g2 g3 g4 hL
  have e : mS (vi (xs z.toNat).toInt :: st) = .int (xs z.toNat) :: mS st := by
    show Value.int (iI (xs z.toNat).toInt) :: mS st = _
    rw [← iI_of]
  rw [e] at k
  exact k
theorem y_slen (hM : xOK M) (hd : xat M pc = some (.arraylength, 1)) (kk : YW l (gS G b N xs) M d kc ks Φ (pc + 1) L (vi (N : Int) :: st) h n) : YW l (gS G b N xs) M d kc ks Φ pc L (vr b :: st) h n := by
  intro p e R s m args below meth c H locs cells slots ls A hC hR hS hI hA g1 g2 g3 g4 hL
  obtain ⟨hX, hbl, hbA⟩ := hA.2
  exact va_slen hC.1 hC.2.1 hX hbl hbA hS (hM.dec hd) (kk p e R s m args below meth c H locs cells slots ls A hC hR hS hI hA g1 g2 g3 g4 hL)
end C40
end
section
/-! THE REGION: all that both sides hold lies from b on; cells that a table names are known by kind and bounds alone, all others are as in g -/
def pTb (j : Nat) : Option (Nat × Nat × Int × Int) := match j with
  | 0 => none
  | 1 => some (0, 720, 0, 32)
  | 2 => some (0, 120, 0, 23)
  | 3 => some (0, 96, 0, 119)
  | 4 => none
  | 5 => none
  | 6 => none
  | _ => some (3, 0, 0, 0)
def fTb (k : Nat) : Option (Nat × Nat × Int × Int) := match k with
  | 9 => some (2, 8192, 0, 0)
  | 10 => some (2, 8192, 0, 0)
  | 11 => some (0, 24, -2147483648, 2147483647)
  | 12 => some (0, 5, -2147483648, 2147483647)
  | 13 => some (4, 0, 0, 0)
  | 14 => some (5, 0, 0, 0)
  | 15 => some (4, 0, 0, 0)
  | 16 => some (5, 0, 0, 0)
  | 17 => some (5, 0, 0, 0)
  | 18 => some (0, 24, -100000, 100000)
  | 19 => some (0, 24, -1, 32)
  | _ => none
def mTb (k : Nat) : Option (Nat × Nat × Int × Int) := match k with
  | 5 => some (0, 1024, -1, 127)
  | 6 => some (1, 16384, 0, 0)
  | 7 => some (1, 16384, 0, 0)
  | 8 => some (0, 128, -100000, 100000)
  | 9 => some (0, 96, 0, 127)
  | 10 => some (0, 768, -1, 127)
  | 11 => some (0, 8192, -1, 100000)
  | 12 => some (0, 8192, -1, 100000)
  | 13 => some (0, 8192, -2147483648, 2147483647)
  | _ => none
def rTb (k : Nat) : Option (Nat × Nat × Int × Int) := if k < 20 then fTb k else if k < 270 then pTb (k - 20) else if k < 520 then pTb (k - 270) else if k < 540 then none else mTb (k - 540)
set_option maxRecDepth 10000 in
theorem rTb_p {o j : Nat} (ho : o = 20 ∨ o = 270) (hj : j < 250) : rTb (o + j) = pTb j := by
  rcases ho with rfl | rfl
  · unfold rTb; rw [if_neg (by omega), if_pos (by omega)]; congr 1; omega
  · unfold rTb; rw [if_neg (by omega), if_neg (by omega), if_pos (by omega)]; congr 1; omega
theorem pTb_n {j : Nat} (hj : 7 ≤ j) : pTb j = some (3, 0, 0, 0) := by
  obtain ⟨k, rfl⟩ : ∃ k, j = k + 7 := ⟨j - 7, by omega⟩
  rfl
def okc (c : Nat × Nat × Int × Int) (e : Option yE) : Prop := match c with
  | (0, N, lo, hi) => ∃ F, e = some (ai N F) ∧ ∀ j, lo ≤ F j ∧ F j ≤ hi
  | (1, N, _, _) => ∃ F, e = some (az N F) ∧ ∀ j, F j = 0 ∨ F j = 1
  | (2, N, _, _) => ∃ F, e = some (ai N F) ∧ ∀ j, F j / 256 % 32 < 24
  | (3, _, _, _) => ∃ x y : Int64, e = some (ob 0 [vl x, vl y])
  | (4, _, _, _) => ∃ r0 r1 r2 r3 : Int, e = some (ob 4 [vi r0, vi r1, vi r2, vi r3]) ∧ (-1000 ≤ r0 ∧ r0 ≤ 1000) ∧ (-1000 ≤ r1 ∧ r1 ≤ 1000) ∧ (-10000 ≤ r2 ∧ r2 ≤ 10000) ∧ 0 ≤ r3 ∧ r3 ≤ 2
  | (_, _, _, _) => ∃ r0 r1 r2 r3 r4 r5 : Int, e = some (ob 1 [vi r0, vi r1, vi r2, vi r3, vi r4, vi r5]) ∧ (-32 ≤ r0 ∧ r0 ≤ 32) ∧ (-32 ≤ r1 ∧ r1 ≤ 32) ∧ (-32 ≤ r2 ∧ r2 ≤ 32) ∧ (-32 ≤ r3 ∧ r3 ≤ 32) ∧ (-32 ≤ r4 ∧ r4 ≤ 32) ∧ -33 ≤ r5 ∧ r5 ≤ 31
def MI (b : Nat) (g h : yH) : Prop := (∀ k c, rTb k = some c → okc c (h (b + k))) ∧ ∀ q, (∀ k, q = b + k → rTb k = none) → h q = g q
section C50
variable {b : Nat} {g h : yH}
theorem MI.x (hI : MI b g h) {k : Nat} {e : yE} (hk : rTb k = none) (hq : g (b + k) = some e) : h (b + k) = some e := (hI.2 (b + k) (fun j hj => by rw [show j = k by omega]; exact hk)).trans hq
theorem MI.i (hI : MI b g h) {k N : Nat} {lo hi : Int} (hk : rTb k = some (0, N, lo, hi)) : ∃ F, h (b + k) = some (ai N F) ∧ ∀ j, lo ≤ F j ∧ F j ≤ hi := hI.1 k _ hk
theorem MI.z (hI : MI b g h) {k N : Nat} {lo hi : Int} (hk : rTb k = some (1, N, lo, hi)) : ∃ F, h (b + k) = some (az N F) ∧ ∀ j, F j = 0 ∨ F j = 1 := hI.1 k _ hk
theorem MI.c (hI : MI b g h) {k N : Nat} {lo hi : Int} (hk : rTb k = some (2, N, lo, hi)) : ∃ F, h (b + k) = some (ai N F) ∧ ∀ j, F j / 256 % 32 < 24 := hI.1 k _ hk
theorem MI.n (hI : MI b g h) {k N : Nat} {lo hi : Int} (hk : rTb k = some (3, N, lo, hi)) : ∃ x y : Int64, h (b + k) = some (ob 0 [vl x, vl y]) := hI.1 k _ hk
theorem MI.r (hI : MI b g h) {k N : Nat} {lo hi : Int} (hk : rTb k = some (4, N, lo, hi)) : ∃ r0 r1 r2 r3 : Int, h (b + k) = some (ob 4 [vi r0, vi r1, vi r2, vi r3]) ∧ (-1000 ≤ r0 ∧ r0 ≤ 1000) ∧ (-1000 ≤ r1 ∧ r1 ≤ 1000) ∧ (-10000 ≤ r2 ∧ r2 ≤ 10000) ∧ 0 ≤ r3 ∧ r3 ≤ 2 := hI.1 k _ hk
theorem MI.o (hI : MI b g h) {k N : Nat} {lo hi : Int} (hk : rTb k = some (5, N, lo, hi)) : ∃ r0 r1 r2 r3 r4 r5 : Int, h (b + k) = some (ob 1 [vi r0, vi r1, vi r2, vi r3, vi r4, vi r5]) ∧ (-32 ≤ r0 ∧ r0 ≤ 32) ∧ (-32 ≤ r1 ∧ r1 ≤ 32) ∧ (-32 ≤ r2 ∧ r2 ≤ 32) ∧ (-32 ≤ r3 ∧ r3 ≤ 32) ∧ (-32 ≤ r4 ∧ r4 ≤ 32) ∧ -33 ≤ r5 ∧ r5 ≤ 31 := hI.1 k _ hk
theorem MI.up (hI : MI b g h) {k : Nat} {c : Nat × Nat × Int × Int} {e : yE} (hk : rTb k = some c) (ho : okc c (some e)) : MI b g (yup h (b + k) e) := by
  refine ⟨fun j c' hj => ?_, fun q hq => ?_⟩
  · by_cases q : j = k
    · subst q
      rw [hk] at hj
      cases hj
      rw [yup_eq]
      exact ho
    · rw [yup_ne _ _ (by omega)]
      exact hI.1 j c' hj
  · have : q ≠ b + k := fun e => by rw [hq k e] at hk; cases hk
    rw [yup_ne _ _ this]
    exact hI.2 q hq
/-- a cell that is known: both change -/
theorem MI.upx (hI : MI b g h) {k : Nat} (e : yE) (hk : rTb k = none) : MI b (yup g (b + k) e) (yup h (b + k) e) := by
  refine ⟨fun j c' hj => ?_, fun q hq => ?_⟩
  · have : j ≠ k := fun e => by rw [e, hk] at hj; cases hj
    rw [yup_ne _ _ (by omega)]
    exact hI.1 j c' hj
  · by_cases e : q = b + k
    · subst e; rw [yup_eq, yup_eq]
    · rw [yup_ne _ _ e, yup_ne _ _ e]; exact hI.2 q hq
theorem MI.self (hI : MI b g h) : MI b h h := ⟨hI.1, fun _ _ => rfl⟩
theorem MI.tr {g' : yH} (hI : MI b g h) (hg : MI b g' g) : MI b g' h := ⟨hI.1, fun q hq => (hI.2 q hq).trans (hg.2 q hq)⟩
theorem MI.cg {g' : yH} (hI : MI b g h) (hg : ∀ q, (∀ k, q = b + k → rTb k = none) → g q = g' q) : MI b g' h := ⟨hI.1, fun q hq => (hI.2 q hq).trans (hg q hq)⟩
/-- another heap that agrees where the table says something -/
theorem MI.on (hI : MI b g h) {h' : yH} (hq : ∀ k c, rTb k = some c → h' (b + k) = h (b + k)) : MI b h' h' := ⟨fun k c hk => by rw [hq k c hk]; exact hI.1 k c hk, fun _ _ => rfl⟩
end C50
def nrm (z : Int) : Int := (iI z).toInt
theorem nrm_den (z : Int) : den (vi (nrm z)) = den (vi z) := by
  show Value.int (iI (nrm z)) = Value.int (iI z)
  unfold nrm
  rw [← iI_of]
theorem nrm_rng (z : Int) : -2147483648 ≤ nrm z ∧ nrm z ≤ 2147483647 := by
  have := iI_rng (iI z)
  unfold nrm
  omega
theorem nrm_id {z : Int} (h1 : -2147483648 ≤ z) (h2 : z < 2147483648) : nrm z = z := iI_toInt h1 h2
theorem nrm_hi {z : Int} (h1 : 2147483648 ≤ z) (h2 : z < 6442450944) : nrm z = z - 4294967296 := by
  have e : iI z = iI (z - 4294967296) := by
    rw [← iI_sub, show iI 4294967296 = 0 from by decide +kernel]
    simp
  show (iI z).toInt = _
  rw [e]
  exact iI_toInt (by omega) (by omega)
section C51
variable {l : Launch} {G : xG} {M : xM} {d kc ks : Nat} {Φ Ψ : Option xV → yH → Nat → Prop} {h : yH} {n : Nat} {pc : Nat} {L : List (Option xV)} {st rest : List xV} {b : Nat} {g : yH}
theorem YW.nr1 {z : Int} (k : YW l G M d kc ks Φ pc L (vi (nrm z) :: st) h n) : YW l G M d kc ks Φ pc L (vi z :: st) h n := by
  unfold YW mS at k ⊢
  rw [List.map_cons, nrm_den] at k
  exact k
theorem YW.nr2 {z : Int} {x : xV} (k : YW l G M d kc ks Φ pc L (x :: vi (nrm z) :: st) h n) : YW l G M d kc ks Φ pc L (x :: vi z :: st) h n := by
  unfold YW mS at k ⊢
  rw [List.map_cons, List.map_cons, nrm_den] at k
  exact k
theorem m_ia (hM : xOK M) {a N : Nat} {lo hi z : Int} (k : Nat) (hI : MI b g h) (hk : rTb k = some (0, N, lo, hi)) (kk : ∀ v, lo ≤ v → v ≤ hi → YW l G M d kc ks Φ (pc + 1) L (vi v :: st) h n) (hd : xat M pc = some (.iaload, 1) := by rfl) (ha : a = b + k := by rfl) (h1 : 0 ≤ z := by omega) (h2 : z < N := by omega) (h3 : z < 2147483648 := by omega) : YW l G M d kc ks Φ pc L (vi z :: vr a :: st) h n := by
  subst ha
  obtain ⟨F, e, hF⟩ := hI.i hk
  exact y_ia hM hd e h1 h2 (kk _ (hF _).1 (hF _).2) h3
theorem m_iac (hM : xOK M) {a N : Nat} {lo hi z : Int} (k : Nat) (hI : MI b g h) (hk : rTb k = some (2, N, lo, hi)) (kk : ∀ v : Int, v / 256 % 32 < 24 → YW l G M d kc ks Φ (pc + 1) L (vi v :: st) h n) (hd : xat M pc = some (.iaload, 1) := by rfl) (ha : a = b + k := by rfl) (h1 : 0 ≤ z := by omega) (h2 : z < N := by omega) (h3 : z < 2147483648 := by omega) : YW l G M d kc ks Φ pc L (vi z :: vr a :: st) h n := by
  subst ha
  obtain ⟨F, e, hF⟩ := hI.c hk
  exact y_ia hM hd e h1 h2 (kk _ (hF _)) h3
/-- a row that is known -/
theorem m_ix (hM : xOK M) {a N : Nat} {F : Nat → Int} {lo hi z : Int} (e : h a = some (ai N F)) (hF : ∀ j, lo ≤ F j ∧ F j ≤ hi) (kk : ∀ v, v = F z.toNat → lo ≤ v → v ≤ hi → YW l G M d kc ks Φ (pc + 1) L (vi v :: st) h n) (hd : xat M pc = some (.iaload, 1) := by rfl) (h1 : 0 ≤ z := by omega) (h2 : z < N := by omega) (h3 : z < 2147483648 := by omega) : YW l G M d kc ks Φ pc L (vi z :: vr a :: st) h n :=
  y_ia hM hd e h1 h2 (kk _ rfl (hF _).1 (hF _).2) h3
theorem m_za (hM : xOK M) {a N : Nat} {lo hi z : Int} (k : Nat) (hI : MI b g h) (hk : rTb k = some (1, N, lo, hi)) (kk : ∀ v : Int, v = 0 ∨ v = 1 → YW l G M d kc ks Φ (pc + 1) L (vi v :: st) h n) (hd : xat M pc = some (.baload, 1) := by rfl) (ha : a = b + k := by rfl) (h1 : 0 ≤ z := by omega) (h2 : z < N := by omega) (h3 : z < 2147483648 := by omega) : YW l G M d kc ks Φ pc L (vi z :: vr a :: st) h n := by
  subst ha
  obtain ⟨F, e, hF⟩ := hI.z hk
  exact y_za hM hd e h1 h2 (kk _ (hF _)) h3
theorem upZ_all {P : Int → Prop} {F : Nat → Int} (hF : ∀ j, P (F j)) (k : Nat) {x : Int} (hx : P x) : ∀ j, P (upZ F k x j) := fun j => by
  unfold upZ
  split
  · exact hx
  · exact hF j
theorem m_is (hM : xOK M) {a N : Nat} {lo hi z x : Int} (k : Nat) (hI : MI b g h) (hk : rTb k = some (0, N, lo, hi)) (kk : ∀ h', MI b g h' → YW l G M d kc ks Φ (pc + 1) L st h' n) (hd : xat M pc = some (.iastore, 1) := by rfl) (ha : a = b + k := by rfl) (h1 : 0 ≤ z := by omega) (h2 : z < N := by omega) (h3 : z < 2147483648 := by omega) (x1 : lo ≤ x := by omega) (x2 : x ≤ hi := by omega) : YW l G M d kc ks Φ pc L (vi x :: vi z :: vr a :: st) h n := by
  subst ha
  obtain ⟨F, e, hF⟩ := hI.i hk
  exact y_is hM hd e h1 h2 (kk _ (hI.up hk ⟨_, rfl, upZ_all (P := fun x => lo ≤ x ∧ x ≤ hi) hF _ ⟨x1, x2⟩⟩)) h3
theorem m_isn (hM : xOK M) {a N : Nat} {z x : Int} (k : Nat) (hI : MI b g h) (hk : rTb k = some (0, N, -2147483648, 2147483647)) (kk : ∀ h', MI b g h' → YW l G M d kc ks Φ (pc + 1) L st h' n) (hd : xat M pc = some (.iastore, 1) := by rfl) (ha : a = b + k := by rfl) (h1 : 0 ≤ z := by omega) (h2 : z < N := by omega) (h3 : z < 2147483648 := by omega) : YW l G M d kc ks Φ pc L (vi x :: vi z :: vr a :: st) h n :=
  YW.nr1 (m_is hM k hI hk kk hd ha h1 h2 h3 (nrm_rng x).1 (nrm_rng x).2)
theorem m_isc (hM : xOK M) {a N : Nat} {lo hi z x : Int} (k : Nat) (hI : MI b g h) (hk : rTb k = some (2, N, lo, hi)) (kk : ∀ h', MI b g h' → YW l G M d kc ks Φ (pc + 1) L st h' n) (hd : xat M pc = some (.iastore, 1) := by rfl) (ha : a = b + k := by rfl) (h1 : 0 ≤ z := by omega) (h2 : z < N := by omega) (h3 : z < 2147483648 := by omega) (x1 : x / 256 % 32 < 24 := by omega) : YW l G M d kc ks Φ pc L (vi x :: vi z :: vr a :: st) h n := by
  subst ha
  obtain ⟨F, e, hF⟩ := hI.c hk
  exact y_is hM hd e h1 h2 (kk _ (hI.up hk ⟨_, rfl, upZ_all (P := fun x => x / 256 % 32 < 24) hF _ x1⟩)) h3
theorem m_zs (hM : xOK M) {a N : Nat} {lo hi z x : Int} (k : Nat) (hI : MI b g h) (hk : rTb k = some (1, N, lo, hi)) (kk : ∀ h', MI b g h' → YW l G M d kc ks Φ (pc + 1) L st h' n) (hd : xat M pc = some (.bastore, 1) := by rfl) (ha : a = b + k := by rfl) (h1 : 0 ≤ z := by omega) (h2 : z < N := by omega) (h3 : z < 2147483648 := by omega) (x1 : x = 0 ∨ x = 1 := by omega) : YW l G M d kc ks Φ pc L (vi x :: vi z :: vr a :: st) h n := by
  subst ha
  obtain ⟨F, e, hF⟩ := hI.z hk
  exact y_zs hM hd e h1 h2 x1 (kk _ (hI.up hk ⟨_, rfl, upZ_all (P := fun x => x = 0 ∨ x = 1) hF _ x1⟩)) h3
/-- a field of an object that is known -/
theorem m_get (hM : xOK M) {idx a ci j : Nat} {fs : List xV} {v : xV} (k : Nat) (hI : MI b g h) (e : g (b + k) = some (ob ci fs)) (kk : YW l G M d kc ks Φ (pc + 3) L (v :: st) h n) (hk : rTb k = none := by rfl) (hd : xat M pc = some (.getfield idx, 3) := by rfl) (hf : M.2.2.2.2.2.2.lookup idx = some (ci, j) := by rfl) (hv : fs[j]? = some v := by rfl) (ha : a = b + k := by rfl) : YW l G M d kc ks Φ pc L (vr a :: st) h n := by
  subst ha
  exact y_get hM hd hf (hI.x hk e) hv kk
theorem m_put (hM : xOK M) {idx a ci j : Nat} {fs : List xV} {v : xV} (k : Nat) (hI : MI b g h) (e : g (b + k) = some (ob ci fs)) (kk : ∀ h', MI b (yup g (b + k) (ob ci (fs.set j v))) h' → YW l G M d kc ks Φ (pc + 3) L st h' n) (hk : rTb k = none := by rfl) (hd : xat M pc = some (.putfield idx, 3) := by rfl) (hf : M.2.2.2.2.2.2.lookup idx = some (ci, j) := by rfl) (hfin : xfin ci j = false := by rfl) (hn : narrow (xty ci j) (den v) = den v := by rfl) (hfit : fits (xty ci j) (den v) = true := by rfl) (hl : j < fs.length := by exact Nat.le_of_ble_eq_true rfl) (ha : a = b + k := by rfl) : YW l G M d kc ks Φ pc L (v :: vr a :: st) h n := by
  subst ha
  exact y_put hM hd hf (hI.x hk e) hfin hn hfit (kk _ (hI.upx _ hk)) hl
/-- int division by a constant, over any int -/
theorem m_idiv (hM : xOK M) {x y : Int} (h3 : 0 < y) (h4 : y < 2147483648) (k : ∀ v, -2147483648 ≤ v → v ≤ 2147483647 → YW l G M d kc ks Φ (pc + 1) L (vi v :: st) h n) (hd : xat M pc = some (.idiv, 1) := by rfl) : YW l G M d kc ks Φ pc L (vi y :: vi x :: st) h n := by
  refine x_idiv hM hd (by rw [← iI_0, iI_eq (by omega) (by omega) (by omega) (by omega)]; omega) ?_
  have r := iI_rng (iI x / iI y)
  have k' := k (iI x / iI y).toInt (by omega) (by omega)
  have e : mS (vi (iI x / iI y).toInt :: st) = .int (iI x / iI y) :: mS st := by
    show Value.int (iI (iI x / iI y).toInt) :: mS st = _
    rw [← iI_of]
  unfold YW at k'
  rw [e] at k'
  exact k'
theorem m_getR (hM : xOK M) {idx a j N : Nat} {lo hi : Int} (k : Nat) (hI : MI b g h) (hk : rTb k = some (4, N, lo, hi)) (hj : j < 4) (kk : ∀ v, -100000 ≤ v → v ≤ 100000 → YW l G M d kc ks Φ (pc + 3) L (vi v :: st) h n) (hd : xat M pc = some (.getfield idx, 3) := by rfl) (hf : M.2.2.2.2.2.2.lookup idx = some (4, j) := by rfl) (ha : a = b + k := by rfl) : YW l G M d kc ks Φ pc L (vr a :: st) h n := by
  subst ha
  obtain ⟨r0, r1, r2, r3, e, s0, s1, s2, s3⟩ := hI.r hk
  rcases (show j = 0 ∨ j = 1 ∨ j = 2 ∨ j = 3 by omega) with rfl | rfl | rfl | rfl
  · exact y_get hM hd hf e rfl (kk _ (by omega) (by omega))
  · exact y_get hM hd hf e rfl (kk _ (by omega) (by omega))
  · exact y_get hM hd hf e rfl (kk _ (by omega) (by omega))
  · exact y_get hM hd hf e rfl (kk _ (by omega) (by omega))
theorem m_getF (hM : xOK M) {idx a N : Nat} {lo hi : Int} (k : Nat) (hI : MI b g h) (hk : rTb k = some (4, N, lo, hi)) (kk : ∀ v, 0 ≤ v → v ≤ 2 → YW l G M d kc ks Φ (pc + 3) L (vi v :: st) h n) (hd : xat M pc = some (.getfield idx, 3) := by rfl) (hf : M.2.2.2.2.2.2.lookup idx = some (4, 3) := by rfl) (ha : a = b + k := by rfl) : YW l G M d kc ks Φ pc L (vr a :: st) h n := by
  subst ha
  obtain ⟨r0, r1, r2, r3, e, s0, s1, s2, s3⟩ := hI.r hk
  exact y_get hM hd hf e rfl (kk _ s3.1 s3.2)
theorem m_getO4 (hM : xOK M) {idx a N : Nat} {lo hi : Int} (k : Nat) (hI : MI b g h) (hk : rTb k = some (5, N, lo, hi)) (kk : ∀ v, -32 ≤ v → v ≤ 32 → YW l G M d kc ks Φ (pc + 3) L (vi v :: st) h n) (hd : xat M pc = some (.getfield idx, 3) := by rfl) (hf : M.2.2.2.2.2.2.lookup idx = some (1, 4) := by rfl) (ha : a = b + k := by rfl) : YW l G M d kc ks Φ pc L (vr a :: st) h n := by
  subst ha
  obtain ⟨r0, r1, r2, r3, r4, r5, e, s0, s1, s2, s3, s4, s5⟩ := hI.o hk
  exact y_get hM hd hf e rfl (kk _ s4.1 s4.2)
theorem m_getO5 (hM : xOK M) {idx a N : Nat} {lo hi : Int} (k : Nat) (hI : MI b g h) (hk : rTb k = some (5, N, lo, hi)) (kk : ∀ v, -33 ≤ v → v ≤ 31 → YW l G M d kc ks Φ (pc + 3) L (vi v :: st) h n) (hd : xat M pc = some (.getfield idx, 3) := by rfl) (hf : M.2.2.2.2.2.2.lookup idx = some (1, 5) := by rfl) (ha : a = b + k := by rfl) : YW l G M d kc ks Φ pc L (vr a :: st) h n := by
  subst ha
  obtain ⟨r0, r1, r2, r3, r4, r5, e, s0, s1, s2, s3, s4, s5⟩ := hI.o hk
  exact y_get hM hd hf e rfl (kk _ s5.1 s5.2)
end C51
/-- what a method's end says where only bounds are wanted -/
def PZ (b : Nat) (g : yH) (n : Nat) (lo hi : Int) : Option xV → yH → Nat → Prop := fun r h' n' => ∃ v, r = some (vi v) ∧ lo ≤ v ∧ v ≤ hi ∧ MI b g h' ∧ n' = n
def PV (b : Nat) (g : yH) (n : Nat) : Option xV → yH → Nat → Prop := fun r h' n' => r = none ∧ MI b g h' ∧ n' = n
end
section
section C60
variable {l : Launch} {G : xG} {h : yH} {n : Nat}
theorem c_malongX {p : Int} (h1 : 0 ≤ p) (h2 : p < 8192) : YM l G mX7_alongX 0 0 0 [vi p] h n (fun r h' n' => r = some (vi (2 * (p / 64 - 64) + 2 * (p % 64 - 32) + 1)) ∧ h' = h ∧ n' = n) := by
  refine YM.of kX7_alongX (Nat.le_of_ble_eq_true rfl) (L0 := [some (vi p)]) rfl ?_
  refine y_run kX7_alongX rfl ?_
  refine y_idiv kX7_alongX rfl (by omega) (by omega) (by omega) (by omega) ?_
  refine y_run kX7_alongX rfl ?_
  refine y_irem kX7_alongX rfl (by omega) (by omega) (by omega) (by omega) ?_
  refine y_run kX7_alongX rfl ?_
  exact y_ir kX7_alongX rfl rfl ⟨rfl, rfl, rfl⟩
theorem c_malongY {p : Int} (h1 : 0 ≤ p) (h2 : p < 8192) : YM l G mX7_alongY 0 0 0 [vi p] h n (fun r h' n' => r = some (vi (2 * (p / 64 - 64) - 2 * (p % 64 - 32) - 1)) ∧ h' = h ∧ n' = n) := by
  refine YM.of kX7_alongY (Nat.le_of_ble_eq_true rfl) (L0 := [some (vi p)]) rfl ?_
  refine y_run kX7_alongY rfl ?_
  refine y_idiv kX7_alongY rfl (by omega) (by omega) (by omega) (by omega) ?_
  refine y_run kX7_alongY rfl ?_
  refine y_irem kX7_alongY rfl (by omega) (by omega) (by omega) (by omega) ?_
  refine y_run kX7_alongY rfl ?_
  exact y_ir kX7_alongY rfl rfl ⟨rfl, rfl, rfl⟩
theorem c_mgreater {x y : Int} (h1 : inI x) (h2 : inI y) : YM l G mX7_greater 0 0 0 [vi x, vi y] h n (fun r h' n' => r = some (vi (max x y)) ∧ h' = h ∧ n' = n) := by
  refine YM.of kX7_greater (Nat.le_of_ble_eq_true rfl) (L0 := [some (vi x), some (vi y)]) rfl ?_
  obtain ⟨_, _⟩ := h1
  obtain ⟨_, _⟩ := h2
  refine y_run kX7_greater rfl ?_
  refine y_ic_le kX7_greater rfl rfl (fun c1 => ?_) (fun c1 => ?_)
  · refine y_run kX7_greater rfl ?_
    refine y_ir kX7_greater rfl rfl ?_
    exact ⟨by congr 2; omega, rfl, rfl⟩
  · refine y_run kX7_greater rfl ?_
    refine y_ir kX7_greater rfl rfl ?_
    exact ⟨by congr 2; omega, rfl, rfl⟩
def mex (x0 x1 y0 y1 z0 z1 a b : Int) : Int := if max (4 * x0 - a) (max (4 * y0 - b) (4 * z0)) < -max (a - 4 * x1) (max (b - 4 * y1) (-4 * z1)) then -max (a - 4 * x1) (max (b - 4 * y1) (-4 * z1)) else 0
theorem c_mexit {a N : Nat} {F : Nat → Int} {z A B : Int} (ha : h a = some (ai N F)) (hz : 0 ≤ z) (hN : z + 6 ≤ N) (hM : N ≤ 100000) (hF : ∀ j, sm (F j)) (hA : sm A) (hB : sm B) : YM l G mX7_exit 1 0 0 [vr a, vi z, vi A, vi B] h n (fun r h' n' => r = some (vi (mex (F z.toNat) (F (z + 1).toNat) (F (z + 2).toNat) (F (z + 3).toNat) (F (z + 4).toNat) (F (z + 5).toNat) A B)) ∧ h' = h ∧ n' = n) := by
  refine YM.of kX7_exit (Nat.le_of_ble_eq_true rfl) (L0 := [some (vr a), some (vi z), some (vi A), some (vi B), none, none]) rfl ?_
  obtain ⟨_, _⟩ := hA
  obtain ⟨_, _⟩ := hB
  obtain ⟨_, _⟩ := hF z.toNat
  obtain ⟨_, _⟩ := hF (z + 1).toNat
  obtain ⟨_, _⟩ := hF (z + 2).toNat
  obtain ⟨_, _⟩ := hF (z + 3).toNat
  obtain ⟨_, _⟩ := hF (z + 4).toNat
  obtain ⟨_, _⟩ := hF (z + 5).toNat
  refine y_run kX7_exit rfl ?_
  refine y_ia kX7_exit rfl ha (by omega) (by omega) ?_
  refine y_run kX7_exit rfl ?_
  refine y_ia kX7_exit rfl ha (by omega) (by omega) ?_
  refine y_run kX7_exit rfl ?_
  refine y_ia kX7_exit rfl ha (by omega) (by omega) ?_
  refine y_run kX7_exit rfl ?_
  refine y_cs kX7_exit kX7_greater 2 rfl (by decide +kernel) (c_mgreater ⟨by omega, by omega⟩ ⟨by omega, by omega⟩) rfl rfl ?_
  rintro _ _ _ ⟨rfl, rfl, rfl⟩
  refine y_cs kX7_exit kX7_greater 2 rfl (by decide +kernel) (c_mgreater ⟨by omega, by omega⟩ ⟨by omega, by omega⟩) rfl rfl ?_
  rintro _ _ _ ⟨rfl, rfl, rfl⟩
  refine y_run kX7_exit rfl ?_
  refine y_ia kX7_exit rfl ha (by omega) (by omega) ?_
  refine y_run kX7_exit rfl ?_
  refine y_ia kX7_exit rfl ha (by omega) (by omega) ?_
  refine y_run kX7_exit rfl ?_
  refine y_ia kX7_exit rfl ha (by omega) (by omega) ?_
  refine y_run kX7_exit rfl ?_
  refine y_cs kX7_exit kX7_greater 2 rfl (by decide +kernel) (c_mgreater ⟨by omega, by omega⟩ ⟨by omega, by omega⟩) rfl rfl ?_
  rintro _ _ _ ⟨rfl, rfl, rfl⟩
  refine y_cs kX7_exit kX7_greater 2 rfl (by decide +kernel) (c_mgreater ⟨by omega, by omega⟩ ⟨by omega, by omega⟩) rfl rfl ?_
  rintro _ _ _ ⟨rfl, rfl, rfl⟩
  refine y_run kX7_exit rfl ?_
  refine y_ic_ge kX7_exit rfl rfl (fun c1 => ?_) (fun c1 => ?_)
  · refine y_run kX7_exit rfl ?_
    refine y_ir kX7_exit rfl rfl ?_
    refine ⟨?_, rfl, rfl⟩
    unfold mex
    first | rw [if_pos (by omega)] | rw [if_neg (by omega)]
  · refine y_run kX7_exit rfl ?_
    refine y_ir kX7_exit rfl rfl ?_
    refine ⟨?_, rfl, rfl⟩
    unfold mex
    first | rw [if_pos (by omega)] | rw [if_neg (by omega)]
theorem mex_rng {x0 x1 y0 y1 z0 z1 a b : Int} (h0 : sm x0) (h1 : sm x1) (h2 : sm y0) (h3 : sm y1) (h4 : sm z0) (h5 : sm z1) (ha : sm a) (hb : sm b) : -1000000 ≤ mex x0 x1 y0 y1 z0 z1 a b ∧ mex x0 x1 y0 y1 z0 z1 a b ≤ 1000000 := by
  obtain ⟨_, _⟩ := h0
  obtain ⟨_, _⟩ := h1
  obtain ⟨_, _⟩ := h2
  obtain ⟨_, _⟩ := h3
  obtain ⟨_, _⟩ := h4
  obtain ⟨_, _⟩ := h5
  obtain ⟨_, _⟩ := ha
  obtain ⟨_, _⟩ := hb
  unfold mex
  split <;> omega
theorem mex_small {x0 x1 y0 y1 z0 z1 a b : Int} (h0 : -1 ≤ x0 ∧ x0 ≤ 127) (h1 : -1 ≤ x1 ∧ x1 ≤ 127) (h2 : -1 ≤ y0 ∧ y0 ≤ 127) (h3 : -1 ≤ y1 ∧ y1 ≤ 127) (h4 : -1 ≤ z0 ∧ z0 ≤ 127) (h5 : -1 ≤ z1 ∧ z1 ≤ 127) (ha : -1000 ≤ a ∧ a ≤ 1000) (hb : -1000 ≤ b ∧ b ≤ 1000) : -100000 ≤ mex x0 x1 y0 y1 z0 z1 a b ∧ mex x0 x1 y0 y1 z0 z1 a b ≤ 100000 := by
  unfold mex
  split <;> omega
/-- where a box is hit -/
theorem mex_pos {x0 x1 y0 y1 z0 z1 a b : Int} (h4 : 0 ≤ z0) (hp : mex x0 x1 y0 y1 z0 z1 a b ≠ 0) : 0 < mex x0 x1 y0 y1 z0 z1 a b ∧ 4 * x0 < mex x0 x1 y0 y1 z0 z1 a b + a ∧ 4 * y0 < mex x0 x1 y0 y1 z0 z1 a b + b ∧ 4 * z0 < mex x0 x1 y0 y1 z0 z1 a b ∧ mex x0 x1 y0 y1 z0 z1 a b + a ≤ 4 * x1 ∧ mex x0 x1 y0 y1 z0 z1 a b + b ≤ 4 * y1 ∧ mex x0 x1 y0 y1 z0 z1 a b ≤ 4 * z1 := by
  unfold mex at hp ⊢
  split
  · omega
  · rename_i q; rw [if_neg q] at hp; omega
theorem mex_nn {x0 x1 y0 y1 z0 z1 a b : Int} (h4 : 0 ≤ z0) : 0 ≤ mex x0 x1 y0 y1 z0 z1 a b := by
  unfold mex
  split <;> omega
theorem c_mpixelOf {i j : Int} (h1 : inI i) (h2 : inI j) : YM l G mX7_pixelOf 1 0 0 [vi i, vi j] h n (fun r h' n' => r = some (vi (if -32 ≤ i ∧ i < 32 ∧ -64 ≤ j ∧ j < 64 then 64 * (j + 64) + i + 32 else -1)) ∧ h' = h ∧ n' = n) := by
  refine YM.of kX7_pixelOf (Nat.le_of_ble_eq_true rfl) (L0 := [some (vi i), some (vi j)]) rfl ?_
  obtain ⟨_, _⟩ := h1
  obtain ⟨_, _⟩ := h2
  have hno : ¬ (-32 ≤ i ∧ i < 32 ∧ -64 ≤ j ∧ j < 64) → YW l (gT G) mX7_pixelOf 1 0 0 (fun r h' n' => r = some (vi (if -32 ≤ i ∧ i < 32 ∧ -64 ≤ j ∧ j < 64 then 64 * (j + 64) + i + 32 else -1)) ∧ h' = h ∧ n' = n) 40 [some (vi i), some (vi j)] [] h n := fun q => by
    refine y_run kX7_pixelOf rfl ?_
    exact y_ir kX7_pixelOf rfl rfl ⟨by rw [if_neg q], rfl, rfl⟩
  refine y_run kX7_pixelOf rfl ?_
  refine YW.nr2 ?_
  refine y_cs kX7_pixelOf kX7_in 2 rfl (by decide +kernel) (c_in _ _ ⟨(nrm_rng _).1, Int.lt_of_le_of_lt (nrm_rng _).2 (by omega)⟩ ⟨by omega, by omega⟩) rfl rfl ?_
  rintro _ _ _ ⟨rfl, rfl, rfl⟩
  have e1 : (0 ≤ nrm (i + 32) ∧ nrm (i + 32) < 64) ↔ (-32 ≤ i ∧ i < 32) := by
    by_cases q : i + 32 < 2147483648
    · rw [nrm_id (by omega) q]; omega
    · rw [nrm_hi (by omega) (by omega)]; omega
  refine y_beq kX7_pixelOf rfl rfl (fun q => hno (fun y => q (e1.mpr ⟨y.1, y.2.1⟩))) (fun q1 => ?_)
  refine y_run kX7_pixelOf rfl ?_
  refine YW.nr2 ?_
  refine y_cs kX7_pixelOf kX7_in 2 rfl (by decide +kernel) (c_in _ _ ⟨(nrm_rng _).1, Int.lt_of_le_of_lt (nrm_rng _).2 (by omega)⟩ ⟨by omega, by omega⟩) rfl rfl ?_
  rintro _ _ _ ⟨rfl, rfl, rfl⟩
  have e2 : (0 ≤ nrm (j + 64) ∧ nrm (j + 64) < 128) ↔ (-64 ≤ j ∧ j < 64) := by
    by_cases q : j + 64 < 2147483648
    · rw [nrm_id (by omega) q]; omega
    · rw [nrm_hi (by omega) (by omega)]; omega
  refine y_beq kX7_pixelOf rfl rfl (fun q => hno (fun y => q (e2.mpr ⟨y.2.2.1, y.2.2.2⟩))) (fun q2 => ?_)
  refine y_run kX7_pixelOf rfl ?_
  exact y_ir kX7_pixelOf rfl rfl ⟨by rw [if_pos ⟨(e1.mp q1).1, (e1.mp q1).2, (e2.mp q2).1, (e2.mp q2).2⟩], rfl, rfl⟩
end C60
end
section
/-! the reference, as far as its bounds go -/
def RF (b : Nat) (g : yH) (B J : Nat → Int) (i0 i1 i2 i3 i4 i5 i6 : Int) : Prop := g (b + 540) = some (mo (b + 540) i0 i1 i2 i3 i4 i5 i6) ∧ g (b + 541) = some (ai 264 B) ∧ g (b + 542) = some (ai 64 J) ∧ (∀ j, 0 ≤ B j ∧ B j ≤ 32) ∧ (∀ v k : Int, 0 ≤ v → v < 24 → 1 ≤ k → k < 4 → B (11 * v + 7 + k).toNat < 8) ∧ (∀ v : Int, 0 ≤ v → v < 24 → B (11 * v + 7).toNat < 16) ∧ (∀ j, -2147483648 ≤ J j ∧ J j ≤ 2147483647) ∧ 0 ≤ i0 ∧ i0 ≤ 96 ∧ -2147483648 ≤ i5 ∧ i5 ≤ 2147483647
section C61
variable {l : Launch} {G : xG} {h : yH} {n : Nat}
theorem w_isLeft {b : Nat} {g : yH} {i0 i1 i2 i3 i4 i5 i6 : Int} {B J : Nat → Int} (hf : RF b g B J i0 i1 i2 i3 i4 i5 i6) {p : Int} (p1 : 0 ≤ p) (p2 : p < 128) (hI : MI b g h) : YM l G mX7_isLeft 0 0 0 [vr (b + 540), vi p] h n (PZ b g n 0 1) := by
  refine YM.of kX7_isLeft (Nat.le_of_ble_eq_true rfl) (L0 := [some (vr (b + 540)), some (vi p)]) rfl ?_
  obtain ⟨hm, hB, hJ, hBb, hBs, hBc, hJb, hi1, hi2, hi3, hi4⟩ := id hf
  refine y_run kX7_isLeft rfl ?_
  refine m_get kX7_isLeft (540) hI hm ?_
  refine y_run kX7_isLeft rfl ?_
  refine m_ia kX7_isLeft (545) hI rfl (fun v1 v1a v1b => ?_)
  refine y_run kX7_isLeft rfl ?_
  refine y_ic_eq kX7_isLeft rfl rfl (fun c1 => ?_) (fun c1 => ?_)
  · refine y_run kX7_isLeft rfl ?_
    exact y_zr kX7_isLeft rfl rfl (by omega) ⟨_, rfl, by omega, by omega, hI, rfl⟩
  · refine y_run kX7_isLeft rfl ?_
    refine m_get kX7_isLeft (540) hI hm ?_
    refine y_run kX7_isLeft rfl ?_
    refine m_ia kX7_isLeft (545) hI rfl (fun v2 v2a v2b => ?_)
    refine y_if_ne kX7_isLeft rfl rfl (fun c2 => ?_) (fun c2 => ?_)
    · refine y_run kX7_isLeft rfl ?_
      exact y_zr kX7_isLeft rfl rfl (by omega) ⟨_, rfl, by omega, by omega, hI, rfl⟩
    · refine y_run kX7_isLeft rfl ?_
      exact y_zr kX7_isLeft rfl rfl (by omega) ⟨_, rfl, by omega, by omega, hI, rfl⟩
theorem w_isTangled {b : Nat} {g : yH} {i0 i1 i2 i3 i4 i5 i6 : Int} {B J : Nat → Int} (hf : RF b g B J i0 i1 i2 i3 i4 i5 i6) {p q : Int} (p1 : 0 ≤ p) (p2 : p < 128) (q1 : 0 ≤ q) (q2 : q < 128) (hI : MI b g h) : YM l G mX7_isTangled 0 0 0 [vr (b + 540), vi p, vi q] h n (PZ b g n 0 1) := by
  refine YM.of kX7_isTangled (Nat.le_of_ble_eq_true rfl) (L0 := [some (vr (b + 540)), some (vi p), some (vi q)]) rfl ?_
  obtain ⟨hm, hB, hJ, hBb, hBs, hBc, hJb, hi1, hi2, hi3, hi4⟩ := id hf
  refine y_run kX7_isTangled rfl ?_
  refine y_ic_eq kX7_isTangled rfl rfl (fun c1 => ?_) (fun c1 => ?_)
  · refine y_run kX7_isTangled rfl ?_
    exact y_zr kX7_isTangled rfl rfl (by omega) ⟨_, rfl, by omega, by omega, hI, rfl⟩
  · refine y_run kX7_isTangled rfl ?_
    refine m_get kX7_isTangled (540) hI hm ?_
    refine y_run kX7_isTangled rfl ?_
    refine m_za kX7_isTangled (547) hI rfl (fun v1 v1a => ?_)
    refine y_if_eq kX7_isTangled rfl rfl (fun c2 => ?_) (fun c2 => ?_)
    · refine y_run kX7_isTangled rfl ?_
      exact y_zr kX7_isTangled rfl rfl (by omega) ⟨_, rfl, by omega, by omega, hI, rfl⟩
    · refine y_run kX7_isTangled rfl ?_
      refine m_get kX7_isTangled (540) hI hm ?_
      refine y_run kX7_isTangled rfl ?_
      refine m_za kX7_isTangled (547) hI rfl (fun v2 v2a => ?_)
      refine y_if_eq kX7_isTangled rfl rfl (fun c3 => ?_) (fun c3 => ?_)
      · refine y_run kX7_isTangled rfl ?_
        exact y_zr kX7_isTangled rfl rfl (by omega) ⟨_, rfl, by omega, by omega, hI, rfl⟩
      · refine y_run kX7_isTangled rfl ?_
        exact y_zr kX7_isTangled rfl rfl (by omega) ⟨_, rfl, by omega, by omega, hI, rfl⟩
theorem s_with {b : Nat} {g : yH} {i0 i1 i2 i3 i4 i5 i6 : Int} {B J : Nat → Int} (hf : RF b g B J i0 i1 i2 i3 i4 i5 i6) {p : Int} (p1 : 0 ≤ p) (p2 : p < 128) : ∀ (m : Nat) (q : Int) (h : yH), (128 - q).toNat < m → 0 ≤ q → q ≤ 128 → MI b g h → YW l G mX7_with 0 0 0 (PV b g n) 2 [some (vr (b + 540)), some (vi p), some (vi q)] [] h n := by
  intro m
  induction m with
  | zero => intro q h hm; exact absurd hm (Nat.not_lt_zero _)
  | succ m ih =>
    intro q h hmm j0 j1 hI
    obtain ⟨hm, hB, hJ, hBb, hBs, hBc, hJb, hi1, hi2, hi3, hi4⟩ := id hf
    refine y_run kX7_with rfl ?_
    refine y_ic_ge kX7_with rfl rfl (fun c1 => ?_) (fun c1 => ?_)
    · exact y_vr kX7_with rfl rfl ⟨rfl, hI, rfl⟩
    · refine y_run kX7_with rfl ?_
      refine m_get kX7_with (540) hI hm ?_
      refine y_run kX7_with rfl ?_
      refine m_ia kX7_with (548) hI rfl (fun v1 v1a v1b => ?_)
      refine y_if_le kX7_with rfl rfl (fun c2 => ?_) (fun c2 => ?_)
      · exact y_vr kX7_with rfl rfl ⟨rfl, hI, rfl⟩
      · refine y_run kX7_with rfl ?_
        refine m_get kX7_with (540) hI hm ?_
        refine y_run kX7_with rfl ?_
        refine m_ia kX7_with (548) hI rfl (fun v2 v2a v2b => ?_)
        refine y_if_eq kX7_with rfl rfl (fun c3 => ?_) (fun c3 => ?_)
        · refine y_run kX7_with rfl ?_
          exact ih _ _ (by omega) (by omega) (by omega) hI
        · refine y_run kX7_with rfl ?_
          refine y_ic_ne kX7_with rfl rfl (fun c4 => ?_) (fun c4 => ?_)
          · refine y_run kX7_with rfl ?_
            refine m_get kX7_with (540) hI hm ?_
            refine y_run kX7_with rfl ?_
            refine m_ia kX7_with (548) hI rfl (fun v3 v3a v3b => ?_)
            refine y_run kX7_with rfl ?_
            refine m_get kX7_with (540) hI hm ?_
            refine y_run kX7_with rfl ?_
            refine m_ia kX7_with (548) hI rfl (fun v4 v4a v4b => ?_)
            refine y_ic_le kX7_with rfl rfl (fun c5 => ?_) (fun c5 => ?_)
            · refine y_run kX7_with rfl ?_
              refine m_get kX7_with (540) hI hm ?_
              refine y_run kX7_with rfl ?_
              refine m_zs kX7_with (546) hI rfl (fun h hI => ?_)
              refine y_run kX7_with rfl ?_
              exact ih _ _ (by omega) (by omega) (by omega) hI
            · refine y_run kX7_with rfl ?_
              refine m_get kX7_with (540) hI hm ?_
              refine y_run kX7_with rfl ?_
              refine m_zs kX7_with (546) hI rfl (fun h hI => ?_)
              refine y_run kX7_with rfl ?_
              exact ih _ _ (by omega) (by omega) (by omega) hI
          · refine y_run kX7_with rfl ?_
            exact ih _ _ (by omega) (by omega) (by omega) hI
theorem w_with {b : Nat} {g : yH} {i0 i1 i2 i3 i4 i5 i6 : Int} {B J : Nat → Int} (hf : RF b g B J i0 i1 i2 i3 i4 i5 i6) {p : Int} (p1 : 0 ≤ p) (p2 : p < 128) (hI : MI b g h) : YM l G mX7_with 0 0 0 [vr (b + 540), vi p] h n (PV b g n) := by
  refine YM.of kX7_with (Nat.le_of_ble_eq_true rfl) (L0 := [some (vr (b + 540)), some (vi p), none]) rfl ?_
  obtain ⟨hm, hB, hJ, hBb, hBs, hBc, hJb, hi1, hi2, hi3, hi4⟩ := id hf
  refine y_run kX7_with rfl ?_
  exact s_with hf p1 p2 _ 0 _ (Nat.lt_succ_self _) (by omega) (by omega) hI
theorem s_pairs {b : Nat} {g : yH} {i0 i1 i2 i3 i4 i5 i6 : Int} {B J : Nat → Int} (hf : RF b g B J i0 i1 i2 i3 i4 i5 i6)  : ∀ (m : Nat) (q : Int) (h : yH), (128 - q).toNat < m → 0 ≤ q → q ≤ 128 → MI b g h → YW l G mX7_pairs 1 0 0 (PV b g n) 2 [some (vr (b + 540)), some (vi q)] [] h n := by
  intro m
  induction m with
  | zero => intro q h hm; exact absurd hm (Nat.not_lt_zero _)
  | succ m ih =>
    intro q h hmm j0 j1 hI
    obtain ⟨hm, hB, hJ, hBb, hBs, hBc, hJb, hi1, hi2, hi3, hi4⟩ := id hf
    refine y_run kX7_pairs rfl ?_
    refine y_ic_ge kX7_pairs rfl rfl (fun c1 => ?_) (fun c1 => ?_)
    · exact y_vr kX7_pairs rfl rfl ⟨rfl, hI, rfl⟩
    · refine y_run kX7_pairs rfl ?_
      refine m_get kX7_pairs (540) hI hm ?_
      refine y_run kX7_pairs rfl ?_
      refine m_ia kX7_pairs (548) hI rfl (fun v1 v1a v1b => ?_)
      refine y_if_le kX7_pairs rfl rfl (fun c2 => ?_) (fun c2 => ?_)
      · refine y_run kX7_pairs rfl ?_
        exact ih _ _ (by omega) (by omega) (by omega) hI
      · refine y_run kX7_pairs rfl ?_
        refine y_cv kX7_pairs kX7_with 1 rfl (hI.x (k := 540) rfl hm) (by decide +kernel) (w_with hf (by omega) (by omega) hI) rfl rfl ?_
        rintro _ h _ ⟨rfl, hI, rfl⟩
        refine y_run kX7_pairs rfl ?_
        exact ih _ _ (by omega) (by omega) (by omega) hI
theorem w_pairs {b : Nat} {g : yH} {i0 i1 i2 i3 i4 i5 i6 : Int} {B J : Nat → Int} (hf : RF b g B J i0 i1 i2 i3 i4 i5 i6)  (hI : MI b g h) : YM l G mX7_pairs 1 0 0 [vr (b + 540)] h n (PV b g n) := by
  refine YM.of kX7_pairs (Nat.le_of_ble_eq_true rfl) (L0 := [some (vr (b + 540)), none]) rfl ?_
  obtain ⟨hm, hB, hJ, hBb, hBs, hBc, hJb, hi1, hi2, hi3, hi4⟩ := id hf
  refine y_run kX7_pairs rfl ?_
  exact s_pairs hf _ 0 _ (Nat.lt_succ_self _) (by omega) (by omega) hI
theorem s_close2 {b : Nat} {g : yH} {i0 i1 i2 i3 i4 i5 i6 : Int} {B J : Nat → Int} (hf : RF b g B J i0 i1 i2 i3 i4 i5 i6) {p : Int} (p1 : 0 ≤ p) (p2 : p < 128) (kk : ∀ (u2 : Option xV) (u3 : Option xV) (h : yH), MI b g h → YW l G mX7_close 1 0 0 (PV b g n) 72 [some (vr (b + 540)), some (vi p), u2, u3] [] h n) : ∀ (m : Nat) (q : Int) (u3 : Option xV) (h : yH), (128 - q).toNat < m → 0 ≤ q → q ≤ 128 → MI b g h → YW l G mX7_close 1 0 0 (PV b g n) 11 [some (vr (b + 540)), some (vi p), some (vi q), u3] [] h n := by
  intro m
  induction m with
  | zero => intro q u3 h hm; exact absurd hm (Nat.not_lt_zero _)
  | succ m ih =>
    intro q u3 h hmm j0 j1 hI
    obtain ⟨hm, hB, hJ, hBb, hBs, hBc, hJb, hi1, hi2, hi3, hi4⟩ := id hf
    refine y_run kX7_close rfl ?_
    refine y_ic_ge kX7_close rfl rfl (fun c1 => ?_) (fun c1 => ?_)
    · exact kk _ _ _  hI
    · refine y_run kX7_close rfl ?_
      refine m_get kX7_close (540) hI hm ?_
      refine y_run kX7_close rfl ?_
      refine m_get kX7_close (540) hI hm ?_
      refine y_run kX7_close rfl ?_
      refine m_za kX7_close (546) hI rfl (fun v1 v1a => ?_)
      refine y_if_eq kX7_close rfl rfl (fun c2 => ?_) (fun c2 => ?_)
      · refine y_run kX7_close rfl ?_
        refine m_zs kX7_close (547) hI rfl (fun h hI => ?_)
        refine y_run kX7_close rfl ?_
        exact ih _ _ _ (by omega) (by omega) (by omega) hI
      · refine y_run kX7_close rfl ?_
        refine y_cv kX7_close kX7_isLeft 1 rfl (hI.x (k := 540) rfl hm) (by decide +kernel) (w_isLeft hf (by omega) (by omega) hI) rfl rfl ?_
        rintro _ h _ ⟨v2, rfl, v2a, v2b, hI, rfl⟩
        refine y_if_eq kX7_close rfl rfl (fun c3 => ?_) (fun c3 => ?_)
        · refine y_run kX7_close rfl ?_
          refine m_zs kX7_close (547) hI rfl (fun h hI => ?_)
          refine y_run kX7_close rfl ?_
          exact ih _ _ _ (by omega) (by omega) (by omega) hI
        · refine y_run kX7_close rfl ?_
          refine y_cv kX7_close kX7_isLeft 1 rfl (hI.x (k := 540) rfl hm) (by decide +kernel) (w_isLeft hf (by omega) (by omega) hI) rfl rfl ?_
          rintro _ h _ ⟨v3, rfl, v3a, v3b, hI, rfl⟩
          refine y_if_eq kX7_close rfl rfl (fun c4 => ?_) (fun c4 => ?_)
          · refine y_run kX7_close rfl ?_
            refine m_zs kX7_close (547) hI rfl (fun h hI => ?_)
            refine y_run kX7_close rfl ?_
            exact ih _ _ _ (by omega) (by omega) (by omega) hI
          · refine y_run kX7_close rfl ?_
            refine m_zs kX7_close (547) hI rfl (fun h hI => ?_)
            refine y_run kX7_close rfl ?_
            exact ih _ _ _ (by omega) (by omega) (by omega) hI
theorem s_close5 {b : Nat} {g : yH} {i0 i1 i2 i3 i4 i5 i6 : Int} {B J : Nat → Int} (hf : RF b g B J i0 i1 i2 i3 i4 i5 i6) {p q : Int} (p1 : 0 ≤ p) (p2 : p < 128) (q1 : 0 ≤ q) (q2 : q < 128) (kk : ∀ (u3 : Option xV) (h : yH), MI b g h → YW l G mX7_close 1 0 0 (PV b g n) 187 [some (vr (b + 540)), some (vi p), some (vi q), u3] [] h n) : ∀ (m : Nat) (r : Int) (h : yH), (128 - r).toNat < m → 0 ≤ r → r ≤ 128 → MI b g h → YW l G mX7_close 1 0 0 (PV b g n) 127 [some (vr (b + 540)), some (vi p), some (vi q), some (vi r)] [] h n := by
  intro m
  induction m with
  | zero => intro r h hm; exact absurd hm (Nat.not_lt_zero _)
  | succ m ih =>
    intro r h hmm j0 j1 hI
    obtain ⟨hm, hB, hJ, hBb, hBs, hBc, hJb, hi1, hi2, hi3, hi4⟩ := id hf
    refine y_run kX7_close rfl ?_
    refine y_ic_ge kX7_close rfl rfl (fun c1 => ?_) (fun c1 => ?_)
    · exact kk _ _  hI
    · refine y_run kX7_close rfl ?_
      refine m_get kX7_close (540) hI hm ?_
      refine y_run kX7_close rfl ?_
      refine m_get kX7_close (540) hI hm ?_
      refine y_run kX7_close rfl ?_
      refine m_za kX7_close (547) hI rfl (fun v1 v1a => ?_)
      refine y_if_ne kX7_close rfl rfl (fun c2 => ?_) (fun c2 => ?_)
      · refine y_run kX7_close rfl ?_
        refine m_zs kX7_close (547) hI rfl (fun h hI => ?_)
        refine y_run kX7_close rfl ?_
        exact ih _ _ (by omega) (by omega) (by omega) hI
      · refine y_run kX7_close rfl ?_
        refine m_get kX7_close (540) hI hm ?_
        refine y_run kX7_close rfl ?_
        refine m_za kX7_close (547) hI rfl (fun v2 v2a => ?_)
        refine y_if_eq kX7_close rfl rfl (fun c3 => ?_) (fun c3 => ?_)
        · refine y_run kX7_close rfl ?_
          refine m_zs kX7_close (547) hI rfl (fun h hI => ?_)
          refine y_run kX7_close rfl ?_
          exact ih _ _ (by omega) (by omega) (by omega) hI
        · refine y_run kX7_close rfl ?_
          refine m_zs kX7_close (547) hI rfl (fun h hI => ?_)
          refine y_run kX7_close rfl ?_
          exact ih _ _ (by omega) (by omega) (by omega) hI
theorem s_close4 {b : Nat} {g : yH} {i0 i1 i2 i3 i4 i5 i6 : Int} {B J : Nat → Int} (hf : RF b g B J i0 i1 i2 i3 i4 i5 i6) {p : Int} (p1 : 0 ≤ p) (p2 : p < 128) (kk : ∀ (u2 : Option xV) (u3 : Option xV) (h : yH), MI b g h → YW l G mX7_close 1 0 0 (PV b g n) 193 [some (vr (b + 540)), some (vi p), u2, u3] [] h n) : ∀ (m : Nat) (q : Int) (u3 : Option xV) (h : yH), (128 - q).toNat < m → 0 ≤ q → q ≤ 128 → MI b g h → YW l G mX7_close 1 0 0 (PV b g n) 100 [some (vr (b + 540)), some (vi p), some (vi q), u3] [] h n := by
  intro m
  induction m with
  | zero => intro q u3 h hm; exact absurd hm (Nat.not_lt_zero _)
  | succ m ih =>
    intro q u3 h hmm j0 j1 hI
    obtain ⟨hm, hB, hJ, hBb, hBs, hBc, hJb, hi1, hi2, hi3, hi4⟩ := id hf
    refine y_run kX7_close rfl ?_
    refine y_ic_ge kX7_close rfl rfl (fun c1 => ?_) (fun c1 => ?_)
    · exact kk _ _ _  hI
    · refine y_run kX7_close rfl ?_
      refine m_get kX7_close (540) hI hm ?_
      refine y_run kX7_close rfl ?_
      refine m_za kX7_close (547) hI rfl (fun v1 v1a => ?_)
      refine y_if_ne kX7_close rfl rfl (fun c2 => ?_) (fun c2 => ?_)
      · refine y_run kX7_close rfl ?_
        exact s_close5 hf p1 p2 (by omega) (by omega) (fun u3 h hI => by
          refine y_run kX7_close rfl ?_
          exact ih _ _ _ (by omega) (by omega) (by omega) hI) _ 0  _ (Nat.lt_succ_self _) (by omega) (by omega) hI
      · refine y_run kX7_close rfl ?_
        exact ih _ _ _ (by omega) (by omega) (by omega) hI
theorem s_close3 {b : Nat} {g : yH} {i0 i1 i2 i3 i4 i5 i6 : Int} {B J : Nat → Int} (hf : RF b g B J i0 i1 i2 i3 i4 i5 i6)  : ∀ (m : Nat) (p : Int) (u2 : Option xV) (u3 : Option xV) (h : yH), (128 - p).toNat < m → 0 ≤ p → p ≤ 128 → MI b g h → YW l G mX7_close 1 0 0 (PV b g n) 80 [some (vr (b + 540)), some (vi p), u2, u3] [] h n := by
  intro m
  induction m with
  | zero => intro p u2 u3 h hm; exact absurd hm (Nat.not_lt_zero _)
  | succ m ih =>
    intro p u2 u3 h hmm j0 j1 hI
    obtain ⟨hm, hB, hJ, hBb, hBs, hBc, hJb, hi1, hi2, hi3, hi4⟩ := id hf
    refine y_run kX7_close rfl ?_
    refine y_ic_ge kX7_close rfl rfl (fun c1 => ?_) (fun c1 => ?_)
    · exact y_vr kX7_close rfl rfl ⟨rfl, hI, rfl⟩
    · refine y_run kX7_close rfl ?_
      refine y_cv kX7_close kX7_isLeft 1 rfl (hI.x (k := 540) rfl hm) (by decide +kernel) (w_isLeft hf (by omega) (by omega) hI) rfl rfl ?_
      rintro _ h _ ⟨v1, rfl, v1a, v1b, hI, rfl⟩
      refine y_if_ne kX7_close rfl rfl (fun c2 => ?_) (fun c2 => ?_)
      · refine y_run kX7_close rfl ?_
        exact s_close4 hf (by omega) (by omega) (fun u2 u3 h hI => by
          refine y_run kX7_close rfl ?_
          exact ih _ _ _ _ (by omega) (by omega) (by omega) hI) _ 0 _ _ (Nat.lt_succ_self _) (by omega) (by omega) hI
      · refine y_run kX7_close rfl ?_
        exact ih _ _ _ _ (by omega) (by omega) (by omega) hI
theorem s_close1 {b : Nat} {g : yH} {i0 i1 i2 i3 i4 i5 i6 : Int} {B J : Nat → Int} (hf : RF b g B J i0 i1 i2 i3 i4 i5 i6)  (kk : ∀ (u1 : Option xV) (u2 : Option xV) (u3 : Option xV) (h : yH), MI b g h → YW l G mX7_close 1 0 0 (PV b g n) 78 [some (vr (b + 540)), u1, u2, u3] [] h n) : ∀ (m : Nat) (p : Int) (u2 : Option xV) (u3 : Option xV) (h : yH), (128 - p).toNat < m → 0 ≤ p → p ≤ 128 → MI b g h → YW l G mX7_close 1 0 0 (PV b g n) 2 [some (vr (b + 540)), some (vi p), u2, u3] [] h n := by
  intro m
  induction m with
  | zero => intro p u2 u3 h hm; exact absurd hm (Nat.not_lt_zero _)
  | succ m ih =>
    intro p u2 u3 h hmm j0 j1 hI
    obtain ⟨hm, hB, hJ, hBb, hBs, hBc, hJb, hi1, hi2, hi3, hi4⟩ := id hf
    refine y_run kX7_close rfl ?_
    refine y_ic_ge kX7_close rfl rfl (fun c1 => ?_) (fun c1 => ?_)
    · exact kk _ _ _ _  hI
    · refine y_run kX7_close rfl ?_
      exact s_close2 hf (by omega) (by omega) (fun u2 u3 h hI => by
        refine y_run kX7_close rfl ?_
        exact ih _ _ _ _ (by omega) (by omega) (by omega) hI) _ 0 _ _ (Nat.lt_succ_self _) (by omega) (by omega) hI
theorem w_close {b : Nat} {g : yH} {i0 i1 i2 i3 i4 i5 i6 : Int} {B J : Nat → Int} (hf : RF b g B J i0 i1 i2 i3 i4 i5 i6)  (hI : MI b g h) : YM l G mX7_close 1 0 0 [vr (b + 540)] h n (PV b g n) := by
  refine YM.of kX7_close (Nat.le_of_ble_eq_true rfl) (L0 := [some (vr (b + 540)), none, none, none]) rfl ?_
  obtain ⟨hm, hB, hJ, hBb, hBs, hBc, hJb, hi1, hi2, hi3, hi4⟩ := id hf
  refine y_run kX7_close rfl ?_
  exact s_close1 hf (fun u1 u2 u3 h hI => by
    refine y_run kX7_close rfl ?_
    exact s_close3 hf  _ 0 _ _ _ (Nat.lt_succ_self _) (by omega) (by omega) hI) _ 0 _ _ _ (Nat.lt_succ_self _) (by omega) (by omega) hI
end C61
end
section
section C62
variable {l : Launch} {G : xG} {M : xM} {d kc ks : Nat} {Φ : Option xV → yH → Nat → Prop} {h : yH} {n : Nat} {pc : Nat} {L : List (Option xV)} {st : List xV}
theorem YW.gz {lo hi z : Int} (hz : lo ≤ z ∧ z ≤ hi) (kk : ∀ v, lo ≤ v → v ≤ hi → YW l G M d kc ks Φ pc L (vi v :: st) h n) : YW l G M d kc ks Φ pc L (vi z :: st) h n := kk z hz.1 hz.2
end C62
def mexO (B : Nat → Int) (v p : Int) : Int := if (0 ≤ v ∧ v < 24) ∧ B (11 * v).toNat = 1 then mex (B (11 * v + 1).toNat) (B (11 * v + 1 + 1).toNat) (B (11 * v + 1 + 2).toNat) (B (11 * v + 1 + 3).toNat) (B (11 * v + 1 + 4).toNat) (B (11 * v + 1 + 5).toNat) (2 * (p / 64 - 64) + 2 * (p % 64 - 32) + 1) (2 * (p / 64 - 64) - 2 * (p % 64 - 32) - 1) else 0
theorem mexO_b {B : Nat → Int} (hb : ∀ j, 0 ≤ B j ∧ B j ≤ 32) (v p : Int) : 0 ≤ mexO B v p ∧ mexO B v p ≤ 128 ∧ (mexO B v p ≠ 0 → ((0 ≤ v ∧ v < 24) ∧ B (11 * v).toNat = 1) ∧ 0 < mexO B v p + (2 * (p / 64 - 64) + 2 * (p % 64 - 32) + 1) ∧ 0 < mexO B v p + (2 * (p / 64 - 64) - 2 * (p % 64 - 32) - 1) ∧ mexO B v p + (2 * (p / 64 - 64) + 2 * (p % 64 - 32) + 1) ≤ 128 ∧ mexO B v p + (2 * (p / 64 - 64) - 2 * (p % 64 - 32) - 1) ≤ 128) := by
  unfold mexO
  by_cases c : (0 ≤ v ∧ v < 24) ∧ B (11 * v).toNat = 1
  · rw [if_pos c]
    have b0 := hb (11 * v + 1).toNat
    have b1 := hb (11 * v + 1 + 1).toNat
    have b2 := hb (11 * v + 1 + 2).toNat
    have b3 := hb (11 * v + 1 + 3).toNat
    have b4 := hb (11 * v + 1 + 4).toNat
    have b5 := hb (11 * v + 1 + 5).toNat
    generalize 2 * (p / 64 - 64) + 2 * (p % 64 - 32) + 1 = A
    generalize 2 * (p / 64 - 64) - 2 * (p % 64 - 32) - 1 = A'
    by_cases z : mex (B (11 * v + 1).toNat) (B (11 * v + 1 + 1).toNat) (B (11 * v + 1 + 2).toNat) (B (11 * v + 1 + 3).toNat) (B (11 * v + 1 + 4).toNat) (B (11 * v + 1 + 5).toNat) A A' = 0
    · rw [z]; exact ⟨by omega, by omega, fun q => absurd rfl q⟩
    · have k := mex_pos b4.1 z
      refine ⟨by omega, by omega, fun _ => ⟨c, by omega, by omega, by omega, by omega⟩⟩
  · rw [if_neg c]; exact ⟨by omega, by omega, fun q => absurd rfl q⟩
section C63
variable {l : Launch} {G : xG} {h : yH} {n : Nat}
theorem c_mexitOf {b : Nat} {g : yH} {i0 i1 i2 i3 i4 i5 i6 : Int} {B J : Nat → Int} (hf : RF b g B J i0 i1 i2 i3 i4 i5 i6) {v p : Int} (hv : inI v) (p1 : 0 ≤ p) (p2 : p < 8192) (hI : MI b g h) : YM l G mX7_exitOf 2 0 0 [vr (b + 540), vi v, vi p] h n (fun r h' n' => r = some (vi (mexO B v p)) ∧ h' = h ∧ n' = n) := by
  refine YM.of kX7_exitOf (Nat.le_of_ble_eq_true rfl) (L0 := [some (vr (b + 540)), some (vi v), some (vi p)]) rfl ?_
  obtain ⟨hm, hB, hJ, hBb, hBs, hBc, hJb, hi1, hi2, hi3, hi4⟩ := id hf
  refine y_run kX7_exitOf rfl ?_
  refine y_cv kX7_exitOf kX7_isThere 1 rfl (hI.x (k := 540) rfl hm) (by decide +kernel) (c_isThere (hI.x (k := 540) rfl hm) (hI.x (k := 541) rfl hB) (fun j => ⟨by have := hBb j; omega, by have := hBb j; omega⟩) hv) rfl rfl ?_
  rintro _ _ _ ⟨⟨rfl, t⟩ | ⟨rfl, t⟩, rfl, rfl⟩
  · refine y_if_eq kX7_exitOf rfl rfl (fun q => absurd q (by omega)) (fun _ => ?_)
    have t1 := t.1
    refine y_run kX7_exitOf rfl ?_
    refine m_get kX7_exitOf (540) hI hm ?_
    refine y_run kX7_exitOf rfl ?_
    refine y_cs kX7_exitOf kX7_alongX 1 rfl (by decide +kernel) (c_malongX (by omega) (by omega)) rfl rfl ?_
    rintro _ _ _ ⟨rfl, rfl, rfl⟩
    refine y_run kX7_exitOf rfl ?_
    refine y_cs kX7_exitOf kX7_alongY 1 rfl (by decide +kernel) (c_malongY (by omega) (by omega)) rfl rfl ?_
    rintro _ _ _ ⟨rfl, rfl, rfl⟩
    refine y_cs kX7_exitOf kX7_exit 4 rfl (by decide +kernel) (c_mexit (hI.x (k := 541) rfl hB) (by omega) (by omega) (by omega) (fun j => ⟨by have := hBb j; omega, by have := hBb j; omega⟩) ⟨by omega, by omega⟩ ⟨by omega, by omega⟩) rfl rfl ?_
    rintro _ _ _ ⟨rfl, rfl, rfl⟩
    refine y_run kX7_exitOf rfl ?_
    exact y_ir kX7_exitOf rfl rfl ⟨by unfold mexO; rw [if_pos (show (0 ≤ v ∧ v < 24) ∧ B (11 * v).toNat = 1 from t)], rfl, rfl⟩
  · refine y_if_eq kX7_exitOf rfl rfl (fun _ => ?_) (fun q => absurd rfl q)
    refine y_run kX7_exitOf rfl ?_
    exact y_ir kX7_exitOf rfl rfl ⟨by unfold mexO; rw [if_neg (show ¬ ((0 ≤ v ∧ v < 24) ∧ B (11 * v).toNat = 1) from t)], rfl, rfl⟩
theorem w_faceOf {b : Nat} {g : yH} {i0 i1 i2 i3 i4 i5 i6 : Int} {B J : Nat → Int} (hf : RF b g B J i0 i1 i2 i3 i4 i5 i6) {v p e : Int} (n1 : 0 ≤ v) (n2 : v < 24) (p1 : 0 ≤ p) (p2 : p < 8192) (e1 : 0 ≤ e) (e2 : e ≤ 128) (hI : MI b g h) : YM l G mX7_faceOf 1 0 0 [vr (b + 540), vi v, vi p, vi e] h n (PZ b g n 0 2) := by
  refine YM.of kX7_faceOf (Nat.le_of_ble_eq_true rfl) (L0 := [some (vr (b + 540)), some (vi v), some (vi p), some (vi e)]) rfl ?_
  obtain ⟨hm, hB, hJ, hBb, hBs, hBc, hJb, hi1, hi2, hi3, hi4⟩ := id hf
  refine y_run kX7_faceOf rfl ?_
  refine m_get kX7_faceOf (540) hI hm ?_
  refine y_run kX7_faceOf rfl ?_
  refine m_ix kX7_faceOf (hI.x (k := 541) rfl hB) hBb (fun v1 v1e v1a v1b => ?_)
  refine y_run kX7_faceOf rfl ?_
  refine y_cs kX7_faceOf kX7_alongX 1 rfl (by decide +kernel) (c_malongX (by omega) (by omega)) rfl rfl ?_
  rintro _ _ _ ⟨rfl, rfl, rfl⟩
  refine y_run kX7_faceOf rfl ?_
  refine y_ic_ne kX7_faceOf rfl rfl (fun c1 => ?_) (fun c1 => ?_)
  · refine y_run kX7_faceOf rfl ?_
    refine m_get kX7_faceOf (540) hI hm ?_
    refine y_run kX7_faceOf rfl ?_
    refine m_ix kX7_faceOf (hI.x (k := 541) rfl hB) hBb (fun v3 v3e v3a v3b => ?_)
    refine y_run kX7_faceOf rfl ?_
    refine y_cs kX7_faceOf kX7_alongY 1 rfl (by decide +kernel) (c_malongY (by omega) (by omega)) rfl rfl ?_
    rintro _ _ _ ⟨rfl, rfl, rfl⟩
    refine y_run kX7_faceOf rfl ?_
    refine y_ic_ne kX7_faceOf rfl rfl (fun c2 => ?_) (fun c2 => ?_)
    · refine y_run kX7_faceOf rfl ?_
      exact y_ir kX7_faceOf rfl rfl ⟨_, rfl, by omega, by omega, hI, rfl⟩
    · refine y_run kX7_faceOf rfl ?_
      exact y_ir kX7_faceOf rfl rfl ⟨_, rfl, by omega, by omega, hI, rfl⟩
  · refine y_run kX7_faceOf rfl ?_
    exact y_ir kX7_faceOf rfl rfl ⟨_, rfl, by omega, by omega, hI, rfl⟩
theorem w_inkOf {b : Nat} {g : yH} {i0 i1 i2 i3 i4 i5 i6 : Int} {B J : Nat → Int} (hf : RF b g B J i0 i1 i2 i3 i4 i5 i6) {v p e : Int} (n1 : 0 ≤ v) (n2 : v < 24) (p1 : 0 ≤ p) (p2 : p < 8192) (e1 : 0 ≤ e) (e2 : e ≤ 128) (e3 : 0 < e + (2 * (p / 64 - 64) + 2 * (p % 64 - 32) + 1)) (e4 : 0 < e + (2 * (p / 64 - 64) - 2 * (p % 64 - 32) - 1)) (hI : MI b g h) : YM l G mX7_inkOf 2 0 0 [vr (b + 540), vi v, vi p, vi e] h n (PZ b g n 0 3) := by
  refine YM.of kX7_inkOf (Nat.le_of_ble_eq_true rfl) (L0 := [some (vr (b + 540)), some (vi v), some (vi p), some (vi e), none, none, none, none, none, none]) rfl ?_
  obtain ⟨hm, hB, hJ, hBb, hBs, hBc, hJb, hi1, hi2, hi3, hi4⟩ := id hf
  refine y_run kX7_inkOf rfl ?_
  refine y_cv kX7_inkOf kX7_faceOf 3 rfl (hI.x (k := 540) rfl hm) (by decide +kernel) (w_faceOf hf (by omega) (by omega) (by omega) (by omega) (by omega) (by omega) hI) rfl rfl ?_
  rintro _ h _ ⟨v1, rfl, v1a, v1b, hI, rfl⟩
  refine y_run kX7_inkOf rfl ?_
  refine y_cs kX7_inkOf kX7_alongX 1 rfl (by decide +kernel) (c_malongX (by omega) (by omega)) rfl rfl ?_
  rintro _ _ _ ⟨rfl, rfl, rfl⟩
  refine y_run kX7_inkOf rfl ?_
  refine y_idiv kX7_inkOf rfl (by omega) (by omega) (by omega) (by omega) ?_
  refine y_run kX7_inkOf rfl ?_
  refine y_irem kX7_inkOf rfl (by omega) (by omega) (by omega) (by omega) ?_
  refine y_run kX7_inkOf rfl ?_
  refine y_cs kX7_inkOf kX7_alongY 1 rfl (by decide +kernel) (c_malongY (by omega) (by omega)) rfl rfl ?_
  rintro _ _ _ ⟨rfl, rfl, rfl⟩
  refine y_run kX7_inkOf rfl ?_
  refine y_idiv kX7_inkOf rfl (by omega) (by omega) (by omega) (by omega) ?_
  refine y_run kX7_inkOf rfl ?_
  refine y_irem kX7_inkOf rfl (by omega) (by omega) (by omega) (by omega) ?_
  refine y_run kX7_inkOf rfl ?_
  refine y_idiv kX7_inkOf rfl (by omega) (by omega) (by omega) (by omega) ?_
  refine y_run kX7_inkOf rfl ?_
  refine y_irem kX7_inkOf rfl (by omega) (by omega) (by omega) (by omega) ?_
  refine y_run kX7_inkOf rfl ?_
  refine y_ic_ne kX7_inkOf rfl rfl (fun c1 => ?_) (fun c1 => ?_)
  · refine y_run kX7_inkOf rfl ?_
    refine y_if_ne kX7_inkOf rfl rfl (fun c2 => ?_) (fun c2 => ?_)
    · refine y_run kX7_inkOf rfl ?_
      refine m_get kX7_inkOf (540) hI hm ?_
      refine y_run kX7_inkOf rfl ?_
      refine m_get kX7_inkOf (540) hI hm ?_
      refine y_run kX7_inkOf rfl ?_
      refine m_ix kX7_inkOf (hI.x (k := 541) rfl hB) hBb (fun s se sa sb => ?_)
      have s8 : s < 8 := by
        rw [se]
        have := hBs v (1 + v1) n1 n2 (by omega) (by omega)
        rwa [show 11 * v + 7 + (1 + v1) = 11 * v + 8 + v1 by omega] at this
      refine y_run kX7_inkOf rfl ?_
      refine m_ix kX7_inkOf (hI.x (k := 542) rfl hJ) (lo := -2147483648) (hi := 2147483647) hJb (fun s9 _ _ _ => ?_)
      refine y_run kX7_inkOf rfl ?_
      rw [yand_3]
      exact y_ir kX7_inkOf rfl rfl ⟨_, rfl, by omega, by omega, hI, rfl⟩
    · refine y_run kX7_inkOf rfl ?_
      refine m_get kX7_inkOf (540) hI hm ?_
      refine y_run kX7_inkOf rfl ?_
      refine m_get kX7_inkOf (540) hI hm ?_
      refine y_run kX7_inkOf rfl ?_
      refine m_ix kX7_inkOf (hI.x (k := 541) rfl hB) hBb (fun s se sa sb => ?_)
      have s8 : s < 8 := by
        rw [se]
        have := hBs v (1 + v1) n1 n2 (by omega) (by omega)
        rwa [show 11 * v + 7 + (1 + v1) = 11 * v + 8 + v1 by omega] at this
      refine y_run kX7_inkOf rfl ?_
      refine m_ix kX7_inkOf (hI.x (k := 542) rfl hJ) (lo := -2147483648) (hi := 2147483647) hJb (fun s9 _ _ _ => ?_)
      refine y_run kX7_inkOf rfl ?_
      rw [yand_3]
      exact y_ir kX7_inkOf rfl rfl ⟨_, rfl, by omega, by omega, hI, rfl⟩
  · refine y_run kX7_inkOf rfl ?_
    refine y_if_ne kX7_inkOf rfl rfl (fun c3 => ?_) (fun c3 => ?_)
    · refine y_run kX7_inkOf rfl ?_
      refine m_get kX7_inkOf (540) hI hm ?_
      refine y_run kX7_inkOf rfl ?_
      refine m_get kX7_inkOf (540) hI hm ?_
      refine y_run kX7_inkOf rfl ?_
      refine m_ix kX7_inkOf (hI.x (k := 541) rfl hB) hBb (fun s se sa sb => ?_)
      have s8 : s < 8 := by
        rw [se]
        have := hBs v (1 + v1) n1 n2 (by omega) (by omega)
        rwa [show 11 * v + 7 + (1 + v1) = 11 * v + 8 + v1 by omega] at this
      refine y_run kX7_inkOf rfl ?_
      refine m_ix kX7_inkOf (hI.x (k := 542) rfl hJ) (lo := -2147483648) (hi := 2147483647) hJb (fun s9 _ _ _ => ?_)
      refine y_run kX7_inkOf rfl ?_
      rw [yand_3]
      exact y_ir kX7_inkOf rfl rfl ⟨_, rfl, by omega, by omega, hI, rfl⟩
    · refine y_run kX7_inkOf rfl ?_
      refine m_get kX7_inkOf (540) hI hm ?_
      refine y_run kX7_inkOf rfl ?_
      refine m_get kX7_inkOf (540) hI hm ?_
      refine y_run kX7_inkOf rfl ?_
      refine m_ix kX7_inkOf (hI.x (k := 541) rfl hB) hBb (fun s se sa sb => ?_)
      have s8 : s < 8 := by
        rw [se]
        have := hBs v (1 + v1) n1 n2 (by omega) (by omega)
        rwa [show 11 * v + 7 + (1 + v1) = 11 * v + 8 + v1 by omega] at this
      refine y_run kX7_inkOf rfl ?_
      refine m_ix kX7_inkOf (hI.x (k := 542) rfl hJ) (lo := -2147483648) (hi := 2147483647) hJb (fun s9 _ _ _ => ?_)
      refine y_run kX7_inkOf rfl ?_
      rw [yand_3]
      exact y_ir kX7_inkOf rfl rfl ⟨_, rfl, by omega, by omega, hI, rfl⟩
end C63
end
section
theorem is01 {B : Nat → Int} {v : Int} {r : Option xV} (hr : (r = some (vi 1) ∧ mT B v) ∨ (r = some (vi 0) ∧ ¬ mT B v)) : ∃ x : Int, r = some (vi x) ∧ 0 ≤ x ∧ x ≤ 1 ∧ (x ≠ 0 → 0 ≤ v ∧ v < 24) := by
  rcases hr with ⟨rfl, t⟩ | ⟨rfl, t⟩
  · exact ⟨1, rfl, by omega, by omega, fun _ => t.1⟩
  · exact ⟨0, rfl, by omega, by omega, fun q => absurd rfl q⟩
theorem pxb (i j : Int) : -1 ≤ (if -32 ≤ i ∧ i < 32 ∧ -64 ≤ j ∧ j < 64 then 64 * (j + 64) + i + 32 else -1) ∧ (if -32 ≤ i ∧ i < 32 ∧ -64 ≤ j ∧ j < 64 then 64 * (j + 64) + i + 32 else -1) ≤ 8191 := by
  split <;> omega
section C64
variable {l : Launch} {G : xG} {h : yH} {n : Nat}
theorem s_gather2 {b : Nat} {g : yH} {i0 i1 i2 i3 i4 i5 i6 : Int} {B J : Nat → Int} (hf : RF b g B J i0 i1 i2 i3 i4 i5 i6) {y1 y2 y3 y6 y7 : Option xV} {xa xb yf : Int} (a1 : -1000 ≤ xa) (a2 : xa ≤ 1000) (a3 : -1000 ≤ xb) (a4 : xb ≤ 1000) (kk : ∀ (u9 : Option xV) (h : yH), MI b g h → YW l G mX7_gather 2 0 0 (PV b g n) 167 [some (vr (b + 540)), y1, y2, y3, some (vi xa), some (vi xb), y6, y7, some (vi yf), u9] [] h n) : ∀ (m : Nat) (q : Int) (h : yH), (128 - q).toNat < m → 0 ≤ q → q ≤ 128 → MI b g h → YW l G mX7_gather 2 0 0 (PV b g n) 110 [some (vr (b + 540)), y1, y2, y3, some (vi xa), some (vi xb), y6, y7, some (vi yf), some (vi q)] [] h n := by
  intro m
  induction m with
  | zero => intro q h hm; exact absurd hm (Nat.not_lt_zero _)
  | succ m ih =>
    intro q h hmm j0 j1 hI
    obtain ⟨hm, hB, hJ, hBb, hBs, hBc, hJb, hi1, hi2, hi3, hi4⟩ := id hf
    refine y_run kX7_gather rfl ?_
    refine y_ic_ge kX7_gather rfl rfl (fun c1 => ?_) (fun c1 => ?_)
    · exact kk _ _  hI
    · refine y_run kX7_gather rfl ?_
      refine m_get kX7_gather (540) hI hm ?_
      refine y_run kX7_gather rfl ?_
      refine m_get kX7_gather (540) hI hm ?_
      refine y_run kX7_gather rfl ?_
      refine m_ia kX7_gather (545) hI rfl (fun v1 v1a v1b => ?_)
      refine y_run kX7_gather rfl ?_
      refine y_ic_ne kX7_gather rfl rfl (fun c2 => ?_) (fun c2 => ?_)
      · refine y_run kX7_gather rfl ?_
        refine m_get kX7_gather (540) hI hm ?_
        refine y_run kX7_gather rfl ?_
        obtain ⟨Fv2, ev2, fv2⟩ := hI.i (k := 545) rfl
        refine y_cs kX7_gather kX7_exit 4 rfl (by decide +kernel) (c_mexit ev2 (by omega) (by omega) (by omega) (fun j => ⟨by have := fv2 j; omega, by have := fv2 j; omega⟩) ⟨by omega, by omega⟩ ⟨by omega, by omega⟩) rfl rfl ?_
        rintro _ _ _ ⟨rfl, rfl, rfl⟩
        refine YW.gz (mex_small (fv2 _) (fv2 _) (fv2 _) (fv2 _) (fv2 _) (fv2 _) ⟨by omega, by omega⟩ ⟨by omega, by omega⟩) (fun v2 v2a v2b => ?_)
        refine m_is kX7_gather (548) hI rfl (fun h hI => ?_)
        refine y_run kX7_gather rfl ?_
        exact ih _ _ (by omega) (by omega) (by omega) hI
      · refine y_run kX7_gather rfl ?_
        refine m_is kX7_gather (548) hI rfl (fun h hI => ?_)
        refine y_run kX7_gather rfl ?_
        exact ih _ _ (by omega) (by omega) (by omega) hI
theorem s_gather1 {b : Nat} {g : yH} {i0 i1 i2 i3 i4 i5 i6 : Int} {B J : Nat → Int} (hf : RF b g B J i0 i1 i2 i3 i4 i5 i6) {x1 x2 : Int} (o1 : -1 ≤ x1) (o2 : x1 < 128) (o3 : x1 ≠ -1 → 0 ≤ x2 ∧ x2 < 128) : ∀ (m : Nat) (q : Int) (u4 : Option xV) (u5 : Option xV) (u6 : Option xV) (u7 : Option xV) (u8 : Option xV) (u9 : Option xV) (h : yH), (8192 - q).toNat < m → 0 ≤ q → q ≤ 8192 → MI b g h → YW l G mX7_gather 2 0 0 (PV b g n) 2 [some (vr (b + 540)), some (vi x1), some (vi x2), some (vi q), u4, u5, u6, u7, u8, u9] [] h n := by
  intro m
  induction m with
  | zero => intro q u4 u5 u6 u7 u8 u9 h hm; exact absurd hm (Nat.not_lt_zero _)
  | succ m ih =>
    intro q u4 u5 u6 u7 u8 u9 h hmm j0 j1 hI
    obtain ⟨hm, hB, hJ, hBb, hBs, hBc, hJb, hi1, hi2, hi3, hi4⟩ := id hf
    refine y_run kX7_gather rfl ?_
    refine y_ic_ge kX7_gather rfl rfl (fun c1 => ?_) (fun c1 => ?_)
    · exact y_vr kX7_gather rfl rfl ⟨rfl, hI, rfl⟩
    · refine y_run kX7_gather rfl ?_
      refine y_cs kX7_gather kX7_alongX 1 rfl (by decide +kernel) (c_malongX (by omega) (by omega)) rfl rfl ?_
      rintro _ _ _ ⟨rfl, rfl, rfl⟩
      refine y_run kX7_gather rfl ?_
      refine y_cs kX7_gather kX7_alongY 1 rfl (by decide +kernel) (c_malongY (by omega) (by omega)) rfl rfl ?_
      rintro _ _ _ ⟨rfl, rfl, rfl⟩
      refine y_run kX7_gather rfl ?_
      refine y_ic_ne kX7_gather rfl rfl (fun c2 => ?_) (fun c2 => ?_)
      · refine y_run kX7_gather rfl ?_
        refine y_if_eq kX7_gather rfl rfl (fun c3 => ?_) (fun c3 => absurd c3 (by omega))
        refine y_run kX7_gather rfl ?_
        refine m_get kX7_gather (540) hI hm ?_
        refine y_run kX7_gather rfl ?_
        obtain ⟨Fv3, ev3, fv3⟩ := hI.i (k := 545) rfl
        refine y_cs kX7_gather kX7_exit 4 rfl (by decide +kernel) (c_mexit ev3 (by omega) (by omega) (by omega) (fun j => ⟨by have := fv3 j; omega, by have := fv3 j; omega⟩) ⟨by omega, by omega⟩ ⟨by omega, by omega⟩) rfl rfl ?_
        rintro _ _ _ ⟨rfl, rfl, rfl⟩
        refine YW.gz (mex_small (fv3 _) (fv3 _) (fv3 _) (fv3 _) (fv3 _) (fv3 _) ⟨by omega, by omega⟩ ⟨by omega, by omega⟩) (fun v3 v3a v3b => ?_)
        refine y_run kX7_gather rfl ?_
        refine y_if_eq kX7_gather rfl rfl (fun c4 => ?_) (fun c4 => absurd c4 (by omega))
        refine y_run kX7_gather rfl ?_
        refine m_get kX7_gather (540) hI hm ?_
        refine y_run kX7_gather rfl ?_
        obtain ⟨Fv4, ev4, fv4⟩ := hI.i (k := 545) rfl
        refine y_cs kX7_gather kX7_exit 4 rfl (by decide +kernel) (c_mexit ev4 (by omega) (by omega) (by omega) (fun j => ⟨by have := fv4 j; omega, by have := fv4 j; omega⟩) ⟨by omega, by omega⟩ ⟨by omega, by omega⟩) rfl rfl ?_
        rintro _ _ _ ⟨rfl, rfl, rfl⟩
        refine YW.gz (mex_small (fv4 _) (fv4 _) (fv4 _) (fv4 _) (fv4 _) (fv4 _) ⟨by omega, by omega⟩ ⟨by omega, by omega⟩) (fun v4 v4a v4b => ?_)
        refine y_run kX7_gather rfl ?_
        refine y_if_ne kX7_gather rfl rfl (fun c5 => absurd c5 (by omega)) (fun c5 => ?_)
        refine y_run kX7_gather rfl ?_
        refine y_if_ne kX7_gather rfl rfl (fun c6 => ?_) (fun c6 => ?_)
        · refine y_run kX7_gather rfl ?_
          exact s_gather2 hf (by omega) (by omega) (by omega) (by omega) (fun u9 h hI => by
            refine y_run kX7_gather rfl ?_
            refine y_if_eq kX7_gather rfl rfl (fun c1 => ?_) (fun c1 => absurd c1 (by omega))
            refine y_run kX7_gather rfl ?_
            refine y_cv kX7_gather kX7_with 1 rfl (hI.x (k := 540) rfl hm) (by decide +kernel) (w_with hf (by omega) (by omega) hI) rfl rfl ?_
            rintro _ h _ ⟨rfl, hI, rfl⟩
            refine y_run kX7_gather rfl ?_
            refine y_cv kX7_gather kX7_with 1 rfl (hI.x (k := 540) rfl hm) (by decide +kernel) (w_with hf (by omega) (by omega) hI) rfl rfl ?_
            rintro _ h _ ⟨rfl, hI, rfl⟩
            refine y_run kX7_gather rfl ?_
            exact ih _ _ _ _ _ _ _ _ (by omega) (by omega) (by omega) hI) _ 0 _ (Nat.lt_succ_self _) (by omega) (by omega) hI
        · refine y_run kX7_gather rfl ?_
          refine y_if_ne kX7_gather rfl rfl (fun c7 => ?_) (fun c7 => ?_)
          · refine y_run kX7_gather rfl ?_
            exact s_gather2 hf (by omega) (by omega) (by omega) (by omega) (fun u9 h hI => by
              refine y_run kX7_gather rfl ?_
              refine y_if_eq kX7_gather rfl rfl (fun c1 => ?_) (fun c1 => absurd c1 (by omega))
              refine y_run kX7_gather rfl ?_
              refine y_cv kX7_gather kX7_with 1 rfl (hI.x (k := 540) rfl hm) (by decide +kernel) (w_with hf (by omega) (by omega) hI) rfl rfl ?_
              rintro _ h _ ⟨rfl, hI, rfl⟩
              refine y_run kX7_gather rfl ?_
              refine y_cv kX7_gather kX7_with 1 rfl (hI.x (k := 540) rfl hm) (by decide +kernel) (w_with hf (by omega) (by omega) hI) rfl rfl ?_
              rintro _ h _ ⟨rfl, hI, rfl⟩
              refine y_run kX7_gather rfl ?_
              exact ih _ _ _ _ _ _ _ _ (by omega) (by omega) (by omega) hI) _ 0 _ (Nat.lt_succ_self _) (by omega) (by omega) hI
          · refine y_run kX7_gather rfl ?_
            exact ih _ _ _ _ _ _ _ _ (by omega) (by omega) (by omega) hI
      · refine y_run kX7_gather rfl ?_
        refine y_if_eq kX7_gather rfl rfl (fun c8 => absurd c8 (by omega)) (fun c8 => ?_)
        refine y_run kX7_gather rfl ?_
        refine y_if_eq kX7_gather rfl rfl (fun c9 => absurd c9 (by omega)) (fun c9 => ?_)
        refine y_run kX7_gather rfl ?_
        refine y_if_ne kX7_gather rfl rfl (fun c10 => ?_) (fun c10 => absurd c10 (by omega))
        refine y_run kX7_gather rfl ?_
        exact s_gather2 hf (by omega) (by omega) (by omega) (by omega) (fun u9 h hI => by
          refine y_run kX7_gather rfl ?_
          refine y_if_eq kX7_gather rfl rfl (fun c1 => absurd c1 (by omega)) (fun c1 => ?_)
          refine y_run kX7_gather rfl ?_
          refine y_cv kX7_gather kX7_pairs 0 rfl (hI.x (k := 540) rfl hm) (by decide +kernel) (w_pairs hf hI) rfl rfl ?_
          rintro _ h _ ⟨rfl, hI, rfl⟩
          refine y_run kX7_gather rfl ?_
          exact ih _ _ _ _ _ _ _ _ (by omega) (by omega) (by omega) hI) _ 0 _ (Nat.lt_succ_self _) (by omega) (by omega) hI
theorem w_gather {b : Nat} {g : yH} {i0 i1 i2 i3 i4 i5 i6 : Int} {B J : Nat → Int} (hf : RF b g B J i0 i1 i2 i3 i4 i5 i6) {x1 x2 : Int} (o1 : -1 ≤ x1) (o2 : x1 < 128) (o3 : x1 ≠ -1 → 0 ≤ x2 ∧ x2 < 128) (hI : MI b g h) : YM l G mX7_gather 2 0 0 [vr (b + 540), vi x1, vi x2] h n (PV b g n) := by
  refine YM.of kX7_gather (Nat.le_of_ble_eq_true rfl) (L0 := [some (vr (b + 540)), some (vi x1), some (vi x2), none, none, none, none, none, none, none]) rfl ?_
  obtain ⟨hm, hB, hJ, hBb, hBs, hBc, hJb, hi1, hi2, hi3, hi4⟩ := id hf
  refine y_run kX7_gather rfl ?_
  exact s_gather1 hf o1 o2 o3 _ 0 _ _ _ _ _ _ _ (Nat.lt_succ_self _) (by omega) (by omega) hI
theorem s_begin3 {b : Nat} {g : yH} {i0 i1 i2 i3 i4 i5 i6 : Int} {B J : Nat → Int} (hf : RF b g B J i0 i1 i2 i3 i4 i5 i6)  : ∀ (m : Nat) (q : Int) (u2 : Option xV) (h : yH), (16384 - q).toNat < m → 0 ≤ q → q ≤ 16384 → MI b g h → YW l G mX7_begin 3 0 0 (PV b g n) 100 [some (vr (b + 540)), some (vi q), u2] [] h n := by
  intro m
  induction m with
  | zero => intro q u2 h hm; exact absurd hm (Nat.not_lt_zero _)
  | succ m ih =>
    intro q u2 h hmm j0 j1 hI
    obtain ⟨hm, hB, hJ, hBb, hBs, hBc, hJb, hi1, hi2, hi3, hi4⟩ := id hf
    refine y_run kX7_begin rfl ?_
    refine y_ic_ge kX7_begin rfl rfl (fun c1 => ?_) (fun c1 => ?_)
    · refine y_run kX7_begin rfl ?_
      refine y_cv kX7_begin kX7_gather 2 rfl (hI.x (k := 540) rfl hm) (by decide +kernel) (w_gather hf (by omega) (by omega) (by omega) hI) rfl rfl ?_
      rintro _ h _ ⟨rfl, hI, rfl⟩
      exact y_vr kX7_begin rfl rfl ⟨rfl, hI, rfl⟩
    · refine y_run kX7_begin rfl ?_
      refine m_get kX7_begin (540) hI hm ?_
      refine y_run kX7_begin rfl ?_
      refine m_zs kX7_begin (546) hI rfl (fun h hI => ?_)
      refine y_run kX7_begin rfl ?_
      exact ih _ _ _ (by omega) (by omega) (by omega) hI
theorem s_begin2 {b : Nat} {g : yH} {i0 i1 i2 i3 i4 i5 i6 : Int} {B J : Nat → Int} (hf : RF b g B J i0 i1 i2 i3 i4 i5 i6) {p : Int} (p1 : 0 ≤ p) (p2 : p < 128) (kk : ∀ (u2 : Option xV) (h : yH), MI b g h → YW l G mX7_begin 3 0 0 (PV b g n) 92 [some (vr (b + 540)), some (vi p), u2] [] h n) : ∀ (m : Nat) (q : Int) (h : yH), (7 - q).toNat < m → 1 ≤ q → q ≤ 7 → MI b g h → YW l G mX7_begin 3 0 0 (PV b g n) 46 [some (vr (b + 540)), some (vi p), some (vi q)] [] h n := by
  intro m
  induction m with
  | zero => intro q h hm; exact absurd hm (Nat.not_lt_zero _)
  | succ m ih =>
    intro q h hmm j0 j1 hI
    obtain ⟨hm, hB, hJ, hBb, hBs, hBc, hJb, hi1, hi2, hi3, hi4⟩ := id hf
    refine y_run kX7_begin rfl ?_
    refine y_ic_ge kX7_begin rfl rfl (fun c1 => ?_) (fun c1 => ?_)
    · exact kk _ _  hI
    · refine y_run kX7_begin rfl ?_
      refine m_get kX7_begin (540) hI hm ?_
      refine y_run kX7_begin rfl ?_
      refine y_cv kX7_begin kX7_isThere 1 rfl (hI.x (k := 540) rfl hm) (by decide +kernel) (c_isThere (hI.x (k := 540) rfl hm) (hI.x (k := 541) rfl hB) (fun j => ⟨by have := hBb j; omega, by have := hBb j; omega⟩) ⟨by omega, by omega⟩) rfl rfl ?_
      rintro _ _ _ ⟨hr, rfl, rfl⟩
      obtain ⟨v1, rfl, v1a, v1b, v1c⟩ := is01 hr
      refine y_if_eq kX7_begin rfl rfl (fun c2 => ?_) (fun c2 => ?_)
      · refine y_run kX7_begin rfl ?_
        refine m_is kX7_begin (545) hI rfl (fun h hI => ?_)
        refine y_run kX7_begin rfl ?_
        exact ih _ _ (by omega) (by omega) (by omega) hI
      · refine y_run kX7_begin rfl ?_
        refine m_get kX7_begin (540) hI hm ?_
        refine y_run kX7_begin rfl ?_
        refine m_ix kX7_begin (hI.x (k := 541) rfl hB) hBb (fun v2 v2e v2a v2b => ?_)
        refine y_run kX7_begin rfl ?_
        refine m_is kX7_begin (545) hI rfl (fun h hI => ?_)
        refine y_run kX7_begin rfl ?_
        exact ih _ _ (by omega) (by omega) (by omega) hI
theorem s_begin1 {b : Nat} {g : yH} {i0 i1 i2 i3 i4 i5 i6 : Int} {B J : Nat → Int} (hf : RF b g B J i0 i1 i2 i3 i4 i5 i6)  (kk : ∀ (u1 : Option xV) (u2 : Option xV) (h : yH), MI b g h → YW l G mX7_begin 3 0 0 (PV b g n) 98 [some (vr (b + 540)), u1, u2] [] h n) : ∀ (m : Nat) (p : Int) (u2 : Option xV) (h : yH), (128 - p).toNat < m → 0 ≤ p → p ≤ 128 → MI b g h → YW l G mX7_begin 3 0 0 (PV b g n) 2 [some (vr (b + 540)), some (vi p), u2] [] h n := by
  intro m
  induction m with
  | zero => intro p u2 h hm; exact absurd hm (Nat.not_lt_zero _)
  | succ m ih =>
    intro p u2 h hmm j0 j1 hI
    obtain ⟨hm, hB, hJ, hBb, hBs, hBc, hJb, hi1, hi2, hi3, hi4⟩ := id hf
    refine y_run kX7_begin rfl ?_
    refine y_ic_ge kX7_begin rfl rfl (fun c1 => ?_) (fun c1 => ?_)
    · exact kk _ _ _  hI
    · refine y_run kX7_begin rfl ?_
      refine m_get kX7_begin (540) hI hm ?_
      refine y_run kX7_begin rfl ?_
      refine y_cv kX7_begin kX7_isThere 1 rfl (hI.x (k := 540) rfl hm) (by decide +kernel) (c_isThere (hI.x (k := 540) rfl hm) (hI.x (k := 541) rfl hB) (fun j => ⟨by have := hBb j; omega, by have := hBb j; omega⟩) ⟨by omega, by omega⟩) rfl rfl ?_
      rintro _ _ _ ⟨hr, rfl, rfl⟩
      obtain ⟨v1, rfl, v1a, v1b, v1c⟩ := is01 hr
      refine y_if_eq kX7_begin rfl rfl (fun c2 => ?_) (fun c2 => ?_)
      · refine y_run kX7_begin rfl ?_
        refine m_is kX7_begin (545) hI rfl (fun h hI => ?_)
        refine y_run kX7_begin rfl ?_
        refine m_get kX7_begin (540) hI hm ?_
        refine y_run kX7_begin rfl ?_
        refine m_is kX7_begin (545) hI rfl (fun h hI => ?_)
        refine y_run kX7_begin rfl ?_
        exact s_begin2 hf (by omega) (by omega) (fun u2 h hI => by
          refine y_run kX7_begin rfl ?_
          exact ih _ _ _ (by omega) (by omega) (by omega) hI) _ 1 _ (Nat.lt_succ_self _) (by omega) (by omega) hI
      · refine y_run kX7_begin rfl ?_
        refine m_is kX7_begin (545) hI rfl (fun h hI => ?_)
        refine y_run kX7_begin rfl ?_
        refine m_get kX7_begin (540) hI hm ?_
        refine y_run kX7_begin rfl ?_
        refine m_is kX7_begin (545) hI rfl (fun h hI => ?_)
        refine y_run kX7_begin rfl ?_
        exact s_begin2 hf (by omega) (by omega) (fun u2 h hI => by
          refine y_run kX7_begin rfl ?_
          exact ih _ _ _ (by omega) (by omega) (by omega) hI) _ 1 _ (Nat.lt_succ_self _) (by omega) (by omega) hI
theorem w_begin {b : Nat} {g : yH} {i0 i1 i2 i3 i4 i5 i6 : Int} {B J : Nat → Int} (hf : RF b g B J i0 i1 i2 i3 i4 i5 i6)  (hI : MI b g h) : YM l G mX7_begin 3 0 0 [vr (b + 540)] h n (PV b g n) := by
  refine YM.of kX7_begin (Nat.le_of_ble_eq_true rfl) (L0 := [some (vr (b + 540)), none, none]) rfl ?_
  obtain ⟨hm, hB, hJ, hBb, hBs, hBc, hJb, hi1, hi2, hi3, hi4⟩ := id hf
  refine y_run kX7_begin rfl ?_
  exact s_begin1 hf (fun u1 u2 h hI => by
    refine y_run kX7_begin rfl ?_
    exact s_begin3 hf  _ 0 _ _ (Nat.lt_succ_self _) (by omega) (by omega) hI) _ 0 _ _ (Nat.lt_succ_self _) (by omega) (by omega) hI
theorem s_isFree {b : Nat} {g : yH} {i0 i1 i2 i3 i4 i5 i6 : Int} {B J : Nat → Int} (hf : RF b g B J i0 i1 i2 i3 i4 i5 i6) {p : Int} (p1 : 0 ≤ p) (p2 : p < 128) : ∀ (m : Nat) (q : Int) (h : yH), (128 - q).toNat < m → 0 ≤ q → q ≤ 128 → MI b g h → YW l G mX7_isFree 1 0 0 (PZ b g n 0 1) 12 [some (vr (b + 540)), some (vi p), some (vi q)] [] h n := by
  intro m
  induction m with
  | zero => intro q h hm; exact absurd hm (Nat.not_lt_zero _)
  | succ m ih =>
    intro q h hmm j0 j1 hI
    obtain ⟨hm, hB, hJ, hBb, hBs, hBc, hJb, hi1, hi2, hi3, hi4⟩ := id hf
    refine y_run kX7_isFree rfl ?_
    refine y_ic_ge kX7_isFree rfl rfl (fun c1 => ?_) (fun c1 => ?_)
    · refine y_run kX7_isFree rfl ?_
      exact y_zr kX7_isFree rfl rfl (by omega) ⟨_, rfl, by omega, by omega, hI, rfl⟩
    · refine y_run kX7_isFree rfl ?_
      refine y_cv kX7_isFree kX7_isLeft 1 rfl (hI.x (k := 540) rfl hm) (by decide +kernel) (w_isLeft hf (by omega) (by omega) hI) rfl rfl ?_
      rintro _ h _ ⟨v1, rfl, v1a, v1b, hI, rfl⟩
      refine y_if_eq kX7_isFree rfl rfl (fun c2 => ?_) (fun c2 => ?_)
      · refine y_run kX7_isFree rfl ?_
        exact ih _ _ (by omega) (by omega) (by omega) hI
      · refine y_run kX7_isFree rfl ?_
        refine m_get kX7_isFree (540) hI hm ?_
        refine y_run kX7_isFree rfl ?_
        refine m_za kX7_isFree (546) hI rfl (fun v2 v2a => ?_)
        refine y_if_eq kX7_isFree rfl rfl (fun c3 => ?_) (fun c3 => ?_)
        · refine y_run kX7_isFree rfl ?_
          exact ih _ _ (by omega) (by omega) (by omega) hI
        · refine y_run kX7_isFree rfl ?_
          exact y_zr kX7_isFree rfl rfl (by omega) ⟨_, rfl, by omega, by omega, hI, rfl⟩
theorem w_isFree {b : Nat} {g : yH} {i0 i1 i2 i3 i4 i5 i6 : Int} {B J : Nat → Int} (hf : RF b g B J i0 i1 i2 i3 i4 i5 i6) {p : Int} (p1 : 0 ≤ p) (p2 : p < 128) (hI : MI b g h) : YM l G mX7_isFree 1 0 0 [vr (b + 540), vi p] h n (PZ b g n 0 1) := by
  refine YM.of kX7_isFree (Nat.le_of_ble_eq_true rfl) (L0 := [some (vr (b + 540)), some (vi p), none]) rfl ?_
  obtain ⟨hm, hB, hJ, hBb, hBs, hBc, hJb, hi1, hi2, hi3, hi4⟩ := id hf
  refine y_run kX7_isFree rfl ?_
  refine y_cv kX7_isFree kX7_isLeft 1 rfl (hI.x (k := 540) rfl hm) (by decide +kernel) (w_isLeft hf (by omega) (by omega) hI) rfl rfl ?_
  rintro _ h _ ⟨v1, rfl, v1a, v1b, hI, rfl⟩
  refine y_if_ne kX7_isFree rfl rfl (fun c1 => ?_) (fun c1 => ?_)
  · refine y_run kX7_isFree rfl ?_
    exact s_isFree hf p1 p2 _ 0 _ (Nat.lt_succ_self _) (by omega) (by omega) hI
  · refine y_run kX7_isFree rfl ?_
    exact y_zr kX7_isFree rfl rfl (by omega) ⟨_, rfl, by omega, by omega, hI, rfl⟩
theorem s_free {b : Nat} {g : yH} {i0 i1 i2 i3 i4 i5 i6 : Int} {B J : Nat → Int} (hf : RF b g B J i0 i1 i2 i3 i4 i5 i6)  : ∀ (m : Nat) (q : Int) (h : yH), (128 - q).toNat < m → 0 ≤ q → q ≤ 128 → MI b g h → YW l G mX7_free 2 0 0 (PZ b g n (-1) 127) 2 [some (vr (b + 540)), some (vi q)] [] h n := by
  intro m
  induction m with
  | zero => intro q h hm; exact absurd hm (Nat.not_lt_zero _)
  | succ m ih =>
    intro q h hmm j0 j1 hI
    obtain ⟨hm, hB, hJ, hBb, hBs, hBc, hJb, hi1, hi2, hi3, hi4⟩ := id hf
    refine y_run kX7_free rfl ?_
    refine y_ic_ge kX7_free rfl rfl (fun c1 => ?_) (fun c1 => ?_)
    · refine y_run kX7_free rfl ?_
      exact y_ir kX7_free rfl rfl ⟨_, rfl, by omega, by omega, hI, rfl⟩
    · refine y_run kX7_free rfl ?_
      refine y_cv kX7_free kX7_isFree 1 rfl (hI.x (k := 540) rfl hm) (by decide +kernel) (w_isFree hf (by omega) (by omega) hI) rfl rfl ?_
      rintro _ h _ ⟨v1, rfl, v1a, v1b, hI, rfl⟩
      refine y_if_eq kX7_free rfl rfl (fun c2 => ?_) (fun c2 => ?_)
      · refine y_run kX7_free rfl ?_
        exact ih _ _ (by omega) (by omega) (by omega) hI
      · refine y_run kX7_free rfl ?_
        exact y_ir kX7_free rfl rfl ⟨_, rfl, by omega, by omega, hI, rfl⟩
theorem w_free {b : Nat} {g : yH} {i0 i1 i2 i3 i4 i5 i6 : Int} {B J : Nat → Int} (hf : RF b g B J i0 i1 i2 i3 i4 i5 i6)  (hI : MI b g h) : YM l G mX7_free 2 0 0 [vr (b + 540)] h n (PZ b g n (-1) 127) := by
  refine YM.of kX7_free (Nat.le_of_ble_eq_true rfl) (L0 := [some (vr (b + 540)), none]) rfl ?_
  obtain ⟨hm, hB, hJ, hBb, hBs, hBc, hJb, hi1, hi2, hi3, hi4⟩ := id hf
  refine y_run kX7_free rfl ?_
  exact s_free hf  _ 0  _ (Nat.lt_succ_self _) (by omega) (by omega) hI
theorem s_plane2 {b : Nat} {g : yH} {i0 i1 i2 i3 i4 i5 i6 : Int} {B J : Nat → Int} (hf : RF b g B J i0 i1 i2 i3 i4 i5 i6) {p x : Int} (p1 : 0 ≤ p) (p2 : p < 128) (x1 : 0 ≤ x) (x2 : x < 3) {q : Int} (q1 : 0 ≤ q) (q2 : q < 128) (kk : ∀ (a : Int) (u5 : Option xV) (u6 : Option xV) (h : yH), -1 ≤ a → a ≤ 127 → MI b g h → YW l G mX7_plane 1 0 0 (PZ b g n (-1) 127) 116 [some (vr (b + 540)), some (vi p), some (vi x), some (vi a), some (vi q), u5, u6] [] h n) : ∀ (m : Nat) (r : Int) (a : Int) (u6 : Option xV) (h : yH), (2 - r).toNat < m → 0 ≤ r → r ≤ 2 → -1 ≤ a → a ≤ 127 → MI b g h → YW l G mX7_plane 1 0 0 (PZ b g n (-1) 127) 29 [some (vr (b + 540)), some (vi p), some (vi x), some (vi a), some (vi q), some (vi r), u6] [] h n := by
  intro m
  induction m with
  | zero => intro r a u6 h hm; exact absurd hm (Nat.not_lt_zero _)
  | succ m ih =>
    intro r a u6 h hmm j0 j1 j2 j3 hI
    obtain ⟨hm, hB, hJ, hBb, hBs, hBc, hJb, hi1, hi2, hi3, hi4⟩ := id hf
    refine y_run kX7_plane rfl ?_
    refine y_ic_ge kX7_plane rfl rfl (fun c1 => ?_) (fun c1 => ?_)
    · exact kk _ _ _ _ (by omega) (by omega) hI
    · refine y_run kX7_plane rfl ?_
      refine m_get kX7_plane (540) hI hm ?_
      refine y_run kX7_plane rfl ?_
      refine m_ia kX7_plane (545) hI rfl (fun v1 v1a v1b => ?_)
      refine y_run kX7_plane rfl ?_
      refine m_get kX7_plane (540) hI hm ?_
      refine y_run kX7_plane rfl ?_
      refine m_ia kX7_plane (545) hI rfl (fun v2 v2a v2b => ?_)
      refine y_ic_le kX7_plane rfl rfl (fun c2 => ?_) (fun c2 => ?_)
      · refine y_run kX7_plane rfl ?_
        exact ih _ _ _ _ (by omega) (by omega) (by omega) (by omega) (by omega) hI
      · refine y_run kX7_plane rfl ?_
        refine m_get kX7_plane (540) hI hm ?_
        refine y_run kX7_plane rfl ?_
        refine m_ia kX7_plane (545) hI rfl (fun v3 v3a v3b => ?_)
        refine y_ic_ge kX7_plane rfl rfl (fun c3 => ?_) (fun c3 => ?_)
        · refine y_run kX7_plane rfl ?_
          exact ih _ _ _ _ (by omega) (by omega) (by omega) (by omega) (by omega) hI
        · refine y_run kX7_plane rfl ?_
          refine y_ic_eq kX7_plane rfl rfl (fun c4 => ?_) (fun c4 => ?_)
          · refine y_run kX7_plane rfl ?_
            exact ih _ _ _ _ (by omega) (by omega) (by omega) (by omega) (by omega) hI
          · refine y_run kX7_plane rfl ?_
            refine y_ic_ge kX7_plane rfl rfl (fun c5 => ?_) (fun c5 => ?_)
            · refine y_run kX7_plane rfl ?_
              exact ih _ _ _ _ (by omega) (by omega) (by omega) (by omega) (by omega) hI
            · refine y_run kX7_plane rfl ?_
              exact ih _ _ _ _ (by omega) (by omega) (by omega) (by omega) (by omega) hI
theorem s_plane1 {b : Nat} {g : yH} {i0 i1 i2 i3 i4 i5 i6 : Int} {B J : Nat → Int} (hf : RF b g B J i0 i1 i2 i3 i4 i5 i6) {p x : Int} (p1 : 0 ≤ p) (p2 : p < 128) (x1 : 0 ≤ x) (x2 : x < 3) : ∀ (m : Nat) (q : Int) (a : Int) (u5 : Option xV) (u6 : Option xV) (h : yH), (128 - q).toNat < m → 0 ≤ q → q ≤ 128 → -1 ≤ a → a ≤ 127 → MI b g h → YW l G mX7_plane 1 0 0 (PZ b g n (-1) 127) 5 [some (vr (b + 540)), some (vi p), some (vi x), some (vi a), some (vi q), u5, u6] [] h n := by
  intro m
  induction m with
  | zero => intro q a u5 u6 h hm; exact absurd hm (Nat.not_lt_zero _)
  | succ m ih =>
    intro q a u5 u6 h hmm j0 j1 j2 j3 hI
    obtain ⟨hm, hB, hJ, hBb, hBs, hBc, hJb, hi1, hi2, hi3, hi4⟩ := id hf
    refine y_run kX7_plane rfl ?_
    refine y_ic_ge kX7_plane rfl rfl (fun c1 => ?_) (fun c1 => ?_)
    · refine y_run kX7_plane rfl ?_
      exact y_ir kX7_plane rfl rfl ⟨_, rfl, by omega, by omega, hI, rfl⟩
    · refine y_run kX7_plane rfl ?_
      refine y_cv kX7_plane kX7_isTangled 2 rfl (hI.x (k := 540) rfl hm) (by decide +kernel) (w_isTangled hf (by omega) (by omega) (by omega) (by omega) hI) rfl rfl ?_
      rintro _ h _ ⟨v1, rfl, v1a, v1b, hI, rfl⟩
      refine y_if_ne kX7_plane rfl rfl (fun c2 => ?_) (fun c2 => ?_)
      · refine y_run kX7_plane rfl ?_
        exact s_plane2 hf p1 p2 x1 x2 (by omega) (by omega) (fun a u5 u6 h y1 y2 hI => by
          refine y_run kX7_plane rfl ?_
          exact ih _ _ _ _ _ (by omega) (by omega) (by omega) (by omega) (by omega) hI) _ 0 _ _ _ (Nat.lt_succ_self _) (by omega) (by omega) (by omega) (by omega) hI
      · refine y_run kX7_plane rfl ?_
        exact ih _ _ _ _ _ (by omega) (by omega) (by omega) (by omega) (by omega) hI
theorem w_plane {b : Nat} {g : yH} {i0 i1 i2 i3 i4 i5 i6 : Int} {B J : Nat → Int} (hf : RF b g B J i0 i1 i2 i3 i4 i5 i6) {p x : Int} (p1 : 0 ≤ p) (p2 : p < 128) (x1 : 0 ≤ x) (x2 : x < 3) (hI : MI b g h) : YM l G mX7_plane 1 0 0 [vr (b + 540), vi p, vi x] h n (PZ b g n (-1) 127) := by
  refine YM.of kX7_plane (Nat.le_of_ble_eq_true rfl) (L0 := [some (vr (b + 540)), some (vi p), some (vi x), none, none, none, none]) rfl ?_
  obtain ⟨hm, hB, hJ, hBb, hBs, hBc, hJb, hi1, hi2, hi3, hi4⟩ := id hf
  refine y_run kX7_plane rfl ?_
  exact s_plane1 hf p1 p2 x1 x2 _ 0 _ _ _ _ (Nat.lt_succ_self _) (by omega) (by omega) (by omega) (by omega) hI
theorem s_isCut {b : Nat} {g : yH} {i0 i1 i2 i3 i4 i5 i6 : Int} {B J : Nat → Int} (hf : RF b g B J i0 i1 i2 i3 i4 i5 i6) {p : Int} (p1 : 0 ≤ p) (p2 : p < 24) (k1 : 24 ≤ i6) (k2 : i6 ≤ 128) : ∀ (m : Nat) (q : Int) (h : yH), (i6 - q).toNat < m → 24 ≤ q → q ≤ i6 → MI b g h → YW l G mX7_isCut 0 0 0 (PZ b g n 0 1) 3 [some (vr (b + 540)), some (vi p), some (vi q)] [] h n := by
  intro m
  induction m with
  | zero => intro q h hm; exact absurd hm (Nat.not_lt_zero _)
  | succ m ih =>
    intro q h hmm j0 j1 hI
    obtain ⟨hm, hB, hJ, hBb, hBs, hBc, hJb, hi1, hi2, hi3, hi4⟩ := id hf
    refine y_run kX7_isCut rfl ?_
    refine m_get kX7_isCut (540) hI hm ?_
    refine y_ic_ge kX7_isCut rfl rfl (fun c1 => ?_) (fun c1 => ?_)
    · refine y_run kX7_isCut rfl ?_
      exact y_zr kX7_isCut rfl rfl (by omega) ⟨_, rfl, by omega, by omega, hI, rfl⟩
    · refine y_run kX7_isCut rfl ?_
      refine m_get kX7_isCut (540) hI hm ?_
      refine y_run kX7_isCut rfl ?_
      refine m_ia kX7_isCut (545) hI rfl (fun v1 v1a v1b => ?_)
      refine y_run kX7_isCut rfl ?_
      refine y_ic_ne kX7_isCut rfl rfl (fun c2 => ?_) (fun c2 => ?_)
      · refine y_run kX7_isCut rfl ?_
        exact ih _ _ (by omega) (by omega) (by omega) hI
      · refine y_run kX7_isCut rfl ?_
        exact y_zr kX7_isCut rfl rfl (by omega) ⟨_, rfl, by omega, by omega, hI, rfl⟩
theorem w_isCut {b : Nat} {g : yH} {i0 i1 i2 i3 i4 i5 i6 : Int} {B J : Nat → Int} (hf : RF b g B J i0 i1 i2 i3 i4 i5 i6) {p : Int} (p1 : 0 ≤ p) (p2 : p < 24) (k1 : 24 ≤ i6) (k2 : i6 ≤ 128) (hI : MI b g h) : YM l G mX7_isCut 0 0 0 [vr (b + 540), vi p] h n (PZ b g n 0 1) := by
  refine YM.of kX7_isCut (Nat.le_of_ble_eq_true rfl) (L0 := [some (vr (b + 540)), some (vi p), none]) rfl ?_
  obtain ⟨hm, hB, hJ, hBb, hBs, hBc, hJb, hi1, hi2, hi3, hi4⟩ := id hf
  refine y_run kX7_isCut rfl ?_
  exact s_isCut hf p1 p2 k1 k2 _ 24 _ (Nat.lt_succ_self _) (by omega) (by omega) hI
end C64
end
section
section C65
variable {l : Launch} {G : xG} {h : yH} {n : Nat}
theorem w_mpiece {b : Nat} {g : yH} {i0 i1 i2 i3 i4 i5 i6 : Int} {B J : Nat → Int} (hf : RF b g B J i0 i1 i2 i3 i4 i5 i6) {p q : Int} (p1 : -2147483648 ≤ p) (p2 : p < 2147483648) (q1 : -2147483648 ≤ q) (q2 : q < 2147483648) (hI : MI b g h) : YM l G mX7_piece 1 0 0 [vr (b + 540), vi p, vi q] h n (PZ b g n (-2147483648) 2147483647) := by
  refine YM.of kX7_piece (Nat.le_of_ble_eq_true rfl) (L0 := [some (vr (b + 540)), some (vi p), some (vi q)]) rfl ?_
  obtain ⟨hm, hB, hJ, hBb, hBs, hBc, hJb, hi1, hi2, hi3, hi4⟩ := id hf
  refine y_run kX7_piece rfl ?_
  refine m_get kX7_piece (540) hI hm ?_
  refine y_cs kX7_piece kX7_in 2 rfl (by decide +kernel) (c_in _ _ ⟨by omega, by omega⟩ ⟨by omega, by omega⟩) rfl rfl ?_
  rintro _ _ _ ⟨rfl, rfl, rfl⟩
  refine y_beq kX7_piece rfl rfl (fun c1 => ?_) (fun c1 => ?_)
  · refine y_run kX7_piece rfl ?_
    exact y_ir kX7_piece rfl rfl ⟨_, rfl, by omega, by omega, hI, rfl⟩
  · refine y_run kX7_piece rfl ?_
    refine y_cs kX7_piece kX7_in 2 rfl (by decide +kernel) (c_in _ _ ⟨by omega, by omega⟩ ⟨by omega, by omega⟩) rfl rfl ?_
    rintro _ _ _ ⟨rfl, rfl, rfl⟩
    refine y_beq kX7_piece rfl rfl (fun c2 => ?_) (fun c2 => ?_)
    · refine y_run kX7_piece rfl ?_
      exact y_ir kX7_piece rfl rfl ⟨_, rfl, by omega, by omega, hI, rfl⟩
    · refine y_run kX7_piece rfl ?_
      refine m_get kX7_piece (540) hI hm ?_
      refine y_run kX7_piece rfl ?_
      refine m_ia kX7_piece (550) hI rfl (fun v3 v3a v3b => ?_)
      refine y_run kX7_piece rfl ?_
      exact y_ir kX7_piece rfl rfl ⟨_, rfl, by omega, by omega, hI, rfl⟩
theorem w_mpixel {b : Nat} {g : yH} {i0 i1 i2 i3 i4 i5 i6 : Int} {B J : Nat → Int} (hf : RF b g B J i0 i1 i2 i3 i4 i5 i6) {p q r : Int} (p1 : -2147483648 ≤ p) (p2 : p < 2147483648) (q1 : -2147483648 ≤ q) (q2 : q < 2147483648) (r1 : -2147483648 ≤ r) (r2 : r < 2147483648) (hI : MI b g h) : YM l G mX7_pixel 2 0 0 [vr (b + 540), vi p, vi q, vi r] h n (PZ b g n (-2147483648) 2147483647) := by
  refine YM.of kX7_pixel (Nat.le_of_ble_eq_true rfl) (L0 := [some (vr (b + 540)), some (vi p), some (vi q), some (vi r), none, none]) rfl ?_
  obtain ⟨hm, hB, hJ, hBb, hBs, hBc, hJb, hi1, hi2, hi3, hi4⟩ := id hf
  refine y_run kX7_pixel rfl ?_
  refine y_cs kX7_pixel kX7_pixelOf 2 rfl (by decide +kernel) (c_mpixelOf ⟨by omega, by omega⟩ ⟨by omega, by omega⟩) rfl rfl ?_
  rintro _ _ _ ⟨rfl, rfl, rfl⟩
  refine YW.gz (pxb _ _) (fun v1 v1a v1b => ?_)
  refine y_run kX7_pixel rfl ?_
  refine y_ic_eq kX7_pixel rfl rfl (fun c1 => ?_) (fun c1 => ?_)
  · refine y_run kX7_pixel rfl ?_
    exact y_ir kX7_pixel rfl rfl ⟨_, rfl, by omega, by omega, hI, rfl⟩
  · refine y_run kX7_pixel rfl ?_
    refine y_cs kX7_pixel kX7_in 2 rfl (by decide +kernel) (c_in _ _ ⟨by omega, by omega⟩ ⟨by omega, by omega⟩) rfl rfl ?_
    rintro _ _ _ ⟨rfl, rfl, rfl⟩
    refine y_beq kX7_pixel rfl rfl (fun c2 => ?_) (fun c2 => ?_)
    · refine y_run kX7_pixel rfl ?_
      exact y_ir kX7_pixel rfl rfl ⟨_, rfl, by omega, by omega, hI, rfl⟩
    · refine y_run kX7_pixel rfl ?_
      refine m_get kX7_pixel (540) hI hm ?_
      refine y_if_ne kX7_pixel rfl rfl (fun c3 => ?_) (fun c3 => ?_)
      · refine y_run kX7_pixel rfl ?_
        refine y_ic_ne kX7_pixel rfl rfl (fun c4 => ?_) (fun c4 => ?_)
        · refine y_run kX7_pixel rfl ?_
          refine m_get kX7_pixel (540) hI hm ?_
          refine y_run kX7_pixel rfl ?_
          refine m_ia kX7_pixel (551) hI rfl (fun v3 v3a v3b => ?_)
          refine y_run kX7_pixel rfl ?_
          refine y_ic_ne kX7_pixel rfl rfl (fun c5 => ?_) (fun c5 => ?_)
          · refine y_run kX7_pixel rfl ?_
            refine y_if_ne kX7_pixel rfl rfl (fun c6 => ?_) (fun c6 => ?_)
            · refine y_run kX7_pixel rfl ?_
              refine y_ic_ne kX7_pixel rfl rfl (fun c7 => ?_) (fun c7 => ?_)
              · refine y_run kX7_pixel rfl ?_
                refine y_idiv kX7_pixel rfl (by omega) (by omega) (by omega) (by omega) ?_
                exact y_ir kX7_pixel rfl rfl ⟨_, rfl, by omega, by omega, hI, rfl⟩
              · refine y_run kX7_pixel rfl ?_
                refine y_idiv kX7_pixel rfl (by omega) (by omega) (by omega) (by omega) ?_
                refine y_run kX7_pixel rfl ?_
                refine y_irem kX7_pixel rfl (by omega) (by omega) (by omega) (by omega) ?_
                refine y_run kX7_pixel rfl ?_
                exact y_ir kX7_pixel rfl rfl ⟨_, rfl, by omega, by omega, hI, rfl⟩
            · refine y_run kX7_pixel rfl ?_
              refine y_irem kX7_pixel rfl (by omega) (by omega) (by omega) (by omega) ?_
              refine y_run kX7_pixel rfl ?_
              exact y_ir kX7_pixel rfl rfl ⟨_, rfl, by omega, by omega, hI, rfl⟩
          · refine y_run kX7_pixel rfl ?_
            exact y_ir kX7_pixel rfl rfl ⟨_, rfl, by omega, by omega, hI, rfl⟩
        · refine y_run kX7_pixel rfl ?_
          refine m_get kX7_pixel (540) hI hm ?_
          refine y_run kX7_pixel rfl ?_
          refine m_ia kX7_pixel (553) hI rfl (fun v4 v4a v4b => ?_)
          exact y_ir kX7_pixel rfl rfl ⟨_, rfl, by omega, by omega, hI, rfl⟩
      · refine y_run kX7_pixel rfl ?_
        exact y_ir kX7_pixel rfl rfl ⟨_, rfl, by omega, by omega, hI, rfl⟩
theorem s_mseen {b : Nat} {g : yH} {i0 i1 i2 i3 i4 i5 i6 : Int} {B J : Nat → Int} (hf : RF b g B J i0 i1 i2 i3 i4 i5 i6) {p : Int} (p1 : -2147483648 ≤ p) (p2 : p < 2147483648) : ∀ (m : Nat) (q : Int) (a : Int) (h : yH), (8192 - q).toNat < m → 0 ≤ q → q ≤ 8192 → 0 ≤ a → a ≤ q → MI b g h → YW l G mX7_seen 0 0 0 (PZ b g n (-2147483648) 2147483647) 4 [some (vr (b + 540)), some (vi p), some (vi a), some (vi q)] [] h n := by
  intro m
  induction m with
  | zero => intro q a h hm; exact absurd hm (Nat.not_lt_zero _)
  | succ m ih =>
    intro q a h hmm j0 j1 j2 j3 hI
    obtain ⟨hm, hB, hJ, hBb, hBs, hBc, hJb, hi1, hi2, hi3, hi4⟩ := id hf
    obtain ⟨F, eF, hF⟩ := hI.i (k := 551) rfl
    have hF0 := hF q.toNat
    refine y_run kX7_seen rfl ?_
    refine y_ic_ge kX7_seen rfl rfl (fun c1 => ?_) (fun c1 => ?_)
    · refine y_run kX7_seen rfl ?_
      exact y_ir kX7_seen rfl rfl ⟨_, rfl, by omega, by omega, hI, rfl⟩
    · refine y_run kX7_seen rfl ?_
      refine m_get kX7_seen (540) hI hm ?_
      refine y_run kX7_seen rfl ?_
      refine y_ia kX7_seen rfl eF (by omega) (by omega) ?_
      refine y_run kX7_seen rfl ?_
      refine y_ic_eq kX7_seen rfl rfl (fun c2 => ?_) (fun c2 => ?_)
      · refine y_run kX7_seen rfl ?_
        exact ih _ _ _ (by omega) (by omega) (by omega) (by omega) (by omega) hI
      · refine y_run kX7_seen rfl ?_
        refine m_get kX7_seen (540) hI hm ?_
        refine y_run kX7_seen rfl ?_
        refine y_ia kX7_seen rfl eF (by omega) (by omega) ?_
        refine y_run kX7_seen rfl ?_
        refine y_irem kX7_seen rfl (by omega) (by omega) (by omega) (by omega) ?_
        refine y_run kX7_seen rfl ?_
        refine y_ic_ne kX7_seen rfl rfl (fun c3 => ?_) (fun c3 => ?_)
        · refine y_run kX7_seen rfl ?_
          exact ih _ _ _ (by omega) (by omega) (by omega) (by omega) (by omega) hI
        · refine y_run kX7_seen rfl ?_
          exact ih _ _ _ (by omega) (by omega) (by omega) (by omega) (by omega) hI
theorem w_mseen {b : Nat} {g : yH} {i0 i1 i2 i3 i4 i5 i6 : Int} {B J : Nat → Int} (hf : RF b g B J i0 i1 i2 i3 i4 i5 i6) {p : Int} (p1 : -2147483648 ≤ p) (p2 : p < 2147483648) (hI : MI b g h) : YM l G mX7_seen 0 0 0 [vr (b + 540), vi p] h n (PZ b g n (-2147483648) 2147483647) := by
  refine YM.of kX7_seen (Nat.le_of_ble_eq_true rfl) (L0 := [some (vr (b + 540)), some (vi p), none, none]) rfl ?_
  obtain ⟨hm, hB, hJ, hBb, hBs, hBc, hJb, hi1, hi2, hi3, hi4⟩ := id hf
  refine y_run kX7_seen rfl ?_
  exact s_mseen hf p1 p2 _ 0 0 _ (Nat.lt_succ_self _) (by omega) (by omega) (by omega) (by omega) hI
theorem s_mchanged {b : Nat} {g : yH} {i0 i1 i2 i3 i4 i5 i6 : Int} {B J : Nat → Int} (hf : RF b g B J i0 i1 i2 i3 i4 i5 i6) {p : Int} (p1 : -2147483648 ≤ p) (p2 : p < 2147483648) (p3 : 0 ≤ p) (p4 : p < 5) : ∀ (m : Nat) (q : Int) (a : Int) (x : Int) (y : Int) (u6 : Option xV) (h : yH), (8192 - q).toNat < m → 0 ≤ q → q ≤ 8192 → 0 ≤ a → a ≤ q → -1000 ≤ x → x ≤ 1000 → -1000 ≤ y → y ≤ 1000 → MI b g h → YW l G mX7_changed 1 0 0 (PZ b g n (-2147483648) 2147483647) 22 [some (vr (b + 540)), some (vi p), some (vi a), some (vi x), some (vi y), some (vi q), u6] [] h n := by
  intro m
  induction m with
  | zero => intro q a x y u6 h hm; exact absurd hm (Nat.not_lt_zero _)
  | succ m ih =>
    intro q a x y u6 h hmm j0 j1 j2 j3 j4 j5 j6 j7 hI
    obtain ⟨hm, hB, hJ, hBb, hBs, hBc, hJb, hi1, hi2, hi3, hi4⟩ := id hf
    refine y_run kX7_changed rfl ?_
    refine y_ic_ge kX7_changed rfl rfl (fun c1 => ?_) (fun c1 => ?_)
    · refine y_run kX7_changed rfl ?_
      refine y_if_ne kX7_changed rfl rfl (fun c2 => ?_) (fun c2 => ?_)
      · refine y_run kX7_changed rfl ?_
        refine y_irem kX7_changed rfl (by omega) (by omega) (by omega) (by omega) ?_
        refine y_run kX7_changed rfl ?_
        refine y_ic_ne kX7_changed rfl rfl (fun c3 => ?_) (fun c3 => ?_)
        · refine y_run kX7_changed rfl ?_
          exact y_ir kX7_changed rfl rfl ⟨_, rfl, by omega, by omega, hI, rfl⟩
        · refine y_run kX7_changed rfl ?_
          exact y_ir kX7_changed rfl rfl ⟨_, rfl, by omega, by omega, hI, rfl⟩
      · refine y_run kX7_changed rfl ?_
        exact y_ir kX7_changed rfl rfl ⟨_, rfl, by omega, by omega, hI, rfl⟩
    · refine y_run kX7_changed rfl ?_
      refine m_get kX7_changed (540) hI hm ?_
      refine y_run kX7_changed rfl ?_
      refine m_ia kX7_changed (551) hI rfl (fun v1 v1a v1b => ?_)
      refine y_run kX7_changed rfl ?_
      refine m_get kX7_changed (540) hI hm ?_
      refine y_run kX7_changed rfl ?_
      refine m_ia kX7_changed (552) hI rfl (fun v2 v2a v2b => ?_)
      refine y_ic_ne kX7_changed rfl rfl (fun c4 => ?_) (fun c4 => ?_)
      · refine y_run kX7_changed rfl ?_
        refine y_ic_ge kX7_changed rfl rfl (fun c5 => ?_) (fun c5 => ?_)
        · refine y_run kX7_changed rfl ?_
          refine y_idiv kX7_changed rfl (by omega) (by omega) (by omega) (by omega) ?_
          refine y_run kX7_changed rfl ?_
          refine y_if_eq kX7_changed rfl rfl (fun c6 => ?_) (fun c6 => ?_)
          · refine y_run kX7_changed rfl ?_
            refine y_if_eq kX7_changed rfl rfl (fun c7 => ?_) (fun c7 => ?_)
            · refine y_run kX7_changed rfl ?_
              exact ih _ _ _ _ _ _ (by omega) (by omega) (by omega) (by omega) (by omega) (by omega) (by omega) (by omega) (by omega) hI
            · refine y_run kX7_changed rfl ?_
              refine y_ic_le kX7_changed rfl rfl (fun c8 => ?_) (fun c8 => ?_)
              · refine y_run kX7_changed rfl ?_
                exact ih _ _ _ _ _ _ (by omega) (by omega) (by omega) (by omega) (by omega) (by omega) (by omega) (by omega) (by omega) hI
              · refine y_run kX7_changed rfl ?_
                exact ih _ _ _ _ _ _ (by omega) (by omega) (by omega) (by omega) (by omega) (by omega) (by omega) (by omega) (by omega) hI
          · refine y_run kX7_changed rfl ?_
            refine y_ic_ge kX7_changed rfl rfl (fun c9 => ?_) (fun c9 => ?_)
            · refine y_run kX7_changed rfl ?_
              refine y_if_eq kX7_changed rfl rfl (fun c10 => ?_) (fun c10 => ?_)
              · refine y_run kX7_changed rfl ?_
                exact ih _ _ _ _ _ _ (by omega) (by omega) (by omega) (by omega) (by omega) (by omega) (by omega) (by omega) (by omega) hI
              · refine y_run kX7_changed rfl ?_
                refine y_ic_le kX7_changed rfl rfl (fun c11 => ?_) (fun c11 => ?_)
                · refine y_run kX7_changed rfl ?_
                  exact ih _ _ _ _ _ _ (by omega) (by omega) (by omega) (by omega) (by omega) (by omega) (by omega) (by omega) (by omega) hI
                · refine y_run kX7_changed rfl ?_
                  exact ih _ _ _ _ _ _ (by omega) (by omega) (by omega) (by omega) (by omega) (by omega) (by omega) (by omega) (by omega) hI
            · refine y_run kX7_changed rfl ?_
              refine y_if_eq kX7_changed rfl rfl (fun c12 => ?_) (fun c12 => ?_)
              · refine y_run kX7_changed rfl ?_
                exact ih _ _ _ _ _ _ (by omega) (by omega) (by omega) (by omega) (by omega) (by omega) (by omega) (by omega) (by omega) hI
              · refine y_run kX7_changed rfl ?_
                refine y_ic_le kX7_changed rfl rfl (fun c13 => ?_) (fun c13 => ?_)
                · refine y_run kX7_changed rfl ?_
                  exact ih _ _ _ _ _ _ (by omega) (by omega) (by omega) (by omega) (by omega) (by omega) (by omega) (by omega) (by omega) hI
                · refine y_run kX7_changed rfl ?_
                  exact ih _ _ _ _ _ _ (by omega) (by omega) (by omega) (by omega) (by omega) (by omega) (by omega) (by omega) (by omega) hI
        · refine y_run kX7_changed rfl ?_
          refine y_irem kX7_changed rfl (by omega) (by omega) (by omega) (by omega) ?_
          refine y_run kX7_changed rfl ?_
          refine y_if_eq kX7_changed rfl rfl (fun c14 => ?_) (fun c14 => ?_)
          · refine y_run kX7_changed rfl ?_
            refine y_if_eq kX7_changed rfl rfl (fun c15 => ?_) (fun c15 => ?_)
            · refine y_run kX7_changed rfl ?_
              exact ih _ _ _ _ _ _ (by omega) (by omega) (by omega) (by omega) (by omega) (by omega) (by omega) (by omega) (by omega) hI
            · refine y_run kX7_changed rfl ?_
              refine y_ic_le kX7_changed rfl rfl (fun c16 => ?_) (fun c16 => ?_)
              · refine y_run kX7_changed rfl ?_
                exact ih _ _ _ _ _ _ (by omega) (by omega) (by omega) (by omega) (by omega) (by omega) (by omega) (by omega) (by omega) hI
              · refine y_run kX7_changed rfl ?_
                exact ih _ _ _ _ _ _ (by omega) (by omega) (by omega) (by omega) (by omega) (by omega) (by omega) (by omega) (by omega) hI
          · refine y_run kX7_changed rfl ?_
            refine y_ic_ge kX7_changed rfl rfl (fun c17 => ?_) (fun c17 => ?_)
            · refine y_run kX7_changed rfl ?_
              refine y_if_eq kX7_changed rfl rfl (fun c18 => ?_) (fun c18 => ?_)
              · refine y_run kX7_changed rfl ?_
                exact ih _ _ _ _ _ _ (by omega) (by omega) (by omega) (by omega) (by omega) (by omega) (by omega) (by omega) (by omega) hI
              · refine y_run kX7_changed rfl ?_
                refine y_ic_le kX7_changed rfl rfl (fun c19 => ?_) (fun c19 => ?_)
                · refine y_run kX7_changed rfl ?_
                  exact ih _ _ _ _ _ _ (by omega) (by omega) (by omega) (by omega) (by omega) (by omega) (by omega) (by omega) (by omega) hI
                · refine y_run kX7_changed rfl ?_
                  exact ih _ _ _ _ _ _ (by omega) (by omega) (by omega) (by omega) (by omega) (by omega) (by omega) (by omega) (by omega) hI
            · refine y_run kX7_changed rfl ?_
              refine y_if_eq kX7_changed rfl rfl (fun c20 => ?_) (fun c20 => ?_)
              · refine y_run kX7_changed rfl ?_
                exact ih _ _ _ _ _ _ (by omega) (by omega) (by omega) (by omega) (by omega) (by omega) (by omega) (by omega) (by omega) hI
              · refine y_run kX7_changed rfl ?_
                refine y_ic_le kX7_changed rfl rfl (fun c21 => ?_) (fun c21 => ?_)
                · refine y_run kX7_changed rfl ?_
                  exact ih _ _ _ _ _ _ (by omega) (by omega) (by omega) (by omega) (by omega) (by omega) (by omega) (by omega) (by omega) hI
                · refine y_run kX7_changed rfl ?_
                  exact ih _ _ _ _ _ _ (by omega) (by omega) (by omega) (by omega) (by omega) (by omega) (by omega) (by omega) (by omega) hI
      · refine y_run kX7_changed rfl ?_
        exact ih _ _ _ _ _ _ (by omega) (by omega) (by omega) (by omega) (by omega) (by omega) (by omega) (by omega) (by omega) hI
theorem w_mchanged {b : Nat} {g : yH} {i0 i1 i2 i3 i4 i5 i6 : Int} {B J : Nat → Int} (hf : RF b g B J i0 i1 i2 i3 i4 i5 i6) {p : Int} (p1 : -2147483648 ≤ p) (p2 : p < 2147483648) (hI : MI b g h) : YM l G mX7_changed 1 0 0 [vr (b + 540), vi p] h n (PZ b g n (-2147483648) 2147483647) := by
  refine YM.of kX7_changed (Nat.le_of_ble_eq_true rfl) (L0 := [some (vr (b + 540)), some (vi p), none, none, none, none, none]) rfl ?_
  obtain ⟨hm, hB, hJ, hBb, hBs, hBc, hJb, hi1, hi2, hi3, hi4⟩ := id hf
  refine y_run kX7_changed rfl ?_
  refine y_cs kX7_changed kX7_in 2 rfl (by decide +kernel) (c_in _ _ ⟨by omega, by omega⟩ ⟨by omega, by omega⟩) rfl rfl ?_
  rintro _ _ _ ⟨rfl, rfl, rfl⟩
  refine y_bne kX7_changed rfl rfl (fun c1 => ?_) (fun c1 => ?_)
  · refine y_run kX7_changed rfl ?_
    exact s_mchanged hf p1 p2 (by omega) (by omega) _ 0 0 100 100 _ _ (Nat.lt_succ_self _) (by omega) (by omega) (by omega) (by omega) (by omega) (by omega) (by omega) (by omega) hI
  · refine y_run kX7_changed rfl ?_
    exact y_ir kX7_changed rfl rfl ⟨_, rfl, by omega, by omega, hI, rfl⟩
theorem s_mcount {b : Nat} {g : yH} {i0 i1 i2 i3 i4 i5 i6 : Int} {B J : Nat → Int} (hf : RF b g B J i0 i1 i2 i3 i4 i5 i6) {p : Int} (p1 : -2147483648 ≤ p) (p2 : p < 2147483648) : ∀ (m : Nat) (q : Int) (a : Int) (h : yH), (24 - q).toNat < m → 0 ≤ q → q ≤ 24 → 0 ≤ a → a ≤ q → MI b g h → YW l G mX7_count 2 0 0 (PZ b g n (-2147483648) 2147483647) 4 [some (vr (b + 540)), some (vi p), some (vi a), some (vi q)] [] h n := by
  intro m
  induction m with
  | zero => intro q a h hm; exact absurd hm (Nat.not_lt_zero _)
  | succ m ih =>
    intro q a h hmm j0 j1 j2 j3 hI
    obtain ⟨hm, hB, hJ, hBb, hBs, hBc, hJb, hi1, hi2, hi3, hi4⟩ := id hf
    refine y_run kX7_count rfl ?_
    refine y_ic_ge kX7_count rfl rfl (fun c1 => ?_) (fun c1 => ?_)
    · refine y_run kX7_count rfl ?_
      by_cases tz : p < 0 ∨ 6 < p
      · refine y_tout kX7_count rfl tz rfl ?_
        refine y_run kX7_count rfl ?_
        refine YW.nr1 ?_
        exact y_ir kX7_count rfl rfl ⟨_, rfl, (nrm_rng _).1, (nrm_rng _).2, hI, rfl⟩
      rcases (show p = 0 ∨ p = 1 ∨ p = 2 ∨ p = 3 ∨ p = 4 ∨ p = 5 ∨ p = 6 by omega) with rfl | rfl | rfl | rfl | rfl | rfl | rfl
      · refine y_tin kX7_count rfl rfl rfl ?_
        refine y_run kX7_count rfl ?_
        refine m_get kX7_count (540) hI hm ?_
        refine YW.nr1 ?_
        exact y_ir kX7_count rfl rfl ⟨_, rfl, (nrm_rng _).1, (nrm_rng _).2, hI, rfl⟩
      · refine y_tin kX7_count rfl rfl rfl ?_
        refine y_run kX7_count rfl ?_
        refine m_get kX7_count (540) hI hm ?_
        refine YW.nr1 ?_
        exact y_ir kX7_count rfl rfl ⟨_, rfl, (nrm_rng _).1, (nrm_rng _).2, hI, rfl⟩
      · refine y_tin kX7_count rfl rfl rfl ?_
        refine y_run kX7_count rfl ?_
        refine m_get kX7_count (540) hI hm ?_
        refine YW.nr1 ?_
        exact y_ir kX7_count rfl rfl ⟨_, rfl, (nrm_rng _).1, (nrm_rng _).2, hI, rfl⟩
      · refine y_tin kX7_count rfl rfl rfl ?_
        refine y_run kX7_count rfl ?_
        refine m_get kX7_count (540) hI hm ?_
        refine YW.nr1 ?_
        exact y_ir kX7_count rfl rfl ⟨_, rfl, (nrm_rng _).1, (nrm_rng _).2, hI, rfl⟩
      · refine y_tin kX7_count rfl rfl rfl ?_
        refine y_run kX7_count rfl ?_
        refine m_get kX7_count (540) hI hm ?_
        refine YW.nr1 ?_
        exact y_ir kX7_count rfl rfl ⟨_, rfl, (nrm_rng _).1, (nrm_rng _).2, hI, rfl⟩
      · refine y_tin kX7_count rfl rfl rfl ?_
        refine y_run kX7_count rfl ?_
        refine YW.nr1 ?_
        exact y_ir kX7_count rfl rfl ⟨_, rfl, (nrm_rng _).1, (nrm_rng _).2, hI, rfl⟩
      · refine y_tin kX7_count rfl rfl rfl ?_
        refine y_run kX7_count rfl ?_
        refine m_get kX7_count (540) hI hm ?_
        refine YW.nr1 ?_
        exact y_ir kX7_count rfl rfl ⟨_, rfl, (nrm_rng _).1, (nrm_rng _).2, hI, rfl⟩
    · refine y_run kX7_count rfl ?_
      refine y_cv kX7_count kX7_isThere 1 rfl (hI.x (k := 540) rfl hm) (by decide +kernel) (c_isThere (hI.x (k := 540) rfl hm) (hI.x (k := 541) rfl hB) (fun j => ⟨by have := hBb j; omega, by have := hBb j; omega⟩) ⟨by omega, by omega⟩) rfl rfl ?_
      rintro _ _ _ ⟨hr, rfl, rfl⟩
      obtain ⟨v1, rfl, v1a, v1b, v1c⟩ := is01 hr
      refine y_if_eq kX7_count rfl rfl (fun c2 => ?_) (fun c2 => ?_)
      · refine y_run kX7_count rfl ?_
        exact ih _ _ _ (by omega) (by omega) (by omega) (by omega) (by omega) hI
      · refine y_run kX7_count rfl ?_
        exact ih _ _ _ (by omega) (by omega) (by omega) (by omega) (by omega) hI
theorem w_mcount {b : Nat} {g : yH} {i0 i1 i2 i3 i4 i5 i6 : Int} {B J : Nat → Int} (hf : RF b g B J i0 i1 i2 i3 i4 i5 i6) {p : Int} (p1 : -2147483648 ≤ p) (p2 : p < 2147483648) (hI : MI b g h) : YM l G mX7_count 2 0 0 [vr (b + 540), vi p] h n (PZ b g n (-2147483648) 2147483647) := by
  refine YM.of kX7_count (Nat.le_of_ble_eq_true rfl) (L0 := [some (vr (b + 540)), some (vi p), none, none]) rfl ?_
  obtain ⟨hm, hB, hJ, hBb, hBs, hBc, hJb, hi1, hi2, hi3, hi4⟩ := id hf
  refine y_run kX7_count rfl ?_
  exact s_mcount hf p1 p2 _ 0 0 _ (Nat.lt_succ_self _) (by omega) (by omega) (by omega) (by omega) hI
theorem s_mcovers {b : Nat} {g : yH} {i0 i1 i2 i3 i4 i5 i6 : Int} {B J : Nat → Int} (hf : RF b g B J i0 i1 i2 i3 i4 i5 i6) {p q : Int} (p1 : -2147483648 ≤ p) (p2 : p < 2147483648) (q1 : -2147483648 ≤ q) (q2 : q < 2147483648) : ∀ (m : Nat) (r : Int) (a : Int) (u5 : Option xV) (u6 : Option xV) (h : yH), (8192 - r).toNat < m → 0 ≤ r → r ≤ 8192 → 0 ≤ a → a ≤ r → MI b g h → YW l G mX7_covers 3 0 0 (PZ b g n (-2147483648) 2147483647) 28 [some (vr (b + 540)), some (vi p), some (vi q), some (vi a), some (vi r), u5, u6] [] h n := by
  intro m
  induction m with
  | zero => intro r a u5 u6 h hm; exact absurd hm (Nat.not_lt_zero _)
  | succ m ih =>
    intro r a u5 u6 h hmm j0 j1 j2 j3 hI
    obtain ⟨hm, hB, hJ, hBb, hBs, hBc, hJb, hi1, hi2, hi3, hi4⟩ := id hf
    refine y_run kX7_covers rfl ?_
    refine y_ic_ge kX7_covers rfl rfl (fun c1 => ?_) (fun c1 => ?_)
    · refine y_run kX7_covers rfl ?_
      exact y_ir kX7_covers rfl rfl ⟨_, rfl, by omega, by omega, hI, rfl⟩
    · refine y_run kX7_covers rfl ?_
      refine y_cv kX7_covers kX7_exitOf 2 rfl (hI.x (k := 540) rfl hm) (by decide +kernel) (c_mexitOf hf ⟨by omega, by omega⟩ (by omega) (by omega) hI) rfl rfl ?_
      rintro _ _ _ ⟨rfl, rfl, rfl⟩
      obtain ⟨v1a, v1b, v1c⟩ := mexO_b hBb _ _
      revert v1a v1b v1c
      generalize mexO B _ _ = v1
      intro v1a v1b v1c
      refine y_run kX7_covers rfl ?_
      refine y_cv kX7_covers kX7_exitOf 2 rfl (hI.x (k := 540) rfl hm) (by decide +kernel) (c_mexitOf hf ⟨by omega, by omega⟩ (by omega) (by omega) hI) rfl rfl ?_
      rintro _ _ _ ⟨rfl, rfl, rfl⟩
      obtain ⟨v2a, v2b, v2c⟩ := mexO_b hBb _ _
      revert v2a v2b v2c
      generalize mexO B _ _ = v2
      intro v2a v2b v2c
      refine y_run kX7_covers rfl ?_
      refine y_if_le kX7_covers rfl rfl (fun c2 => ?_) (fun c2 => ?_)
      · refine y_run kX7_covers rfl ?_
        exact ih _ _ _ _ _ (by omega) (by omega) (by omega) (by omega) (by omega) hI
      · refine y_run kX7_covers rfl ?_
        refine y_if_le kX7_covers rfl rfl (fun c3 => ?_) (fun c3 => ?_)
        · refine y_run kX7_covers rfl ?_
          exact ih _ _ _ _ _ (by omega) (by omega) (by omega) (by omega) (by omega) hI
        · refine y_run kX7_covers rfl ?_
          refine y_ic_le kX7_covers rfl rfl (fun c4 => ?_) (fun c4 => ?_)
          · refine y_run kX7_covers rfl ?_
            exact ih _ _ _ _ _ (by omega) (by omega) (by omega) (by omega) (by omega) hI
          · refine y_run kX7_covers rfl ?_
            exact ih _ _ _ _ _ (by omega) (by omega) (by omega) (by omega) (by omega) hI
theorem w_mcovers {b : Nat} {g : yH} {i0 i1 i2 i3 i4 i5 i6 : Int} {B J : Nat → Int} (hf : RF b g B J i0 i1 i2 i3 i4 i5 i6) {p q : Int} (p1 : -2147483648 ≤ p) (p2 : p < 2147483648) (q1 : -2147483648 ≤ q) (q2 : q < 2147483648) (hI : MI b g h) : YM l G mX7_covers 3 0 0 [vr (b + 540), vi p, vi q] h n (PZ b g n (-2147483648) 2147483647) := by
  refine YM.of kX7_covers (Nat.le_of_ble_eq_true rfl) (L0 := [some (vr (b + 540)), some (vi p), some (vi q), none, none, none, none]) rfl ?_
  obtain ⟨hm, hB, hJ, hBb, hBs, hBc, hJb, hi1, hi2, hi3, hi4⟩ := id hf
  refine y_run kX7_covers rfl ?_
  refine y_cv kX7_covers kX7_isThere 1 rfl (hI.x (k := 540) rfl hm) (by decide +kernel) (c_isThere (hI.x (k := 540) rfl hm) (hI.x (k := 541) rfl hB) (fun j => ⟨by have := hBb j; omega, by have := hBb j; omega⟩) ⟨by omega, by omega⟩) rfl rfl ?_
  rintro _ _ _ ⟨hr, rfl, rfl⟩
  obtain ⟨v1, rfl, v1a, v1b, v1c⟩ := is01 hr
  refine y_if_eq kX7_covers rfl rfl (fun c1 => ?_) (fun c1 => ?_)
  · refine y_run kX7_covers rfl ?_
    exact y_ir kX7_covers rfl rfl ⟨_, rfl, by omega, by omega, hI, rfl⟩
  · refine y_run kX7_covers rfl ?_
    refine y_cv kX7_covers kX7_isThere 1 rfl (hI.x (k := 540) rfl hm) (by decide +kernel) (c_isThere (hI.x (k := 540) rfl hm) (hI.x (k := 541) rfl hB) (fun j => ⟨by have := hBb j; omega, by have := hBb j; omega⟩) ⟨by omega, by omega⟩) rfl rfl ?_
    rintro _ _ _ ⟨hr, rfl, rfl⟩
    obtain ⟨v2, rfl, v2a, v2b, v2c⟩ := is01 hr
    refine y_if_eq kX7_covers rfl rfl (fun c2 => ?_) (fun c2 => ?_)
    · refine y_run kX7_covers rfl ?_
      exact y_ir kX7_covers rfl rfl ⟨_, rfl, by omega, by omega, hI, rfl⟩
    · refine y_run kX7_covers rfl ?_
      refine y_ic_ne kX7_covers rfl rfl (fun c3 => ?_) (fun c3 => ?_)
      · refine y_run kX7_covers rfl ?_
        exact s_mcovers hf p1 p2 q1 q2 _ 0 0 _ _ _ (Nat.lt_succ_self _) (by omega) (by omega) (by omega) (by omega) hI
      · refine y_run kX7_covers rfl ?_
        exact y_ir kX7_covers rfl rfl ⟨_, rfl, by omega, by omega, hI, rfl⟩
theorem s_mtangled {b : Nat} {g : yH} {i0 i1 i2 i3 i4 i5 i6 : Int} {B J : Nat → Int} (hf : RF b g B J i0 i1 i2 i3 i4 i5 i6) {p : Int} (p1 : -2147483648 ≤ p) (p2 : p < 2147483648) (p3 : 0 ≤ p) (p4 : p < 24) : ∀ (m : Nat) (q : Int) (a : Int) (h : yH), (24 - q).toNat < m → 0 ≤ q → q ≤ 24 → 0 ≤ a → a ≤ q → MI b g h → YW l G mX7_tangled 4 0 0 (PZ b g n (-2147483648) 2147483647) 22 [some (vr (b + 540)), some (vi p), some (vi a), some (vi q)] [] h n := by
  intro m
  induction m with
  | zero => intro q a h hm; exact absurd hm (Nat.not_lt_zero _)
  | succ m ih =>
    intro q a h hmm j0 j1 j2 j3 hI
    obtain ⟨hm, hB, hJ, hBb, hBs, hBc, hJb, hi1, hi2, hi3, hi4⟩ := id hf
    refine y_run kX7_tangled rfl ?_
    refine y_ic_ge kX7_tangled rfl rfl (fun c1 => ?_) (fun c1 => ?_)
    · refine y_run kX7_tangled rfl ?_
      refine y_if_ne kX7_tangled rfl rfl (fun c2 => ?_) (fun c2 => ?_)
      · refine y_run kX7_tangled rfl ?_
        exact y_ir kX7_tangled rfl rfl ⟨_, rfl, by omega, by omega, hI, rfl⟩
      · refine y_run kX7_tangled rfl ?_
        exact y_ir kX7_tangled rfl rfl ⟨_, rfl, by omega, by omega, hI, rfl⟩
    · refine y_run kX7_tangled rfl ?_
      refine y_cv kX7_tangled kX7_isTangled 2 rfl (hI.x (k := 540) rfl hm) (by decide +kernel) (w_isTangled hf (by omega) (by omega) (by omega) (by omega) hI) rfl rfl ?_
      rintro _ h _ ⟨v1, rfl, v1a, v1b, hI, rfl⟩
      refine y_if_eq kX7_tangled rfl rfl (fun c3 => ?_) (fun c3 => ?_)
      · refine y_run kX7_tangled rfl ?_
        exact ih _ _ _ (by omega) (by omega) (by omega) (by omega) (by omega) hI
      · refine y_run kX7_tangled rfl ?_
        exact ih _ _ _ (by omega) (by omega) (by omega) (by omega) (by omega) hI
theorem w_mtangled {b : Nat} {g : yH} {i0 i1 i2 i3 i4 i5 i6 : Int} {B J : Nat → Int} (hf : RF b g B J i0 i1 i2 i3 i4 i5 i6) {p : Int} (p1 : -2147483648 ≤ p) (p2 : p < 2147483648) (hI : MI b g h) : YM l G mX7_tangled 4 0 0 [vr (b + 540), vi p] h n (PZ b g n (-2147483648) 2147483647) := by
  refine YM.of kX7_tangled (Nat.le_of_ble_eq_true rfl) (L0 := [some (vr (b + 540)), some (vi p), none, none]) rfl ?_
  obtain ⟨hm, hB, hJ, hBb, hBs, hBc, hJb, hi1, hi2, hi3, hi4⟩ := id hf
  refine y_run kX7_tangled rfl ?_
  refine y_cv kX7_tangled kX7_isThere 1 rfl (hI.x (k := 540) rfl hm) (by decide +kernel) (c_isThere (hI.x (k := 540) rfl hm) (hI.x (k := 541) rfl hB) (fun j => ⟨by have := hBb j; omega, by have := hBb j; omega⟩) ⟨by omega, by omega⟩) rfl rfl ?_
  rintro _ _ _ ⟨hr, rfl, rfl⟩
  obtain ⟨v1, rfl, v1a, v1b, v1c⟩ := is01 hr
  refine y_if_ne kX7_tangled rfl rfl (fun c1 => ?_) (fun c1 => ?_)
  · refine y_run kX7_tangled rfl ?_
    refine y_cv kX7_tangled kX7_begin 0 rfl (hI.x (k := 540) rfl hm) (by decide +kernel) (w_begin hf hI) rfl rfl ?_
    rintro _ h _ ⟨rfl, hI, rfl⟩
    refine y_run kX7_tangled rfl ?_
    refine y_cv kX7_tangled kX7_close 0 rfl (hI.x (k := 540) rfl hm) (by decide +kernel) (w_close hf hI) rfl rfl ?_
    rintro _ h _ ⟨rfl, hI, rfl⟩
    refine y_run kX7_tangled rfl ?_
    exact s_mtangled hf p1 p2 (by omega) (by omega) _ 0 0 _ (Nat.lt_succ_self _) (by omega) (by omega) (by omega) (by omega) hI
  · refine y_run kX7_tangled rfl ?_
    exact y_ir kX7_tangled rfl rfl ⟨_, rfl, by omega, by omega, hI, rfl⟩
theorem s_munder2 {b : Nat} {g : yH} {i0 i1 i2 i3 i4 i5 i6 : Int} {B J : Nat → Int} (hf : RF b g B J i0 i1 i2 i3 i4 i5 i6) {p q r : Int} (p1 : -2147483648 ≤ p) (p2 : p < 2147483648) (q1 : -2147483648 ≤ q) (q2 : q < 2147483648) (r1 : -2147483648 ≤ r) (r2 : r < 2147483648) {x y e : Int} (x1 : 0 ≤ x) (x2 : x ≤ 8191) (e1 : 0 ≤ e) (e2 : e ≤ 128) (kk : ∀ (a : Int) (u8 : Option xV) (h : yH), 0 ≤ a → a ≤ (24) → MI b g h → YW l G mX7_under 3 0 0 (PZ b g n (-2147483648) 2147483647) 81 [some (vr (b + 540)), some (vi p), some (vi q), some (vi r), some (vi x), some (vi y), some (vi e), some (vi a), u8] [] h n) : ∀ (m : Nat) (z : Int) (a : Int) (h : yH), (24 - z).toNat < m → 0 ≤ z → z ≤ 24 → 0 ≤ a → a ≤ z → MI b g h → YW l G mX7_under 3 0 0 (PZ b g n (-2147483648) 2147483647) 45 [some (vr (b + 540)), some (vi p), some (vi q), some (vi r), some (vi x), some (vi y), some (vi e), some (vi a), some (vi z)] [] h n := by
  intro m
  induction m with
  | zero => intro z a h hm; exact absurd hm (Nat.not_lt_zero _)
  | succ m ih =>
    intro z a h hmm j0 j1 j2 j3 hI
    obtain ⟨hm, hB, hJ, hBb, hBs, hBc, hJb, hi1, hi2, hi3, hi4⟩ := id hf
    refine y_run kX7_under rfl ?_
    refine y_ic_ge kX7_under rfl rfl (fun c1 => ?_) (fun c1 => ?_)
    · exact kk _ _ _ (by omega) (by omega) hI
    · refine y_run kX7_under rfl ?_
      refine y_cv kX7_under kX7_exitOf 2 rfl (hI.x (k := 540) rfl hm) (by decide +kernel) (c_mexitOf hf ⟨by omega, by omega⟩ (by omega) (by omega) hI) rfl rfl ?_
      rintro _ _ _ ⟨rfl, rfl, rfl⟩
      obtain ⟨v1a, v1b, v1c⟩ := mexO_b hBb _ _
      revert v1a v1b v1c
      generalize mexO B _ _ = v1
      intro v1a v1b v1c
      refine y_run kX7_under rfl ?_
      refine y_ic_le kX7_under rfl rfl (fun c2 => ?_) (fun c2 => ?_)
      · refine y_run kX7_under rfl ?_
        exact ih _ _ _ (by omega) (by omega) (by omega) (by omega) (by omega) hI
      · refine y_run kX7_under rfl ?_
        exact ih _ _ _ (by omega) (by omega) (by omega) (by omega) (by omega) hI
theorem s_munder1 {b : Nat} {g : yH} {i0 i1 i2 i3 i4 i5 i6 : Int} {B J : Nat → Int} (hf : RF b g B J i0 i1 i2 i3 i4 i5 i6) {p q r : Int} (p1 : -2147483648 ≤ p) (p2 : p < 2147483648) (q1 : -2147483648 ≤ q) (q2 : q < 2147483648) (r1 : -2147483648 ≤ r) (r2 : r < 2147483648) {x : Int} (x1 : 0 ≤ x) (x2 : x ≤ 8191) : ∀ (m : Nat) (y : Int) (u6 : Option xV) (u7 : Option xV) (u8 : Option xV) (h : yH), (24 - y).toNat < m → 0 ≤ y → y ≤ 24 → MI b g h → YW l G mX7_under 3 0 0 (PZ b g n (-2147483648) 2147483647) 22 [some (vr (b + 540)), some (vi p), some (vi q), some (vi r), some (vi x), some (vi y), u6, u7, u8] [] h n := by
  intro m
  induction m with
  | zero => intro y u6 u7 u8 h hm; exact absurd hm (Nat.not_lt_zero _)
  | succ m ih =>
    intro y u6 u7 u8 h hmm j0 j1 hI
    obtain ⟨hm, hB, hJ, hBb, hBs, hBc, hJb, hi1, hi2, hi3, hi4⟩ := id hf
    refine y_run kX7_under rfl ?_
    refine y_ic_ge kX7_under rfl rfl (fun c1 => ?_) (fun c1 => ?_)
    · refine y_run kX7_under rfl ?_
      exact y_ir kX7_under rfl rfl ⟨_, rfl, by omega, by omega, hI, rfl⟩
    · refine y_run kX7_under rfl ?_
      refine y_cv kX7_under kX7_exitOf 2 rfl (hI.x (k := 540) rfl hm) (by decide +kernel) (c_mexitOf hf ⟨by omega, by omega⟩ (by omega) (by omega) hI) rfl rfl ?_
      rintro _ _ _ ⟨rfl, rfl, rfl⟩
      obtain ⟨v1a, v1b, v1c⟩ := mexO_b hBb _ _
      revert v1a v1b v1c
      generalize mexO B _ _ = v1
      intro v1a v1b v1c
      refine y_run kX7_under rfl ?_
      exact s_munder2 hf p1 p2 q1 q2 r1 r2 x1 x2 (by omega) (by omega) (fun a u8 h y1 y2 hI => by
        refine y_run kX7_under rfl ?_
        refine y_if_le kX7_under rfl rfl (fun c1 => ?_) (fun c1 => ?_)
        · refine y_run kX7_under rfl ?_
          exact ih _ _ _ _ _ (by omega) (by omega) (by omega) hI
        · refine y_run kX7_under rfl ?_
          refine y_ic_ne kX7_under rfl rfl (fun c2 => ?_) (fun c2 => ?_)
          · refine y_run kX7_under rfl ?_
            exact ih _ _ _ _ _ (by omega) (by omega) (by omega) hI
          · refine y_run kX7_under rfl ?_
            exact y_ir kX7_under rfl rfl ⟨_, rfl, by omega, by omega, hI, rfl⟩) _ 0 0 _ (Nat.lt_succ_self _) (by omega) (by omega) (by omega) (by omega) hI
theorem w_munder {b : Nat} {g : yH} {i0 i1 i2 i3 i4 i5 i6 : Int} {B J : Nat → Int} (hf : RF b g B J i0 i1 i2 i3 i4 i5 i6) {p q r : Int} (p1 : -2147483648 ≤ p) (p2 : p < 2147483648) (q1 : -2147483648 ≤ q) (q2 : q < 2147483648) (r1 : -2147483648 ≤ r) (r2 : r < 2147483648) (hI : MI b g h) : YM l G mX7_under 3 0 0 [vr (b + 540), vi p, vi q, vi r] h n (PZ b g n (-2147483648) 2147483647) := by
  refine YM.of kX7_under (Nat.le_of_ble_eq_true rfl) (L0 := [some (vr (b + 540)), some (vi p), some (vi q), some (vi r), none, none, none, none, none]) rfl ?_
  obtain ⟨hm, hB, hJ, hBb, hBs, hBc, hJb, hi1, hi2, hi3, hi4⟩ := id hf
  refine y_run kX7_under rfl ?_
  refine y_cs kX7_under kX7_pixelOf 2 rfl (by decide +kernel) (c_mpixelOf ⟨by omega, by omega⟩ ⟨by omega, by omega⟩) rfl rfl ?_
  rintro _ _ _ ⟨rfl, rfl, rfl⟩
  refine YW.gz (pxb _ _) (fun v1 v1a v1b => ?_)
  refine y_run kX7_under rfl ?_
  refine y_ic_eq kX7_under rfl rfl (fun c1 => ?_) (fun c1 => ?_)
  · refine y_run kX7_under rfl ?_
    exact y_ir kX7_under rfl rfl ⟨_, rfl, by omega, by omega, hI, rfl⟩
  · refine y_run kX7_under rfl ?_
    refine y_if_ge kX7_under rfl rfl (fun c2 => ?_) (fun c2 => ?_)
    · refine y_run kX7_under rfl ?_
      exact s_munder1 hf p1 p2 q1 q2 r1 r2 (by omega) (by omega) _ 0 _ _ _ _ (Nat.lt_succ_self _) (by omega) (by omega) hI
    · refine y_run kX7_under rfl ?_
      exact y_ir kX7_under rfl rfl ⟨_, rfl, by omega, by omega, hI, rfl⟩
end C65
end
section
/-- all else is as it was -/
def SM (b : Nat) (g g' : yH) : Prop := ∀ q, q ≠ b + 540 → g' q = g q
theorem SM.r (b : Nat) (g : yH) : SM b g g := fun _ _ => rfl
theorem SM.t {b : Nat} {g g' g'' : yH} (h1 : SM b g g') (h2 : SM b g' g'') : SM b g g'' := fun q hq => (h2 q hq).trans (h1 q hq)
theorem SM.up {b : Nat} {g g' : yH} (h1 : SM b g g') (e : yE) : SM b g (yup g' (b + 540) e) := fun q hq => (yup_ne _ _ hq).trans (h1 q hq)
theorem RF.put {b : Nat} {g : yH} {i0 i1 i2 i3 i4 i5 i6 : Int} {B J : Nat → Int} (hf : RF b g B J i0 i1 i2 i3 i4 i5 i6) {k0 k1 k2 k3 k4 k5 k6 : Int} (h1 : 0 ≤ k0) (h2 : k0 ≤ 96) (h3 : -2147483648 ≤ k5) (h4 : k5 ≤ 2147483647) : RF b (yup g (b + 540) (mo (b + 540) k0 k1 k2 k3 k4 k5 k6)) B J k0 k1 k2 k3 k4 k5 k6 := by
  obtain ⟨hm, hB, hJ, hBb, hBs, hBc, hJb, hi1, hi2, hi3, hi4⟩ := hf
  exact ⟨yup_eq _ _ _, (yup_ne _ _ (by omega)).trans hB, (yup_ne _ _ (by omega)).trans hJ, hBb, hBs, hBc, hJb, h1, h2, h3, h4⟩
def PGv (b : Nat) (g0 : yH) (n : Nat) (B J : Nat → Int) (lo hi : Int) : Option xV → yH → Nat → Prop := fun r h' n' => ∃ (g' : yH) (i0 i1 i2 i3 i4 i5 i6 : Int), r = none ∧ SM b g0 g' ∧ RF b g' B J i0 i1 i2 i3 i4 i5 i6 ∧ lo ≤ i6 ∧ i6 ≤ hi ∧ MI b g' h' ∧ n' = n
def PGz (b : Nat) (g0 : yH) (n : Nat) (B J : Nat → Int) (lo hi : Int) : Option xV → yH → Nat → Prop := fun r h' n' => ∃ (g' : yH) (i0 i1 i2 i3 i4 i5 i6 : Int), (∃ v, r = some (vi v)) ∧ SM b g0 g' ∧ RF b g' B J i0 i1 i2 i3 i4 i5 i6 ∧ lo ≤ i6 ∧ i6 ≤ hi ∧ MI b g' h' ∧ n' = n
section C66
variable {l : Launch} {G : xG} {M : xM} {d kc ks : Nat} {Φ : Option xV → yH → Nat → Prop} {h : yH} {n : Nat} {pc : Nat} {L : List (Option xV)} {st : List xV} {b : Nat} {g g0 : yH} {i0 i1 i2 i3 i4 i5 i6 : Int} {B J : Nat → Int}
theorem m_pM10 (hM : xOK M) {idx a : Nat} {v : Int} (hI : MI b g h) (hf : RF b g B J i0 i1 i2 i3 i4 i5 i6) (hs : SM b g0 g) (kk : ∀ g' h', SM b g0 g' → RF b g' B J v i1 i2 i3 i4 i5 i6 → MI b g' h' → YW l G M d kc ks Φ (pc + 3) L st h' n) (y1 : 0 ≤ v) (y2 : v ≤ 96) (hd : xat M pc = some (.putfield idx, 3) := by rfl) (hl : M.2.2.2.2.2.2.lookup idx = some (7, 10) := by rfl) (ha : a = b + 540 := by rfl) : YW l G M d kc ks Φ pc L (vi v :: vr a :: st) h n := by
  obtain ⟨hm, hB, hJ, hBb, hBs, hBc, hJb, hi1, hi2, hi3, hi4⟩ := id hf
  exact m_put (j := 10) hM 540 hI hm (fun h' hI' => kk (yup g (b + 540) (mo (b + 540) v i1 i2 i3 i4 i5 i6)) h' (hs.up _) (hf.put y1 y2 hi3 hi4) hI') rfl hd hl rfl rfl rfl (Nat.le_of_ble_eq_true rfl) ha
theorem m_pM11 (hM : xOK M) {idx a : Nat} {v : Int} (hI : MI b g h) (hf : RF b g B J i0 i1 i2 i3 i4 i5 i6) (hs : SM b g0 g) (kk : ∀ g' h', SM b g0 g' → RF b g' B J i0 v i2 i3 i4 i5 i6 → MI b g' h' → YW l G M d kc ks Φ (pc + 3) L st h' n) (hd : xat M pc = some (.putfield idx, 3) := by rfl) (hl : M.2.2.2.2.2.2.lookup idx = some (7, 11) := by rfl) (ha : a = b + 540 := by rfl) : YW l G M d kc ks Φ pc L (vi v :: vr a :: st) h n := by
  obtain ⟨hm, hB, hJ, hBb, hBs, hBc, hJb, hi1, hi2, hi3, hi4⟩ := id hf
  exact m_put (j := 11) hM 540 hI hm (fun h' hI' => kk (yup g (b + 540) (mo (b + 540) i0 v i2 i3 i4 i5 i6)) h' (hs.up _) (hf.put hi1 hi2 hi3 hi4) hI') rfl hd hl rfl rfl rfl (Nat.le_of_ble_eq_true rfl) ha
theorem m_pM12 (hM : xOK M) {idx a : Nat} {v : Int} (hI : MI b g h) (hf : RF b g B J i0 i1 i2 i3 i4 i5 i6) (hs : SM b g0 g) (kk : ∀ g' h', SM b g0 g' → RF b g' B J i0 i1 v i3 i4 i5 i6 → MI b g' h' → YW l G M d kc ks Φ (pc + 3) L st h' n) (hd : xat M pc = some (.putfield idx, 3) := by rfl) (hl : M.2.2.2.2.2.2.lookup idx = some (7, 12) := by rfl) (ha : a = b + 540 := by rfl) : YW l G M d kc ks Φ pc L (vi v :: vr a :: st) h n := by
  obtain ⟨hm, hB, hJ, hBb, hBs, hBc, hJb, hi1, hi2, hi3, hi4⟩ := id hf
  exact m_put (j := 12) hM 540 hI hm (fun h' hI' => kk (yup g (b + 540) (mo (b + 540) i0 i1 v i3 i4 i5 i6)) h' (hs.up _) (hf.put hi1 hi2 hi3 hi4) hI') rfl hd hl rfl rfl rfl (Nat.le_of_ble_eq_true rfl) ha
theorem m_pM13 (hM : xOK M) {idx a : Nat} {v : Int} (hI : MI b g h) (hf : RF b g B J i0 i1 i2 i3 i4 i5 i6) (hs : SM b g0 g) (kk : ∀ g' h', SM b g0 g' → RF b g' B J i0 i1 i2 v i4 i5 i6 → MI b g' h' → YW l G M d kc ks Φ (pc + 3) L st h' n) (hd : xat M pc = some (.putfield idx, 3) := by rfl) (hl : M.2.2.2.2.2.2.lookup idx = some (7, 13) := by rfl) (ha : a = b + 540 := by rfl) : YW l G M d kc ks Φ pc L (vi v :: vr a :: st) h n := by
  obtain ⟨hm, hB, hJ, hBb, hBs, hBc, hJb, hi1, hi2, hi3, hi4⟩ := id hf
  exact m_put (j := 13) hM 540 hI hm (fun h' hI' => kk (yup g (b + 540) (mo (b + 540) i0 i1 i2 v i4 i5 i6)) h' (hs.up _) (hf.put hi1 hi2 hi3 hi4) hI') rfl hd hl rfl rfl rfl (Nat.le_of_ble_eq_true rfl) ha
theorem m_pM14 (hM : xOK M) {idx a : Nat} {v : Int} (hI : MI b g h) (hf : RF b g B J i0 i1 i2 i3 i4 i5 i6) (hs : SM b g0 g) (kk : ∀ g' h', SM b g0 g' → RF b g' B J i0 i1 i2 i3 v i5 i6 → MI b g' h' → YW l G M d kc ks Φ (pc + 3) L st h' n) (hd : xat M pc = some (.putfield idx, 3) := by rfl) (hl : M.2.2.2.2.2.2.lookup idx = some (7, 14) := by rfl) (ha : a = b + 540 := by rfl) : YW l G M d kc ks Φ pc L (vi v :: vr a :: st) h n := by
  obtain ⟨hm, hB, hJ, hBb, hBs, hBc, hJb, hi1, hi2, hi3, hi4⟩ := id hf
  exact m_put (j := 14) hM 540 hI hm (fun h' hI' => kk (yup g (b + 540) (mo (b + 540) i0 i1 i2 i3 v i5 i6)) h' (hs.up _) (hf.put hi1 hi2 hi3 hi4) hI') rfl hd hl rfl rfl rfl (Nat.le_of_ble_eq_true rfl) ha
theorem m_pM15 (hM : xOK M) {idx a : Nat} {v : Int} (hI : MI b g h) (hf : RF b g B J i0 i1 i2 i3 i4 i5 i6) (hs : SM b g0 g) (kk : ∀ g' h', SM b g0 g' → RF b g' B J i0 i1 i2 i3 i4 v i6 → MI b g' h' → YW l G M d kc ks Φ (pc + 3) L st h' n) (y1 : -2147483648 ≤ v) (y2 : v ≤ 2147483647) (hd : xat M pc = some (.putfield idx, 3) := by rfl) (hl : M.2.2.2.2.2.2.lookup idx = some (7, 15) := by rfl) (ha : a = b + 540 := by rfl) : YW l G M d kc ks Φ pc L (vi v :: vr a :: st) h n := by
  obtain ⟨hm, hB, hJ, hBb, hBs, hBc, hJb, hi1, hi2, hi3, hi4⟩ := id hf
  exact m_put (j := 15) hM 540 hI hm (fun h' hI' => kk (yup g (b + 540) (mo (b + 540) i0 i1 i2 i3 i4 v i6)) h' (hs.up _) (hf.put hi1 hi2 y1 y2) hI') rfl hd hl rfl rfl rfl (Nat.le_of_ble_eq_true rfl) ha
theorem m_pM21 (hM : xOK M) {idx a : Nat} {v : Int} (hI : MI b g h) (hf : RF b g B J i0 i1 i2 i3 i4 i5 i6) (hs : SM b g0 g) (kk : ∀ g' h', SM b g0 g' → RF b g' B J i0 i1 i2 i3 i4 i5 v → MI b g' h' → YW l G M d kc ks Φ (pc + 3) L st h' n) (hd : xat M pc = some (.putfield idx, 3) := by rfl) (hl : M.2.2.2.2.2.2.lookup idx = some (7, 21) := by rfl) (ha : a = b + 540 := by rfl) : YW l G M d kc ks Φ pc L (vi v :: vr a :: st) h n := by
  obtain ⟨hm, hB, hJ, hBb, hBs, hBc, hJb, hi1, hi2, hi3, hi4⟩ := id hf
  exact m_put (j := 21) hM 540 hI hm (fun h' hI' => kk (yup g (b + 540) (mo (b + 540) i0 i1 i2 i3 i4 i5 v)) h' (hs.up _) (hf.put hi1 hi2 hi3 hi4) hI') rfl hd hl rfl rfl rfl (Nat.le_of_ble_eq_true rfl) ha
end C66
section C67
variable {l : Launch} {G : xG} {h : yH} {n : Nat}
theorem s_paint2 {b : Nat} {g : yH} {i0 i1 i2 i3 i4 i5 i6 : Int} {B J : Nat → Int} (hf : RF b g B J i0 i1 i2 i3 i4 i5 i6) {Φ : Option xV → yH → Nat → Prop} {p : Int} (p1 : 0 ≤ p) (p2 : p < 8192) (kk : ∀ (x : Int) (c : Int) (u4 : Option xV) (u5 : Option xV) (u6 : Option xV) (h : yH), 0 ≤ x → x ≤ 128 → -1 ≤ c → c ≤ 100000 → MI b g h → YW l G mX7_paintAll 3 0 0 (Φ) 157 [some (vr (b + 540)), some (vi p), some (vi x), some (vi c), u4, u5, u6] [] h n) : ∀ (m : Nat) (q : Int) (x : Int) (c : Int) (u5 : Option xV) (u6 : Option xV) (h : yH), (24 - q).toNat < m → 0 ≤ q → q ≤ 24 → 0 ≤ x → x ≤ 128 → -1 ≤ c → c ≤ 100000 → MI b g h → YW l G mX7_paintAll 3 0 0 (Φ) 45 [some (vr (b + 540)), some (vi p), some (vi x), some (vi c), some (vi q), u5, u6] [] h n := by
  intro m
  induction m with
  | zero => intro q x c u5 u6 h hm; exact absurd hm (Nat.not_lt_zero _)
  | succ m ih =>
    intro q x c u5 u6 h hmm j0 j1 j2 j3 j4 j5 hI
    obtain ⟨hm, hB, hJ, hBb, hBs, hBc, hJb, hi1, hi2, hi3, hi4⟩ := id hf
    refine y_run kX7_paintAll rfl ?_
    refine y_ic_ge kX7_paintAll rfl rfl (fun c1 => ?_) (fun c1 => ?_)
    · exact kk _ _ _ _ _ _ (by omega) (by omega) (by omega) (by omega) hI
    · refine y_run kX7_paintAll rfl ?_
      refine y_cv kX7_paintAll kX7_exitOf 2 rfl (hI.x (k := 540) rfl hm) (by decide +kernel) (c_mexitOf hf ⟨by omega, by omega⟩ (by omega) (by omega) hI) rfl rfl ?_
      rintro _ _ _ ⟨rfl, rfl, rfl⟩
      obtain ⟨v1a, v1b, v1c⟩ := mexO_b hBb _ _
      revert v1a v1b v1c
      generalize mexO B _ _ = v1
      intro v1a v1b v1c
      refine y_run kX7_paintAll rfl ?_
      refine y_if_le kX7_paintAll rfl rfl (fun c2 => ?_) (fun c2 => ?_)
      · refine y_run kX7_paintAll rfl ?_
        refine y_if_ne kX7_paintAll rfl rfl (fun c3 => absurd c3 (by omega)) (fun c3 => ?_)
        refine y_run kX7_paintAll rfl ?_
        exact ih _ _ _ _ _ _ (by omega) (by omega) (by omega) (by omega) (by omega) (by omega) (by omega) hI
      · refine y_run kX7_paintAll rfl ?_
        refine y_cv kX7_paintAll kX7_inkOf 3 rfl (hI.x (k := 540) rfl hm) (by decide +kernel) (w_inkOf hf (by omega) (by omega) (by omega) (by omega) (by omega) (by omega) (by omega) (by omega) hI) rfl rfl ?_
        rintro _ h _ ⟨v2, rfl, v2a, v2b, hI, rfl⟩
        refine y_run kX7_paintAll rfl ?_
        refine y_if_ne kX7_paintAll rfl rfl (fun c4 => ?_) (fun c4 => ?_)
        · refine y_run kX7_paintAll rfl ?_
          refine m_get kX7_paintAll (540) hI hm ?_
          refine y_run kX7_paintAll rfl ?_
          refine m_ia kX7_paintAll (553) hI rfl (fun v3 v3a v3b => ?_)
          refine y_run kX7_paintAll rfl ?_
          refine m_isn kX7_paintAll (553) hI rfl (fun h hI => ?_)
          refine y_run kX7_paintAll rfl ?_
          refine y_ic_ge kX7_paintAll rfl rfl (fun c5 => ?_) (fun c5 => ?_)
          · refine y_run kX7_paintAll rfl ?_
            refine y_cv kX7_paintAll kX7_faceOf 3 rfl (hI.x (k := 540) rfl hm) (by decide +kernel) (w_faceOf hf (by omega) (by omega) (by omega) (by omega) (by omega) (by omega) hI) rfl rfl ?_
            rintro _ h _ ⟨v4, rfl, v4a, v4b, hI, rfl⟩
            refine y_run kX7_paintAll rfl ?_
            refine m_get kX7_paintAll (540) hI hm ?_
            refine y_run kX7_paintAll rfl ?_
            refine m_ix kX7_paintAll (hI.x (k := 541) rfl hB) hBb (fun s se sa sb => ?_)
            have s8 : s < 16 := by
              rw [se]
              exact hBc q (by omega) (by omega)
            refine y_run kX7_paintAll rfl ?_
            exact ih _ _ _ _ _ _ (by omega) (by omega) (by omega) (by omega) (by omega) (by omega) (by omega) hI
          · refine y_run kX7_paintAll rfl ?_
            exact ih _ _ _ _ _ _ (by omega) (by omega) (by omega) (by omega) (by omega) (by omega) (by omega) hI
        · refine y_run kX7_paintAll rfl ?_
          exact ih _ _ _ _ _ _ (by omega) (by omega) (by omega) (by omega) (by omega) (by omega) (by omega) hI
theorem s_paint1 {b : Nat} {g0 : yH} {i0 i1 i2 i5 i6 : Int} {B J : Nat → Int} {k6 : Int} : ∀ (m : Nat) (q : Int) (g : yH) (i3 : Int) (i4 : Int) (u2 : Option xV) (u3 : Option xV) (u4 : Option xV) (u5 : Option xV) (u6 : Option xV) (h : yH), (8192 - q).toNat < m → 0 ≤ q → q ≤ 8192 → i6 = k6 → SM b g0 g → RF b g B J i0 i1 i2 i3 i4 i5 i6 → MI b g h → YW l G mX7_paintAll 3 0 0 (PGv b g0 n B J k6 k6) 12 [some (vr (b + 540)), some (vi q), u2, u3, u4, u5, u6] [] h n := by
  intro m
  induction m with
  | zero => intro q g i3 i4 u2 u3 u4 u5 u6 h hm; exact absurd hm (Nat.not_lt_zero _)
  | succ m ih =>
    intro q g i3 i4 u2 u3 u4 u5 u6 h hmm j0 j1 j2 hs hf hI
    obtain ⟨hm, hB, hJ, hBb, hBs, hBc, hJb, hi1, hi2, hi3, hi4⟩ := id hf
    refine y_run kX7_paintAll rfl ?_
    refine y_ic_ge kX7_paintAll rfl rfl (fun c1 => ?_) (fun c1 => ?_)
    · exact y_vr kX7_paintAll rfl rfl ⟨_, _, _, _, _, _, _, _, rfl, hs, hf, by omega, by omega, hI, rfl⟩
    · refine y_run kX7_paintAll rfl ?_
      refine m_get kX7_paintAll (540) hI hm ?_
      refine y_run kX7_paintAll rfl ?_
      refine m_get kX7_paintAll (540) hI hm ?_
      refine y_run kX7_paintAll rfl ?_
      refine m_ia kX7_paintAll (551) hI rfl (fun v1 v1a v1b => ?_)
      refine m_is kX7_paintAll (552) hI rfl (fun h hI => ?_)
      refine y_run kX7_paintAll rfl ?_
      refine m_get kX7_paintAll (540) hI hm ?_
      refine y_run kX7_paintAll rfl ?_
      refine m_isn kX7_paintAll (553) hI rfl (fun h hI => ?_)
      refine y_run kX7_paintAll rfl ?_
      exact s_paint2 hf (by omega) (by omega) (fun x c u4 u5 u6 h y1 y2 y3 y4 hI => by
        refine y_run kX7_paintAll rfl ?_
        refine m_get kX7_paintAll (540) hI hm ?_
        refine y_run kX7_paintAll rfl ?_
        refine m_is kX7_paintAll (551) hI rfl (fun h hI => ?_)
        refine y_run kX7_paintAll rfl ?_
        refine m_get kX7_paintAll (540) hI hm ?_
        refine y_run kX7_paintAll rfl ?_
        refine y_ic_ne kX7_paintAll rfl rfl (fun c1 => ?_) (fun c1 => ?_)
        · refine y_run kX7_paintAll rfl ?_
          refine m_pM13 kX7_paintAll hI hf hs (fun g h hs hf hI => ?_)
          obtain ⟨hm, hB, hJ, hBb, hBs, hBc, hJb, hi1, hi2, hi3, hi4⟩ := id hf
          refine y_run kX7_paintAll rfl ?_
          refine m_get kX7_paintAll (540) hI hm ?_
          refine y_run kX7_paintAll rfl ?_
          refine m_get kX7_paintAll (540) hI hm ?_
          refine y_run kX7_paintAll rfl ?_
          refine m_ia kX7_paintAll (553) hI rfl (fun v1 v1a v1b => ?_)
          refine y_run kX7_paintAll rfl ?_
          refine m_pM14 kX7_paintAll hI hf hs (fun g h hs hf hI => ?_)
          obtain ⟨hm, hB, hJ, hBb, hBs, hBc, hJb, hi1, hi2, hi3, hi4⟩ := id hf
          refine y_run kX7_paintAll rfl ?_
          exact ih _ _ _ _ _ _ _ _ _ _ (by omega) (by omega) (by omega) (by omega) hs hf hI
        · refine y_run kX7_paintAll rfl ?_
          refine m_pM13 kX7_paintAll hI hf hs (fun g h hs hf hI => ?_)
          obtain ⟨hm, hB, hJ, hBb, hBs, hBc, hJb, hi1, hi2, hi3, hi4⟩ := id hf
          refine y_run kX7_paintAll rfl ?_
          refine m_get kX7_paintAll (540) hI hm ?_
          refine y_run kX7_paintAll rfl ?_
          refine m_get kX7_paintAll (540) hI hm ?_
          refine y_run kX7_paintAll rfl ?_
          refine m_ia kX7_paintAll (553) hI rfl (fun v2 v2a v2b => ?_)
          refine y_run kX7_paintAll rfl ?_
          refine m_pM14 kX7_paintAll hI hf hs (fun g h hs hf hI => ?_)
          obtain ⟨hm, hB, hJ, hBb, hBs, hBc, hJb, hi1, hi2, hi3, hi4⟩ := id hf
          refine y_run kX7_paintAll rfl ?_
          exact ih _ _ _ _ _ _ _ _ _ _ (by omega) (by omega) (by omega) (by omega) hs hf hI) _ 0 0 (-1) _ _ _ (Nat.lt_succ_self _) (by omega) (by omega) (by omega) (by omega) (by omega) (by omega) hI
theorem w_paintAll {b : Nat} {g : yH} {i0 i1 i2 i3 i4 i5 i6 : Int} {B J : Nat → Int} (hf : RF b g B J i0 i1 i2 i3 i4 i5 i6)  (hI : MI b g h) : YM l G mX7_paintAll 3 0 0 [vr (b + 540)] h n (PGv b g n B J i6 i6) := by
  refine YM.of kX7_paintAll (Nat.le_of_ble_eq_true rfl) (L0 := [some (vr (b + 540)), none, none, none, none, none, none]) rfl ?_
  obtain ⟨hm, hB, hJ, hBb, hBs, hBc, hJb, hi1, hi2, hi3, hi4⟩ := id hf
  have hs := SM.r b g
  refine y_run kX7_paintAll rfl ?_
  refine m_pM13 kX7_paintAll hI hf hs (fun g h hs hf hI => ?_)
  obtain ⟨hm, hB, hJ, hBb, hBs, hBc, hJb, hi1, hi2, hi3, hi4⟩ := id hf
  refine y_run kX7_paintAll rfl ?_
  refine m_pM14 kX7_paintAll hI hf hs (fun g h hs hf hI => ?_)
  obtain ⟨hm, hB, hJ, hBb, hBs, hBc, hJb, hi1, hi2, hi3, hi4⟩ := id hf
  refine y_run kX7_paintAll rfl ?_
  exact s_paint1 _ 0 _ _ _ _ _ _ _ _ _ (Nat.lt_succ_self _) (by omega) (by omega) rfl hs hf hI
theorem s_cut4 {b : Nat} {g : yH} {i0 i1 i2 i3 i4 i5 i6 : Int} {B J : Nat → Int} (hf : RF b g B J i0 i1 i2 i3 i4 i5 i6) {Φ : Option xV → yH → Nat → Prop} {p x v y : Int} (p1 : 0 ≤ p) (p2 : p < 128) (y1 : 0 ≤ y) (y2 : y < 128) (kk : ∀ (u5 : Option xV) (h : yH), MI b g h → YW l G mX7_cut 3 0 0 (Φ) 178 [some (vr (b + 540)), some (vi p), some (vi x), some (vi v), some (vi y), u5] [] h n) : ∀ (m : Nat) (q : Int) (h : yH), (128 - q).toNat < m → 0 ≤ q → q ≤ 128 → MI b g h → YW l G mX7_cut 3 0 0 (Φ) 136 [some (vr (b + 540)), some (vi p), some (vi x), some (vi v), some (vi y), some (vi q)] [] h n := by
  intro m
  induction m with
  | zero => intro q h hm; exact absurd hm (Nat.not_lt_zero _)
  | succ m ih =>
    intro q h hmm j0 j1 hI
    obtain ⟨hm, hB, hJ, hBb, hBs, hBc, hJb, hi1, hi2, hi3, hi4⟩ := id hf
    refine y_run kX7_cut rfl ?_
    refine y_ic_ge kX7_cut rfl rfl (fun c1 => ?_) (fun c1 => ?_)
    · exact kk _ _  hI
    · refine y_run kX7_cut rfl ?_
      refine m_get kX7_cut (540) hI hm ?_
      refine y_run kX7_cut rfl ?_
      refine m_zs kX7_cut (546) hI rfl (fun h hI => ?_)
      refine y_run kX7_cut rfl ?_
      refine m_get kX7_cut (540) hI hm ?_
      refine y_run kX7_cut rfl ?_
      refine m_zs kX7_cut (546) hI rfl (fun h hI => ?_)
      refine y_run kX7_cut rfl ?_
      exact ih _ _ (by omega) (by omega) (by omega) hI
theorem s_cut3 {b : Nat} {g : yH} {i0 i1 i2 i3 i4 i5 i6 : Int} {B J : Nat → Int} (hf : RF b g B J i0 i1 i2 i3 i4 i5 i6) {Φ : Option xV → yH → Nat → Prop} {p x v y : Int} (p1 : 0 ≤ p) (p2 : p < 128) (y1 : 0 ≤ y) (y2 : y < 128) (kk : ∀ (u5 : Option xV) (h : yH), MI b g h → YW l G mX7_cut 3 0 0 (Φ) 100 [some (vr (b + 540)), some (vi p), some (vi x), some (vi v), some (vi y), u5] [] h n) : ∀ (m : Nat) (q : Int) (h : yH), (8 - q).toNat < m → 0 ≤ q → q ≤ 8 → MI b g h → YW l G mX7_cut 3 0 0 (Φ) 62 [some (vr (b + 540)), some (vi p), some (vi x), some (vi v), some (vi y), some (vi q)] [] h n := by
  intro m
  induction m with
  | zero => intro q h hm; exact absurd hm (Nat.not_lt_zero _)
  | succ m ih =>
    intro q h hmm j0 j1 hI
    obtain ⟨hm, hB, hJ, hBb, hBs, hBc, hJb, hi1, hi2, hi3, hi4⟩ := id hf
    refine y_run kX7_cut rfl ?_
    refine y_ic_ge kX7_cut rfl rfl (fun c1 => ?_) (fun c1 => ?_)
    · exact kk _ _  hI
    · refine y_run kX7_cut rfl ?_
      refine m_get kX7_cut (540) hI hm ?_
      refine y_run kX7_cut rfl ?_
      refine m_get kX7_cut (540) hI hm ?_
      refine y_run kX7_cut rfl ?_
      refine m_ia kX7_cut (545) hI rfl (fun v1 v1a v1b => ?_)
      refine m_is kX7_cut (545) hI rfl (fun h hI => ?_)
      refine y_run kX7_cut rfl ?_
      exact ih _ _ (by omega) (by omega) (by omega) hI
theorem s_cut2 {b : Nat} {g : yH} {i0 i1 i2 i3 i4 i5 i6 : Int} {B J : Nat → Int} (hf : RF b g B J i0 i1 i2 i3 i4 i5 i6) (k1 : 0 ≤ i6) (k2 : i6 < 128) {p : Int} (p1 : 0 ≤ p) (p2 : p < 128) (kk : ∀ (u2 : Option xV) (u3 : Option xV) (u4 : Option xV) (u5 : Option xV) (h : yH), MI b g h → YW l G mX7_cut 3 0 0 (PGv b g n B J i6 (i6 + 1)) 192 [some (vr (b + 540)), some (vi p), u2, u3, u4, u5] [] h n) : ∀ (m : Nat) (q : Int) (u3 : Option xV) (u4 : Option xV) (u5 : Option xV) (h : yH), (3 - q).toNat < m → 0 ≤ q → q ≤ 3 → MI b g h → YW l G mX7_cut 3 0 0 (PGv b g n B J i6 (i6 + 1)) 15 [some (vr (b + 540)), some (vi p), some (vi q), u3, u4, u5] [] h n := by
  intro m
  induction m with
  | zero => intro q u3 u4 u5 h hm; exact absurd hm (Nat.not_lt_zero _)
  | succ m ih =>
    intro q u3 u4 u5 h hmm j0 j1 hI
    obtain ⟨hm, hB, hJ, hBb, hBs, hBc, hJb, hi1, hi2, hi3, hi4⟩ := id hf
    have hs := SM.r b g
    refine y_run kX7_cut rfl ?_
    refine y_ic_ge kX7_cut rfl rfl (fun c1 => ?_) (fun c1 => ?_)
    · exact kk _ _ _ _ _  hI
    · refine y_run kX7_cut rfl ?_
      refine y_cv kX7_cut kX7_isLeft 1 rfl (hI.x (k := 540) rfl hm) (by decide +kernel) (w_isLeft hf (by omega) (by omega) hI) rfl rfl ?_
      rintro _ h _ ⟨v1, rfl, v1a, v1b, hI, rfl⟩
      refine y_if_eq kX7_cut rfl rfl (fun c2 => ?_) (fun c2 => ?_)
      · exact kk _ _ _ _ _  hI
      · refine y_run kX7_cut rfl ?_
        refine y_cv kX7_cut kX7_plane 2 rfl (hI.x (k := 540) rfl hm) (by decide +kernel) (w_plane hf (by omega) (by omega) (by omega) (by omega) hI) rfl rfl ?_
        rintro _ h _ ⟨v2, rfl, v2a, v2b, hI, rfl⟩
        refine y_run kX7_cut rfl ?_
        refine y_ic_ne kX7_cut rfl rfl (fun c3 => ?_) (fun c3 => ?_)
        · refine y_run kX7_cut rfl ?_
          refine m_get kX7_cut (540) hI hm ?_
          refine y_run kX7_cut rfl ?_
          refine m_get kX7_cut (540) hI hm ?_
          refine y_run kX7_cut rfl ?_
          refine m_pM21 kX7_cut hI hf hs (fun g h hs hf hI => ?_)
          obtain ⟨hm, hB, hJ, hBb, hBs, hBc, hJb, hi1, hi2, hi3, hi4⟩ := id hf
          refine y_run kX7_cut rfl ?_
          exact s_cut3 hf (p := p) (by omega) (by omega) (by omega) (by omega) (fun u5 h hI => by
            refine y_run kX7_cut rfl ?_
            refine m_get kX7_cut (540) hI hm ?_
            refine y_run kX7_cut rfl ?_
            refine m_is kX7_cut (545) hI rfl (fun h hI => ?_)
            refine y_run kX7_cut rfl ?_
            refine m_get kX7_cut (540) hI hm ?_
            refine y_run kX7_cut rfl ?_
            refine m_is kX7_cut (545) hI rfl (fun h hI => ?_)
            refine y_run kX7_cut rfl ?_
            exact s_cut4 hf (p := p) (by omega) (by omega) (by omega) (by omega) (fun u5 h hI => by
              refine y_run kX7_cut rfl ?_
              refine y_cv kX7_cut kX7_gather 2 rfl (hI.x (k := 540) rfl hm) (by decide +kernel) (w_gather hf (by omega) (by omega) (by omega) hI) rfl rfl ?_
              rintro _ h _ ⟨rfl, hI, rfl⟩
              exact y_vr kX7_cut rfl rfl ⟨_, _, _, _, _, _, _, _, rfl, hs, hf, by omega, by omega, hI, rfl⟩) _ 0 _ (Nat.lt_succ_self _) (by omega) (by omega) hI) _ 0 _ (Nat.lt_succ_self _) (by omega) (by omega) hI
        · refine y_run kX7_cut rfl ?_
          exact ih _ _ _ _ _ (by omega) (by omega) (by omega) hI
theorem s_cut1 {b : Nat} {g : yH} {i0 i1 i2 i3 i4 i5 i6 : Int} {B J : Nat → Int} (hf : RF b g B J i0 i1 i2 i3 i4 i5 i6) (k1 : 0 ≤ i6) (k2 : i6 < 128) : ∀ (m : Nat) (p : Int) (u2 : Option xV) (u3 : Option xV) (u4 : Option xV) (u5 : Option xV) (h : yH), (128 - p).toNat < m → 0 ≤ p → p ≤ 128 → MI b g h → YW l G mX7_cut 3 0 0 (PGv b g n B J i6 (i6 + 1)) 6 [some (vr (b + 540)), some (vi p), u2, u3, u4, u5] [] h n := by
  intro m
  induction m with
  | zero => intro p u2 u3 u4 u5 h hm; exact absurd hm (Nat.not_lt_zero _)
  | succ m ih =>
    intro p u2 u3 u4 u5 h hmm j0 j1 hI
    obtain ⟨hm, hB, hJ, hBb, hBs, hBc, hJb, hi1, hi2, hi3, hi4⟩ := id hf
    have hs := SM.r b g
    refine y_run kX7_cut rfl ?_
    refine y_ic_ge kX7_cut rfl rfl (fun c1 => ?_) (fun c1 => ?_)
    · exact y_vr kX7_cut rfl rfl ⟨_, _, _, _, _, _, _, _, rfl, hs, hf, by omega, by omega, hI, rfl⟩
    · refine y_run kX7_cut rfl ?_
      exact s_cut2 hf k1 k2 (by omega) (by omega) (fun u2 u3 u4 u5 h hI => by
        refine y_run kX7_cut rfl ?_
        exact ih _ _ _ _ _ _ (by omega) (by omega) (by omega) hI) _ 0 _ _ _ _ (Nat.lt_succ_self _) (by omega) (by omega) hI
theorem w_cut {b : Nat} {g : yH} {i0 i1 i2 i3 i4 i5 i6 : Int} {B J : Nat → Int} (hf : RF b g B J i0 i1 i2 i3 i4 i5 i6) (k1 : 0 ≤ i6) (k2 : i6 < 128) (hI : MI b g h) : YM l G mX7_cut 3 0 0 [vr (b + 540)] h n (PGv b g n B J i6 (i6 + 1)) := by
  refine YM.of kX7_cut (Nat.le_of_ble_eq_true rfl) (L0 := [some (vr (b + 540)), none, none, none, none, none]) rfl ?_
  obtain ⟨hm, hB, hJ, hBb, hBs, hBc, hJb, hi1, hi2, hi3, hi4⟩ := id hf
  refine y_run kX7_cut rfl ?_
  refine y_cv kX7_cut kX7_close 0 rfl (hI.x (k := 540) rfl hm) (by decide +kernel) (w_close hf hI) rfl rfl ?_
  rintro _ h _ ⟨rfl, hI, rfl⟩
  refine y_run kX7_cut rfl ?_
  exact s_cut1 hf k1 k2 _ 0 _ _ _ _ _ (Nat.lt_succ_self _) (by omega) (by omega) hI
end C67
end
section
section C68
variable {l : Launch} {G : xG} {h : yH} {n : Nat}
theorem s_draw5 {b : Nat} {g : yH} {i0 i1 i2 i3 i4 i5 i6 : Int} {B J : Nat → Int} (hf : RF b g B J i0 i1 i2 i3 i4 i5 i6) {Φ : Option xV → yH → Nat → Prop} {x y z k : Int} (k1 : 0 ≤ k) (k2 : k < 96) (kk : ∀ (u5 : Option xV) (h : yH), MI b g h → YW l G mX7_draw 4 0 0 (Φ) 267 [some (vr (b + 540)), some (vi x), some (vi y), some (vi z), some (vi k), u5] [] h n) : ∀ (m : Nat) (q : Int) (h : yH), (7 - q).toNat < m → 1 ≤ q → q ≤ 7 → MI b g h → YW l G mX7_draw 4 0 0 (Φ) 221 [some (vr (b + 540)), some (vi x), some (vi y), some (vi z), some (vi k), some (vi q)] [] h n := by
  intro m
  induction m with
  | zero => intro q h hm; exact absurd hm (Nat.not_lt_zero _)
  | succ m ih =>
    intro q h hmm j0 j1 hI
    obtain ⟨hm, hB, hJ, hBb, hBs, hBc, hJb, hi1, hi2, hi3, hi4⟩ := id hf
    refine y_run kX7_draw rfl ?_
    refine y_ic_ge kX7_draw rfl rfl (fun c1 => ?_) (fun c1 => ?_)
    · exact kk _ _  hI
    · refine y_run kX7_draw rfl ?_
      refine m_get kX7_draw (540) hI hm ?_
      refine y_run kX7_draw rfl ?_
      refine m_get kX7_draw (540) hI hm ?_
      refine y_run kX7_draw rfl ?_
      refine m_get kX7_draw (540) hI hm ?_
      refine y_run kX7_draw rfl ?_
      refine m_ia kX7_draw (549) hI rfl (fun v1 v1a v1b => ?_)
      refine y_run kX7_draw rfl ?_
      refine m_ia kX7_draw (545) hI rfl (fun v2 v2a v2b => ?_)
      refine m_is kX7_draw (550) hI rfl (fun h hI => ?_)
      refine y_run kX7_draw rfl ?_
      exact ih _ _ (by omega) (by omega) (by omega) hI
theorem s_draw4 {b : Nat} {g : yH} {i0 i1 i2 i3 i4 i5 i6 : Int} {B J : Nat → Int} (hf : RF b g B J i0 i1 i2 i3 i4 i5 i6) {Φ : Option xV → yH → Nat → Prop} {x y z : Int} (y1 : 0 ≤ y) (y2 : y ≤ 96) (kk : ∀ (u4 : Option xV) (u5 : Option xV) (h : yH), MI b g h → YW l G mX7_draw 4 0 0 (Φ) 273 [some (vr (b + 540)), some (vi x), some (vi y), some (vi z), u4, u5] [] h n) : ∀ (m : Nat) (q : Int) (u5 : Option xV) (h : yH), (y - q).toNat < m → 0 ≤ q → q ≤ y → MI b g h → YW l G mX7_draw 4 0 0 (Φ) 168 [some (vr (b + 540)), some (vi x), some (vi y), some (vi z), some (vi q), u5] [] h n := by
  intro m
  induction m with
  | zero => intro q u5 h hm; exact absurd hm (Nat.not_lt_zero _)
  | succ m ih =>
    intro q u5 h hmm j0 j1 hI
    obtain ⟨hm, hB, hJ, hBb, hBs, hBc, hJb, hi1, hi2, hi3, hi4⟩ := id hf
    refine y_run kX7_draw rfl ?_
    refine y_ic_ge kX7_draw rfl rfl (fun c1 => ?_) (fun c1 => ?_)
    · exact kk _ _ _  hI
    · refine y_run kX7_draw rfl ?_
      refine m_get kX7_draw (540) hI hm ?_
      refine y_run kX7_draw rfl ?_
      refine m_get kX7_draw (540) hI hm ?_
      refine y_run kX7_draw rfl ?_
      refine m_get kX7_draw (540) hI hm ?_
      refine y_run kX7_draw rfl ?_
      refine m_ia kX7_draw (549) hI rfl (fun v1 v1a v1b => ?_)
      refine y_run kX7_draw rfl ?_
      refine m_ia kX7_draw (545) hI rfl (fun v2 v2a v2b => ?_)
      refine m_is kX7_draw (550) hI rfl (fun h hI => ?_)
      refine y_run kX7_draw rfl ?_
      refine m_get kX7_draw (540) hI hm ?_
      refine y_run kX7_draw rfl ?_
      refine m_get kX7_draw (540) hI hm ?_
      refine y_run kX7_draw rfl ?_
      refine m_ia kX7_draw (549) hI rfl (fun v3 v3a v3b => ?_)
      refine m_is kX7_draw (550) hI rfl (fun h hI => ?_)
      refine y_run kX7_draw rfl ?_
      exact s_draw5 hf (by omega) (by omega) (fun u5 h hI => by
        refine y_run kX7_draw rfl ?_
        exact ih _ _ _ (by omega) (by omega) (by omega) hI) _ 1 _ (Nat.lt_succ_self _) (by omega) (by omega) hI
theorem s_draw3 {b : Nat} {g0 : yH} {i0 i1 i3 i4 i5 i6 : Int} {B J : Nat → Int} {Φ : Option xV → yH → Nat → Prop} {x y z : Int} (y1 : 0 ≤ y) (y2 : y ≤ 96) (k1 : 24 ≤ i6) (k2 : i6 ≤ 128) (kk : ∀ (g : yH) (i2 : Int) (u4 : Option xV) (u5 : Option xV) (h : yH), SM b g0 g → RF b g B J i0 i1 i2 i3 i4 i5 i6 → MI b g h → YW l G mX7_draw 4 0 0 (Φ) 165 [some (vr (b + 540)), some (vi x), some (vi y), some (vi z), u4, u5] [] h n) : ∀ (m : Nat) (q : Int) (g : yH) (i2 : Int) (u5 : Option xV) (h : yH), (24 - q).toNat < m → 0 ≤ q → q ≤ 24 → SM b g0 g → RF b g B J i0 i1 i2 i3 i4 i5 i6 → MI b g h → YW l G mX7_draw 4 0 0 (Φ) 129 [some (vr (b + 540)), some (vi x), some (vi y), some (vi z), some (vi q), u5] [] h n := by
  intro m
  induction m with
  | zero => intro q g i2 u5 h hm; exact absurd hm (Nat.not_lt_zero _)
  | succ m ih =>
    intro q g i2 u5 h hmm j0 j1 hs hf hI
    obtain ⟨hm, hB, hJ, hBb, hBs, hBc, hJb, hi1, hi2, hi3, hi4⟩ := id hf
    refine y_run kX7_draw rfl ?_
    refine y_ic_ge kX7_draw rfl rfl (fun c1 => ?_) (fun c1 => ?_)
    · exact kk _ _ _ _ _  hs hf hI
    · refine y_run kX7_draw rfl ?_
      refine m_get kX7_draw (540) hI hm ?_
      refine y_run kX7_draw rfl ?_
      refine y_cv kX7_draw kX7_isCut 1 rfl (hI.x (k := 540) rfl hm) (by decide +kernel) (w_isCut hf (by omega) (by omega) (by omega) (by omega) hI) rfl rfl ?_
      rintro _ h _ ⟨v1, rfl, v1a, v1b, hI, rfl⟩
      refine y_if_eq kX7_draw rfl rfl (fun c2 => ?_) (fun c2 => ?_)
      · refine y_run kX7_draw rfl ?_
        refine m_pM12 kX7_draw hI hf hs (fun g h hs hf hI => ?_)
        obtain ⟨hm, hB, hJ, hBb, hBs, hBc, hJb, hi1, hi2, hi3, hi4⟩ := id hf
        refine y_run kX7_draw rfl ?_
        exact ih _ _ _ _ _ (by omega) (by omega) (by omega) hs hf hI
      · refine y_run kX7_draw rfl ?_
        refine m_pM12 kX7_draw hI hf hs (fun g h hs hf hI => ?_)
        obtain ⟨hm, hB, hJ, hBb, hBs, hBc, hJb, hi1, hi2, hi3, hi4⟩ := id hf
        refine y_run kX7_draw rfl ?_
        exact ih _ _ _ _ _ (by omega) (by omega) (by omega) hs hf hI
theorem s_draw2 {b : Nat} {g0 : yH} {B J : Nat → Int} {x : Int} (x1 : 0 ≤ x) (x2 : x ≤ 24) : ∀ (m : Nat) (c : Int) (e : Int) (g : yH) (i0 : Int) (i1 : Int) (i2 : Int) (i3 : Int) (i4 : Int) (i5 : Int) (i6 : Int) (u4 : Option xV) (u5 : Option xV) (h : yH), (192 - c - e).toNat < m → x ≤ c → c ≤ 96 → 0 ≤ e → e ≤ c → 24 ≤ i6 → i6 ≤ 24 + c → SM b g0 g → RF b g B J i0 i1 i2 i3 i4 i5 i6 → MI b g h → YW l G mX7_draw 4 0 0 (PGz b g0 n B J 24 128) 46 [some (vr (b + 540)), some (vi x), some (vi c), some (vi e), u4, u5] [] h n := by
  intro m
  induction m with
  | zero => intro c e g i0 i1 i2 i3 i4 i5 i6 u4 u5 h hm; exact absurd hm (Nat.not_lt_zero _)
  | succ m ih =>
    intro c e g i0 i1 i2 i3 i4 i5 i6 u4 u5 h hmm j0 j1 j2 j3 j4 j5 hs hf hI
    obtain ⟨hm, hB, hJ, hBb, hBs, hBc, hJb, hi1, hi2, hi3, hi4⟩ := id hf
    refine y_run kX7_draw rfl ?_
    refine y_ic_ge kX7_draw rfl rfl (fun c1 => ?_) (fun c1 => ?_)
    · refine y_run kX7_draw rfl ?_
      refine m_pM10 kX7_draw hI hf hs (fun g h hs hf hI => ?_) (by omega) (by omega)
      obtain ⟨hm, hB, hJ, hBb, hBs, hBc, hJb, hi1, hi2, hi3, hi4⟩ := id hf
      refine y_run kX7_draw rfl ?_
      refine m_pM11 kX7_draw hI hf hs (fun g h hs hf hI => ?_)
      obtain ⟨hm, hB, hJ, hBb, hBs, hBc, hJb, hi1, hi2, hi3, hi4⟩ := id hf
      refine y_run kX7_draw rfl ?_
      refine m_pM12 kX7_draw hI hf hs (fun g h hs hf hI => ?_)
      obtain ⟨hm, hB, hJ, hBb, hBs, hBc, hJb, hi1, hi2, hi3, hi4⟩ := id hf
      refine y_run kX7_draw rfl ?_
      exact s_draw3 (y := c) (by omega) (by omega) (by omega) (by omega) (fun g i2 u4 u5 h hs hf hI => by
        obtain ⟨hm, hB, hJ, hBb, hBs, hBc, hJb, hi1, hi2, hi3, hi4⟩ := id hf
        refine y_run kX7_draw rfl ?_
        exact s_draw4 hf (y := c) (by omega) (by omega) (fun u4 u5 h hI => by
          refine y_run kX7_draw rfl ?_
          refine y_cv kX7_draw kX7_paintAll 0 rfl (hI.x (k := 540) rfl hm) (by decide +kernel) (w_paintAll hf hI) rfl rfl ?_
          rintro _ h _ ⟨g, i0, i1, i2, i3, i4, i5, kv1, rfl, hs2, hf, v1a, v1b, hI, rfl⟩
          replace hs := hs.t hs2
          obtain ⟨hm, hB, hJ, hBb, hBs, hBc, hJb, hi1, hi2, hi3, hi4⟩ := id hf
          refine y_run kX7_draw rfl ?_
          refine m_get kX7_draw (540) hI hm ?_
          refine y_run kX7_draw rfl ?_
          refine YW.nr1 ?_
          refine m_pM15 kX7_draw hI hf hs (fun g h hs hf hI => ?_) (nrm_rng _).1 (nrm_rng _).2
          obtain ⟨hm, hB, hJ, hBb, hBs, hBc, hJb, hi1, hi2, hi3, hi4⟩ := id hf
          refine y_run kX7_draw rfl ?_
          exact y_ir kX7_draw rfl rfl ⟨_, _, _, _, _, _, _, _, ⟨_, rfl⟩, hs, hf, by omega, by omega, hI, rfl⟩) _ 0 _ _ (Nat.lt_succ_self _) (by omega) (by omega) hI) _ 0 _ _ _ _ (Nat.lt_succ_self _) (by omega) (by omega) hs hf hI
    · refine y_run kX7_draw rfl ?_
      refine y_cv kX7_draw kX7_free 0 rfl (hI.x (k := 540) rfl hm) (by decide +kernel) (w_free hf hI) rfl rfl ?_
      rintro _ h _ ⟨v1, rfl, v1a, v1b, hI, rfl⟩
      refine y_run kX7_draw rfl ?_
      refine y_ic_eq kX7_draw rfl rfl (fun c2 => ?_) (fun c2 => ?_)
      · refine y_run kX7_draw rfl ?_
        refine y_ic_ne kX7_draw rfl rfl (fun c3 => ?_) (fun c3 => ?_)
        · refine y_run kX7_draw rfl ?_
          refine y_cv kX7_draw kX7_cut 0 rfl (hI.x (k := 540) rfl hm) (by decide +kernel) (w_cut hf (by omega) (by omega) hI) rfl rfl ?_
          rintro _ h _ ⟨g, i0, i1, i2, i3, i4, i5, i6, rfl, hs2, hf, v2a, v2b, hI, rfl⟩
          replace hs := hs.t hs2
          obtain ⟨hm, hB, hJ, hBb, hBs, hBc, hJb, hi1, hi2, hi3, hi4⟩ := id hf
          refine y_run kX7_draw rfl ?_
          exact ih _ _ _ _ _ _ _ _ _ _ _ _ _ (by omega) (by omega) (by omega) (by omega) (by omega) (by omega) (by omega) hs hf hI
        · refine y_run kX7_draw rfl ?_
          exact y_ir kX7_draw rfl rfl ⟨_, _, _, _, _, _, _, _, ⟨_, rfl⟩, hs, hf, by omega, by omega, hI, rfl⟩
      · refine y_run kX7_draw rfl ?_
        refine m_get kX7_draw (540) hI hm ?_
        refine y_run kX7_draw rfl ?_
        refine m_is kX7_draw (545) hI rfl (fun h hI => ?_)
        refine y_run kX7_draw rfl ?_
        refine m_get kX7_draw (540) hI hm ?_
        refine y_run kX7_draw rfl ?_
        refine m_is kX7_draw (549) hI rfl (fun h hI => ?_)
        refine y_run kX7_draw rfl ?_
        exact ih _ _ _ _ _ _ _ _ _ _ _ _ _ (by omega) (by omega) (by omega) (by omega) (by omega) (by omega) (by omega) hs hf hI
theorem s_draw1 {b : Nat} {g : yH} {i0 i1 i2 i3 i4 i5 i6 : Int} {B J : Nat → Int} (hf : RF b g B J i0 i1 i2 i3 i4 i5 i6) {Φ : Option xV → yH → Nat → Prop} (kk : ∀ (a : Int) (u2 : Option xV) (h : yH), 0 ≤ a → a ≤ (24) → MI b g h → YW l G mX7_draw 4 0 0 (Φ) 42 [some (vr (b + 540)), some (vi a), u2, none, none, none] [] h n) : ∀ (m : Nat) (q : Int) (a : Int) (h : yH), (24 - q).toNat < m → 0 ≤ q → q ≤ 24 → 0 ≤ a → a ≤ q → MI b g h → YW l G mX7_draw 4 0 0 (Φ) 14 [some (vr (b + 540)), some (vi a), some (vi q), none, none, none] [] h n := by
  intro m
  induction m with
  | zero => intro q a h hm; exact absurd hm (Nat.not_lt_zero _)
  | succ m ih =>
    intro q a h hmm j0 j1 j2 j3 hI
    obtain ⟨hm, hB, hJ, hBb, hBs, hBc, hJb, hi1, hi2, hi3, hi4⟩ := id hf
    refine y_run kX7_draw rfl ?_
    refine y_ic_ge kX7_draw rfl rfl (fun c1 => ?_) (fun c1 => ?_)
    · exact kk _ _ _ (by omega) (by omega) hI
    · refine y_run kX7_draw rfl ?_
      refine y_cv kX7_draw kX7_isThere 1 rfl (hI.x (k := 540) rfl hm) (by decide +kernel) (c_isThere (hI.x (k := 540) rfl hm) (hI.x (k := 541) rfl hB) (fun j => ⟨by have := hBb j; omega, by have := hBb j; omega⟩) ⟨by omega, by omega⟩) rfl rfl ?_
      rintro _ _ _ ⟨hr, rfl, rfl⟩
      obtain ⟨v1, rfl, v1a, v1b, v1c⟩ := is01 hr
      refine y_if_eq kX7_draw rfl rfl (fun c2 => ?_) (fun c2 => ?_)
      · refine y_run kX7_draw rfl ?_
        exact ih _ _ _ (by omega) (by omega) (by omega) (by omega) (by omega) hI
      · refine y_run kX7_draw rfl ?_
        exact ih _ _ _ (by omega) (by omega) (by omega) (by omega) (by omega) hI
theorem w_mdraw {b : Nat} {g : yH} {i0 i1 i2 i3 i4 i5 i6 : Int} {B J : Nat → Int} (hf : RF b g B J i0 i1 i2 i3 i4 i5 i6)  (hI : MI b g h) : YM l G mX7_draw 4 0 0 [vr (b + 540)] h n (PGz b g n B J 24 128) := by
  refine YM.of kX7_draw (Nat.le_of_ble_eq_true rfl) (L0 := [some (vr (b + 540)), none, none, none, none, none]) rfl ?_
  obtain ⟨hm, hB, hJ, hBb, hBs, hBc, hJb, hi1, hi2, hi3, hi4⟩ := id hf
  have hs := SM.r b g
  refine y_run kX7_draw rfl ?_
  refine y_cv kX7_draw kX7_begin 0 rfl (hI.x (k := 540) rfl hm) (by decide +kernel) (w_begin hf hI) rfl rfl ?_
  rintro _ h _ ⟨rfl, hI, rfl⟩
  refine y_run kX7_draw rfl ?_
  refine m_pM21 kX7_draw hI hf hs (fun g h hs hf hI => ?_)
  obtain ⟨hm, hB, hJ, hBb, hBs, hBc, hJb, hi1, hi2, hi3, hi4⟩ := id hf
  refine y_run kX7_draw rfl ?_
  exact s_draw1 hf (fun a u2 h y1 y2 hI => by
    refine y_run kX7_draw rfl ?_
    exact s_draw2 (x := a) (by omega) (by omega) _ a 0 _ _ _ _ _ _ _ _ _ _ _ (Nat.lt_succ_self _) (by omega) (by omega) (by omega) (by omega) (by omega) (by omega) hs hf hI) _ 0 0 _ (Nat.lt_succ_self _) (by omega) (by omega) (by omega) (by omega) hI
end C68
end
section
section C70
variable {l : Launch} {G : xG} {M : xM} {d kc ks mc ms : Nat} {Φ Ψ : Option xV → yH → Nat → Prop} {h : yH} {n : Nat} {pc : Nat} {L : List (Option xV)} {st av : List xV}
theorem YM.imp (hX : YM l G M d mc ms av h n Φ) (hi : ∀ r h' n', Φ r h' n' → Ψ r h' n') : YM l G M d mc ms av h n Ψ := by
  intro p e h1 h2 h3 s m args below h4 h5 h6 h7
  obtain ⟨k, o, a1, a2, a3, a4, a5⟩ := hX p e h1 h2 h3 s m args below h4 h5 h6 h7
  refine ⟨k, o, a1, a2, a3, ?_, a5⟩
  obtain ⟨v, h', n', q1, ⟨u, g, e1, e2, hu⟩, q3⟩ := a4
  exact ⟨v, h', n', q1, ⟨u, g, e1, e2, hi _ _ _ hu⟩, q3⟩
theorem y_ldcw (hM : xOK M) {idx : Nat} {z : Int} (hd : xat M pc = some (.ldc_w idx, 3)) (hl : xmem (.constant M.1.cls idx (iI z)) = true) (k : YW l G M d kc ks Φ (pc + 3) L (vi z :: st) h n) : YW l G M d kc ks Φ pc L st h n := by
  intro p e R s m args below meth c H locs cells slots ls A hC hR hS hI hA h1 h2 h3 h4 hL
  exact lv_ldcw hC.1 hC.2.1 hC.2.2.2.1 (hC.2.2.2.2.1 _ (xmem_of hl)) (hM.dec hd) (k p e R s m args below meth c H locs cells slots ls A hC hR hS hI hA h1 h2 h3 h4 hL)
end C70
def lsr (x : Int64) (k : Int) : Int64 := (x.toUInt64 >>> ((iI k).toInt64.toUInt64 &&& Int64.toUInt64 63)).toInt64
def lb1 (w : Int64) : Int64 := w - (lsr w 1 &&& 6148914691236517205)
def lb2 (w : Int64) : Int64 := (w &&& 3689348814741910323) + (lsr w 2 &&& 3689348814741910323)
def lb3 (w : Int64) : Int64 := (w + lsr w 4) &&& 1085102592571150095
def lb4 (k : Int) (w : Int64) : Int64 := w + lsr w k
def lbc (w : Int64) : Int := yand (lb4 32 (lb4 16 (lb4 8 (lb3 (lb2 (lb1 w)))))).toInt32.toInt 127
theorem lbc_pow : ∀ m : Nat, m < 64 → lbc (Int64.ofNat (2 ^ m - 1)) = (m : Int) := by decide +kernel
theorem lbc_b (w : Int64) : 0 ≤ lbc w ∧ lbc w ≤ 127 := by
  unfold lbc
  rw [show (127 : Int) = 2 ^ 7 - 1 by decide, yand_mask _ 7 (by omega)]
  omega
def ib4 (k w : Int) : Int := w + yushr w k
def ibc (w : Int) : Int := yand (ib4 16 (ib4 8 (yand (ib4 4 ((fun a => yand a 858993459 + yand (yushr a 2) 858993459) (w - yand (yushr w 1) 1431655765))) 252645135))) 63
theorem ibc_b (w : Int) : 0 ≤ ibc w ∧ ibc w ≤ 63 := by
  unfold ibc
  rw [show (63 : Int) = 2 ^ 6 - 1 by decide, yand_mask _ 6 (by omega)]
  omega
section C71
variable {l : Launch} {G : xG} {h : yH} {n : Nat}
theorem c_Lbit (w : Int64) : YM l G mJ13_bitCount_95d88 0 0 0 [vl w] h n (fun r h' n' => r = some (vi (lbc w)) ∧ h' = h ∧ n' = n) := by
  refine YM.of kJ13_bitCount_95d88 (Nat.le_of_ble_eq_true rfl) (L0 := [some (vl w), none]) rfl ?_
  refine y_run kJ13_bitCount_95d88 rfl ?_
  refine y_ldc2 (v := 6148914691236517205) kJ13_bitCount_95d88 rfl (by decide +kernel) ?_
  refine y_run kJ13_bitCount_95d88 rfl ?_
  refine y_ldc2 (v := 3689348814741910323) kJ13_bitCount_95d88 rfl (by decide +kernel) ?_
  refine y_run kJ13_bitCount_95d88 rfl ?_
  refine y_ldc2 (v := 3689348814741910323) kJ13_bitCount_95d88 rfl (by decide +kernel) ?_
  refine y_run kJ13_bitCount_95d88 rfl ?_
  refine y_ldc2 (v := 1085102592571150095) kJ13_bitCount_95d88 rfl (by decide +kernel) ?_
  refine y_run kJ13_bitCount_95d88 rfl ?_
  exact y_ir kJ13_bitCount_95d88 rfl rfl ⟨rfl, rfl, rfl⟩
theorem c_Ibit (w : Int) : YM l G mJ6_bitCount_0f7a4 0 0 0 [vi w] h n (fun r h' n' => r = some (vi (ibc w)) ∧ h' = h ∧ n' = n) := by
  refine YM.of kJ6_bitCount_0f7a4 (Nat.le_of_ble_eq_true rfl) (L0 := [some (vi w)]) rfl ?_
  refine y_run kJ6_bitCount_0f7a4 rfl ?_
  refine y_ldcw (z := 1431655765) kJ6_bitCount_0f7a4 rfl (by decide +kernel) ?_
  refine y_run kJ6_bitCount_0f7a4 rfl ?_
  refine y_ldcw (z := 858993459) kJ6_bitCount_0f7a4 rfl (by decide +kernel) ?_
  refine y_run kJ6_bitCount_0f7a4 rfl ?_
  refine y_ldcw (z := 858993459) kJ6_bitCount_0f7a4 rfl (by decide +kernel) ?_
  refine y_run kJ6_bitCount_0f7a4 rfl ?_
  refine y_ldcw (z := 252645135) kJ6_bitCount_0f7a4 rfl (by decide +kernel) ?_
  refine y_run kJ6_bitCount_0f7a4 rfl ?_
  exact y_ir kJ6_bitCount_0f7a4 rfl rfl ⟨rfl, rfl, rfl⟩
end C71
/-- the lowest bit that is set -/
theorem low_bit {w : Int64} (hw : w ≠ Int64.ofNat 0) : ∃ m : Nat, m < 64 ∧ gb w m = true ∧ (∀ j, j < m → gb w j = false) ∧ (w &&& -w) - Int64.ofNat 1 = Int64.ofNat (2 ^ m - 1) := by
  have hex : ∃ m : Nat, m < 64 ∧ gb w m = true ∧ ∀ j, j < m → gb w j = false := by
    have h1 : ∃ k, k < 64 ∧ gb w k = true := by
      rcases Classical.em (∃ k, k < 64 ∧ gb w k = true) with q | q
      · exact q
      · refine absurd (gb_z.mpr (fun k hk => ?_)) hw
        cases e : gb w k with
        | false => rfl
        | true => exact absurd ⟨k, hk, e⟩ q
    obtain ⟨k, hk, e⟩ := h1
    have : ∀ f k : Nat, k < f → k < 64 → gb w k = true → ∃ m : Nat, m < 64 ∧ gb w m = true ∧ ∀ j, j < m → gb w j = false := by
      intro f
      induction f with
      | zero => intro k h; omega
      | succ f ih =>
        intro k hf hk e
        by_cases c : ∃ j, j < k ∧ gb w j = true
        · obtain ⟨j, j1, j2⟩ := c
          exact ih j (by omega) (by omega) j2
        · refine ⟨k, hk, e, fun j hj => ?_⟩
          cases e2 : gb w j with
          | false => rfl
          | true => exact absurd ⟨j, hj, e2⟩ c
    exact this (k + 1) k (by omega) hk e
  obtain ⟨m, hm, e, hl⟩ := hex
  refine ⟨m, hm, e, hl, ?_⟩
  have h2 : w &&& -w = Int64.ofBitVec (BitVec.twoPow 64 m) := by
    apply Int64.toBitVec.inj
    rw [Int64.toBitVec_and, Int64.toBitVec_neg]
    apply BitVec.eq_of_getLsbD_eq
    intro i hi
    rw [BitVec.getLsbD_and, BitVec.getLsbD_neg]
    show _ = (BitVec.twoPow 64 m).getLsbD i
    rw [BitVec.getLsbD_twoPow]
    by_cases c : i < m
    · have := hl i c
      unfold gb at this
      rw [this]
      have : m ≠ i := by omega
      simp [this]
    · by_cases c2 : i = m
      · subst c2
        have hn : ¬ ∃ j, j < i ∧ w.toBitVec.getLsbD j = true := fun ⟨j, j1, j2⟩ => by
          have := hl j j1
          unfold gb at this
          rw [this] at j2
          cases j2
        unfold gb at e
        simp [e, hm, hn]
      · have hy : ∃ j, j < i ∧ w.toBitVec.getLsbD j = true := ⟨m, by omega, e⟩
        have : m ≠ i := by omega
        simp [hi, hy, this]
  rw [h2]
  have : ∀ m : Nat, m < 64 → Int64.ofBitVec (BitVec.twoPow 64 m) - Int64.ofNat 1 = Int64.ofNat (2 ^ m - 1) := by decide +kernel
  exact this m hm
section C72
variable {l : Launch} {G : xG} {h : yH} {n : Nat}
theorem c_Nsize {a : Nat} {lo hi : Int64} (ha : h a = some (ob 0 [vl lo, vl hi])) : YM l G mX0_size 1 0 0 [vr a] h n (fun r h' n' => r = some (vi (lbc lo + lbc hi)) ∧ h' = h ∧ n' = n) := by
  refine YM.of kX0_size (Nat.le_of_ble_eq_true rfl) (L0 := [some (vr a)]) rfl ?_
  refine y_run kX0_size rfl ?_
  refine y_get kX0_size rfl rfl ha rfl ?_
  refine y_cs kX0_size kJ13_bitCount_95d88 1 rfl (by decide +kernel) (c_Lbit _) rfl rfl ?_
  rintro _ _ _ ⟨rfl, rfl, rfl⟩
  refine y_run kX0_size rfl ?_
  refine y_get kX0_size rfl rfl ha rfl ?_
  refine y_cs kX0_size kJ13_bitCount_95d88 1 rfl (by decide +kernel) (c_Lbit _) rfl rfl ?_
  rintro _ _ _ ⟨rfl, rfl, rfl⟩
  refine y_run kX0_size rfl ?_
  exact y_ir kX0_size rfl rfl ⟨rfl, rfl, rfl⟩
theorem c_Nlowest {a : Nat} {S : Nat → Bool} (ha : NA h a S) (hne : ¬ ∀ k, k < 128 → S k = false) : YM l G mX0_lowest 1 0 0 [vr a] h n (fun r h' n' => (∃ m : Nat, m < 128 ∧ S m = true ∧ (∀ j, j < m → S j = false) ∧ r = some (vi (m : Int))) ∧ h' = h ∧ n' = n) := by
  obtain ⟨lo, hi, ha, hb⟩ := ha
  refine YM.of kX0_lowest (Nat.le_of_ble_eq_true rfl) (L0 := [some (vr a)]) rfl ?_
  refine y_run kX0_lowest rfl ?_
  refine y_get kX0_lowest rfl rfl ha rfl ?_
  refine y_run kX0_lowest rfl ?_
  refine y_if_eq kX0_lowest rfl rfl (fun c1 => ?_) (fun c1 => ?_) (iI_rng _).1 (iI_rng _).2
  · have c2 : lo = Int64.ofNat 0 := (lg_cmp0 lo).mp c1
    have c3 : hi ≠ Int64.ofNat 0 := fun q => hne ((NB.emp hb).mp ⟨c2, q⟩)
    obtain ⟨m, hm, e1, e2, e3⟩ := low_bit c3
    refine y_run kX0_lowest rfl ?_
    refine y_get kX0_lowest rfl rfl ha rfl ?_
    refine y_run kX0_lowest rfl ?_
    refine y_get kX0_lowest rfl rfl ha rfl ?_
    refine y_run kX0_lowest rfl ?_
    refine y_cs kX0_lowest kJ13_bitCount_95d88 1 rfl (by decide +kernel) (c_Lbit _) rfl rfl ?_
    rintro _ _ _ ⟨rfl, rfl, rfl⟩
    refine y_run kX0_lowest rfl ?_
    refine y_ir kX0_lowest rfl rfl ⟨⟨64 + m, by omega, ?_, fun j hj => ?_, ?_⟩, rfl, rfl⟩
    · rw [← (hb m hm).2]; exact e1
    · by_cases c : j < 64
      · rw [← (hb j c).1]; exact gb_z.mp c2 j c
      · have := (hb (j - 64) (by omega)).2
        rw [show 64 + (j - 64) = j by omega] at this
        rw [← this]
        exact e2 _ (by omega)
    · show some (vi (64 + lbc ((hi &&& -hi) - Int64.ofNat 1))) = _
      rw [e3, lbc_pow m hm]
      rfl
  · have c2 : lo ≠ Int64.ofNat 0 := fun q => c1 ((lg_cmp0 lo).mpr q)
    obtain ⟨m, hm, e1, e2, e3⟩ := low_bit c2
    refine y_run kX0_lowest rfl ?_
    refine y_get kX0_lowest rfl rfl ha rfl ?_
    refine y_run kX0_lowest rfl ?_
    refine y_get kX0_lowest rfl rfl ha rfl ?_
    refine y_run kX0_lowest rfl ?_
    refine y_cs kX0_lowest kJ13_bitCount_95d88 1 rfl (by decide +kernel) (c_Lbit _) rfl rfl ?_
    rintro _ _ _ ⟨rfl, rfl, rfl⟩
    refine y_run kX0_lowest rfl ?_
    refine y_ir kX0_lowest rfl rfl ⟨⟨m, by omega, ?_, fun j hj => ?_, ?_⟩, rfl, rfl⟩
    · rw [← (hb m hm).1]; exact e1
    · rw [← (hb j (by omega)).1]; exact e2 j hj
    · show some (vi (lbc ((lo &&& -lo) - Int64.ofNat 1))) = _
      rw [e3, lbc_pow m hm]
end C72
end
section
/-! the pieces of a drawing, as far as bounds go -/
theorem nT {o j : Nat} (ho : o = 20 ∨ o = 270) (h7 : 7 ≤ j) (hj : j < 250) : rTb (o + j) = some (3, 0, 0, 0) := by rw [rTb_p ho hj, pTb_n h7]
theorem t0 {o : Nat} (ho : o = 20 ∨ o = 270) : rTb o = none := rTb_p (j := 0) ho (by omega)
theorem t1 {o : Nat} (ho : o = 20 ∨ o = 270) : rTb (o + 1) = some (0, 720, 0, 32) := rTb_p ho (by omega)
theorem t2 {o : Nat} (ho : o = 20 ∨ o = 270) : rTb (o + 2) = some (0, 120, 0, 23) := rTb_p ho (by omega)
theorem t3 {o : Nat} (ho : o = 20 ∨ o = 270) : rTb (o + 3) = some (0, 96, 0, 119) := rTb_p ho (by omega)
theorem t4 {o : Nat} (ho : o = 20 ∨ o = 270) : rTb (o + 4) = none := rTb_p ho (by omega)
theorem t5 {o : Nat} (ho : o = 20 ∨ o = 270) : rTb (o + 5) = none := rTb_p ho (by omega)
theorem t6 {o : Nat} (ho : o = 20 ∨ o = 270) : rTb (o + 6) = none := rTb_p ho (by omega)
def pO (b o : Nat) (a c x : Int) : yE := ob 3 [vr (b + (o + 1)), vr (b + (o + 2)), vr (b + (o + 3)), vi a, vi c, vi x, vr (b + (o + 4)), vr (b + (o + 5)), vr (b + (o + 6)), vr (b + (o + 7)), vr (b + (o + 8)), vr (b + (o + 9))]
def PF (b o : Nat) (g : yH) (S : Nat → Bool) (a c x : Int) : Prop := (o = 20 ∨ o = 270) ∧ g (b + o) = some (pO b o a c x) ∧ NA g (b + (o + 4)) S ∧ (∃ F, g (b + (o + 5)) = some (aq 3 120 F) ∧ ∀ k, k < 120 → F k = some (b + (o + (10 + 2 * k)))) ∧ ∃ F, g (b + (o + 6)) = some (aq 3 120 F) ∧ ∀ k, k < 120 → F k = some (b + (o + (11 + 2 * k)))
def SP (b o : Nat) (g g' : yH) : Prop := ∀ q, q ≠ b + o → q ≠ b + (o + 4) → g' q = g q
theorem SP.r (b o : Nat) (g : yH) : SP b o g g := fun _ _ _ => rfl
theorem SP.t {b o : Nat} {g g' g'' : yH} (h1 : SP b o g g') (h2 : SP b o g' g'') : SP b o g g'' := fun q q1 q2 => (h2 q q1 q2).trans (h1 q q1 q2)
theorem PF.upO {b o : Nat} {g : yH} {S : Nat → Bool} {a c x : Int} (hf : PF b o g S a c x) (a' c' x' : Int) : PF b o (yup g (b + o) (pO b o a' c' x')) S a' c' x' := by
  obtain ⟨ho, hp, ⟨lo, hi, hL, hLb⟩, ⟨Fb, hFb, hFb2⟩, ⟨Fa, hFa, hFa2⟩⟩ := hf
  exact ⟨ho, yup_eq _ _ _, ⟨lo, hi, (yup_ne _ _ (by omega)).trans hL, hLb⟩, ⟨Fb, (yup_ne _ _ (by omega)).trans hFb, hFb2⟩, ⟨Fa, (yup_ne _ _ (by omega)).trans hFa, hFa2⟩⟩
theorem PF.upL {b o : Nat} {g : yH} {S S' : Nat → Bool} {a c x : Int} (hf : PF b o g S a c x) {lo' hi' : Int64} (hb : NB lo' hi' S') : PF b o (yup g (b + (o + 4)) (ob 0 [vl lo', vl hi'])) S' a c x := by
  obtain ⟨ho, hp, ⟨lo, hi, hL, hLb⟩, ⟨Fb, hFb, hFb2⟩, ⟨Fa, hFa, hFa2⟩⟩ := hf
  exact ⟨ho, (yup_ne _ _ (by omega)).trans hp, ⟨lo', hi', yup_eq _ _ _, hb⟩, ⟨Fb, (yup_ne _ _ (by omega)).trans hFb, hFb2⟩, ⟨Fa, (yup_ne _ _ (by omega)).trans hFa, hFa2⟩⟩
theorem SP.upO {b o : Nat} {g g' : yH} (h1 : SP b o g g') (e : yE) : SP b o g (yup g' (b + o) e) := fun q q1 q2 => (yup_ne _ _ q1).trans (h1 q q1 q2)
theorem SP.upL {b o : Nat} {g g' : yH} (h1 : SP b o g g') (e : yE) : SP b o g (yup g' (b + (o + 4)) e) := fun q q1 q2 => (yup_ne _ _ q2).trans (h1 q q1 q2)
/-- another heap that has the same cells there -/
theorem PF.on {b o : Nat} {g g' : yH} {S : Nat → Bool} {a c x : Int} (hf : PF b o g S a c x) (hq : ∀ q, b + o ≤ q → q < b + (o + 7) → g' q = g q) : PF b o g' S a c x := by
  obtain ⟨ho, hp, ⟨lo, hi, hL, hLb⟩, ⟨Fb, hFb, hFb2⟩, ⟨Fa, hFa, hFa2⟩⟩ := hf
  exact ⟨ho, (hq _ (by omega) (by omega)).trans hp, ⟨lo, hi, (hq _ (by omega) (by omega)).trans hL, hLb⟩, ⟨Fb, (hq _ (by omega) (by omega)).trans hFb, hFb2⟩, ⟨Fa, (hq _ (by omega) (by omega)).trans hFa, hFa2⟩⟩
/-- how many -/
def crd (S : Nat → Bool) : Nat → Nat
  | 0 => 0
  | k + 1 => crd S k + (if S k then 1 else 0)
theorem crd_off {S S' : Nat → Bool} : ∀ m : Nat, (∀ j, j < m → S j = S' j) → crd S m = crd S' m := by
  intro m
  induction m with
  | zero => intro _; rfl
  | succ m ih =>
    intro h
    unfold crd
    rw [ih (fun j hj => h j (by omega)), h m (by omega)]
theorem crd_add {S : Nat → Bool} {v : Nat} : ∀ m : Nat, v < m → S v = false → crd (fun j => S j || decide (j = v)) m = crd S m + 1 := by
  intro m
  induction m with
  | zero => intro h; omega
  | succ m ih =>
    intro hv hs
    unfold crd
    by_cases c : v = m
    · subst c
      rw [crd_off (S := fun j => S j || decide (j = v)) (S' := S) v (fun j hj => by simp [show j ≠ v from Nat.ne_of_lt hj])]
      simp [hs]
    · rw [ih (by omega) hs]
      have : m ≠ v := by omega
      simp [this]
      omega
theorem crd_same {S : Nat → Bool} {v : Nat} (m : Nat) (hs : S v = true) : crd (fun j => S j || decide (j = v)) m = crd S m := by
  apply crd_off
  intro j hj
  by_cases c : j = v
  · subst c; simp [hs]
  · simp [c]
theorem crd_rem {S : Nat → Bool} {v : Nat} : ∀ m : Nat, v < m → S v = true → crd (fun j => S j && !decide (j = v)) m + 1 = crd S m := by
  intro m
  induction m with
  | zero => intro h; omega
  | succ m ih =>
    intro hv hs
    unfold crd
    by_cases c : v = m
    · subst c
      rw [crd_off (S := fun j => S j && !decide (j = v)) (S' := S) v (fun j hj => by simp [show j ≠ v from Nat.ne_of_lt hj])]
      simp [hs]
    · have := ih (by omega) hs
      have h2 : m ≠ v := by omega
      simp [h2]
      omega
theorem crd_0 : ∀ m : Nat, crd (fun _ => false) m = 0 := by
  intro m
  induction m with
  | zero => rfl
  | succ m ih => unfold crd; rw [ih]; rfl
def nbits (lo hi : Int64) : Nat → Bool := fun k => if k < 64 then gb lo k else gb hi (k - 64)
theorem NA_any {h : yH} {a : Nat} {lo hi : Int64} (e : h a = some (ob 0 [vl lo, vl hi])) : NA h a (nbits lo hi) := ⟨lo, hi, e, fun k hk => ⟨by unfold nbits; rw [if_pos hk], by unfold nbits; rw [if_neg (by omega), show 64 + k - 64 = k by omega]⟩⟩
theorem NU.mi {b k N : Nat} {g h h' : yH} {lo hi : Int} {S : Nat → Bool} (hI : MI b g h) (hk : rTb k = some (3, N, lo, hi)) (hu : NU h h' (b + k) S) : MI b g h' := by
  obtain ⟨x, y, rfl, _⟩ := hu
  exact hI.up hk ⟨x, y, rfl⟩
section C73
variable {l : Launch} {G : xG} {M : xM} {d kc ks : Nat} {Φ Ψ : Option xV → yH → Nat → Prop} {h : yH} {n : Nat} {pc : Nat} {L : List (Option xV)} {st rest : List xV} {b : Nat} {g : yH}
theorem m_cvN (hM : xOK M) {N : xM} (hN : xOK N) (na : Nat) {idx d' mc ms k NN : Nat} {lo hi : Int} {As : List xV} (hI : MI b g h) (hk : rTb k = some (3, NN, lo, hi)) (hd : xat M pc = some (.invokevirtual idx, 3)) (hl : (xlb M N idx na && (xmem (.instanceMethod N.1) && (match vwCl[0]? with | some r => xmem (.selects r.1 N.1 N.1) | none => false))) = true) (hX : YM l G N d' mc ms (vr (b + k) :: As) h n Ψ) (hst : st = As.reverse ++ vr (b + k) :: rest) (hna : As.length = na)
    (kk : ∀ (v : Option xV) (h' : yH) (n' : Nat), Ψ v h' n' → YW l G M d (kc - mc) (ks - ms) Φ (pc + 3) L (v.toList ++ rest) h' n') (hd' : d' + 1 ≤ d := by omega) (hkc : mc ≤ kc := by omega) (hks : ms ≤ ks := by omega) (hrest : ((mS rest).map fun v => v.category).sum ≤ 8 := by exact Nat.le_of_ble_eq_true rfl) : YW l G M d kc ks Φ pc L st h n := by
  obtain ⟨x, y, e⟩ := hI.n hk
  exact y_cv hM hN na hd e hl hX hst hna kk hd' hkc hks hrest
variable {k : Nat} {v : Int}
theorem w_Nclear (hI : MI b g h) (hk : rTb k = some (3, 0, 0, 0)) : YM l G mX0_clear 0 0 0 [vr (b + k)] h n (PV b g n) := by
  obtain ⟨x, y, e⟩ := hI.n hk
  exact (c_Nclear (NA_any e)).imp (fun r h' n' q => ⟨q.1, q.2.1.mi hI hk, q.2.2⟩)
theorem w_Nadd (hI : MI b g h) (hk : rTb k = some (3, 0, 0, 0)) (h1 : 0 ≤ v) (h2 : v < 128) : YM l G mX0_add 0 0 0 [vr (b + k), vi v] h n (PV b g n) := by
  obtain ⟨x, y, e⟩ := hI.n hk
  exact (c_Nadd (NA_any e) h1 h2).imp (fun r h' n' q => ⟨q.1, q.2.1.mi hI hk, q.2.2⟩)
theorem w_Nremove (hI : MI b g h) (hk : rTb k = some (3, 0, 0, 0)) (h1 : 0 ≤ v) (h2 : v < 128) : YM l G mX0_remove 0 0 0 [vr (b + k), vi v] h n (PV b g n) := by
  obtain ⟨x, y, e⟩ := hI.n hk
  exact (c_Nremove (NA_any e) h1 h2).imp (fun r h' n' q => ⟨q.1, q.2.1.mi hI hk, q.2.2⟩)
theorem w_Nhas (hI : MI b g h) (hk : rTb k = some (3, 0, 0, 0)) (h1 : 0 ≤ v) (h2 : v < 128) : YM l G mX0_has 0 0 0 [vr (b + k), vi v] h n (PZ b g n 0 1) := by
  obtain ⟨x, y, e⟩ := hI.n hk
  refine (c_Nhas (NA_any e) h1 h2).imp (fun r h' n' q => ?_)
  obtain ⟨q1, rfl, q3⟩ := q
  exact ⟨_, q1, by split <;> omega, by split <;> omega, hI, q3⟩
theorem w_Nmeets {a2 : Nat} {S2 : Nat → Bool} (hI : MI b g h) (hk : rTb k = some (3, 0, 0, 0)) (h2 : NA h a2 S2) : YM l G mX0_meets 0 0 0 [vr (b + k), vr a2] h n (PZ b g n 0 1) := by
  obtain ⟨x, y, e⟩ := hI.n hk
  refine (c_Nmeets (NA_any e) h2).imp (fun r h' n' q => ?_)
  obtain ⟨⟨rfl, _⟩ | ⟨rfl, _⟩, rfl, q3⟩ := q
  · exact ⟨0, rfl, by omega, by omega, hI, q3⟩
  · exact ⟨1, rfl, by omega, by omega, hI, q3⟩
theorem w_Nkeep {k2 : Nat} (hI : MI b g h) (hk : rTb k = some (3, 0, 0, 0)) (hk2 : rTb k2 = some (3, 0, 0, 0)) (hne : b + k2 ≠ b + k) : YM l G mX0_keepThoseIn 0 0 0 [vr (b + k), vr (b + k2)] h n (PV b g n) := by
  obtain ⟨x, y, e⟩ := hI.n hk
  obtain ⟨x2, y2, e2⟩ := hI.n hk2
  exact (c_NkeepThoseIn (NA_any e) (NA_any e2) hne).imp (fun r h' n' q => ⟨q.1, q.2.1.mi hI hk, q.2.2⟩)
theorem w_Nsize (hI : MI b g h) (hk : rTb k = some (3, 0, 0, 0)) : YM l G mX0_size 1 0 0 [vr (b + k)] h n (PZ b g n 0 1000) := by
  obtain ⟨x, y, e⟩ := hI.n hk
  refine (c_Nsize e).imp (fun r h' n' q => ?_)
  obtain ⟨q1, rfl, q3⟩ := q
  have := lbc_b x
  have := lbc_b y
  exact ⟨_, q1, by omega, by omega, hI, q3⟩
variable {o : Nat} {S : Nat → Bool} {a c x : Int}
def PL (b o : Nat) (g : yH) (n : Nat) (S : Nat → Bool) (a c x : Int) : Option xV → yH → Nat → Prop := fun r h' n' => ∃ g', r = none ∧ SP b o g g' ∧ PF b o g' S a c x ∧ MI b g' h' ∧ n' = n
theorem NU.pl {h h' : yH} {S' : Nat → Bool} (hf : PF b o g S a c x) (hI : MI b g h) (hu : NU h h' (b + (o + 4)) S') : ∃ g', SP b o g g' ∧ PF b o g' S' a c x ∧ MI b g' h' := by
  obtain ⟨x, y, rfl, hb⟩ := hu
  exact ⟨_, (SP.r b o g).upL _, hf.upL hb, hI.upx _ (t4 hf.1)⟩
theorem PF.na (hf : PF b o g S a c x) (hI : MI b g h) : NA h (b + (o + 4)) S := by
  obtain ⟨ho, hp, ⟨lo, hi, hL, hLb⟩, hx⟩ := hf
  exact ⟨lo, hi, hI.x (t4 ho) hL, hLb⟩
theorem w_Lclear (hf : PF b o g S a c x) (hI : MI b g h) : YM l G mX0_clear 0 0 0 [vr (b + (o + 4))] h n (PL b o g n (fun _ => false) a c x) :=
  (c_Nclear (hf.na hI)).imp (fun r h' n' q => by
    obtain ⟨g', q1, q2, q3⟩ := NU.pl hf hI q.2.1
    exact ⟨g', q.1, q1, q2, q3, q.2.2⟩)
theorem w_Ladd (hf : PF b o g S a c x) (hI : MI b g h) (h1 : 0 ≤ v) (h2 : v < 128) : YM l G mX0_add 0 0 0 [vr (b + (o + 4)), vi v] h n (PL b o g n (fun j => S j || decide (j = v.toNat)) a c x) :=
  (c_Nadd (hf.na hI) h1 h2).imp (fun r h' n' q => by
    obtain ⟨g', q1, q2, q3⟩ := NU.pl hf hI q.2.1
    exact ⟨g', q.1, q1, q2, q3, q.2.2⟩)
theorem w_Lremove (hf : PF b o g S a c x) (hI : MI b g h) (h1 : 0 ≤ v) (h2 : v < 128) : YM l G mX0_remove 0 0 0 [vr (b + (o + 4)), vi v] h n (PL b o g n (fun j => S j && !decide (j = v.toNat)) a c x) :=
  (c_Nremove (hf.na hI) h1 h2).imp (fun r h' n' q => by
    obtain ⟨g', q1, q2, q3⟩ := NU.pl hf hI q.2.1
    exact ⟨g', q.1, q1, q2, q3, q.2.2⟩)
theorem w_Lhas (hf : PF b o g S a c x) (hI : MI b g h) (h1 : 0 ≤ v) (h2 : v < 128) : YM l G mX0_has 0 0 0 [vr (b + (o + 4)), vi v] h n (fun r h' n' => r = some (vi (if S v.toNat then 1 else 0)) ∧ h' = h ∧ n' = n) := c_Nhas (hf.na hI) h1 h2
theorem m_pP (hM : xOK M) {idx ad j : Nat} {v a' c' x' : Int} {g0 : yH} (hI : MI b g h) (hf : PF b o g S a c x) (hs : SP b o g0 g) (kk : ∀ g' h', SP b o g0 g' → PF b o g' S a' c' x' → MI b g' h' → YW l G M d kc ks Φ (pc + 3) L st h' n) (he : ∃ fs, pO b o a c x = ob 3 fs ∧ ob 3 (fs.set j (vi v)) = pO b o a' c' x' ∧ j < fs.length) (hd : xat M pc = some (.putfield idx, 3) := by rfl) (hl : M.2.2.2.2.2.2.lookup idx = some (3, j) := by rfl) (hfin : xfin 3 j = false := by rfl) (hn : narrow (xty 3 j) (den (vi v)) = den (vi v) := by rfl) (hfit : fits (xty 3 j) (den (vi v)) = true := by rfl) (ha : ad = b + o := by rfl) : YW l G M d kc ks Φ pc L (vi v :: vr ad :: st) h n := by
  obtain ⟨fs, e1, e2, e3⟩ := he
  obtain ⟨ho, hp, hx⟩ := id hf
  rw [e1] at hp
  refine m_put hM (j := j) o hI hp (fun h' hI' => ?_) (t0 ho) hd hl hfin hn hfit e3 ha
  rw [e2] at hI'
  exact kk (yup g (b + o) (pO b o a' c' x')) h' (hs.upO _) (hf.upO _ _ _) hI'
end C73
end
section
section C74
variable {l : Launch} {G : xG} {h : yH} {n : Nat}
theorem s_lb {N : Nat} {F : Nat → Int} {ad : Nat} {p q : Int} (ha : h ad = some (ai N F)) (hF : ∀ j, 0 ≤ F j ∧ F j ≤ 32) (p1 : 0 ≤ p) (p2 : p * 6 + 6 ≤ N) (q1 : 0 ≤ q) (q2 : q * 6 + 6 ≤ N) (hN : N ≤ 100000) : ∀ (m : Nat) (k : Int), (3 - k).toNat < m → 0 ≤ k → k ≤ 3 → YW l G mX6_liesBeyond 0 0 0 (fun r h' n' => (∃ v, r = some (vi v) ∧ 0 ≤ v ∧ v ≤ 1) ∧ h' = h ∧ n' = n) 2 [some (vr ad), some (vi p), some (vi q), some (vi k)] [] h n := by
  intro m
  induction m with
  | zero => intro k hm; exact absurd hm (Nat.not_lt_zero _)
  | succ m ih =>
    intro k hm k1 k2
    have f1 := hF (p * 6 + 2 * k).toNat
    have f2 := hF (q * 6 + 2 * k + 1).toNat
    refine y_run kX6_liesBeyond rfl ?_
    refine y_ic_ge kX6_liesBeyond rfl rfl (fun c1 => ?_) (fun c1 => ?_)
    · refine y_run kX6_liesBeyond rfl ?_
      exact y_zr kX6_liesBeyond rfl rfl (by omega) ⟨⟨_, rfl, by omega, by omega⟩, rfl, rfl⟩
    · refine y_run kX6_liesBeyond rfl ?_
      refine y_ia kX6_liesBeyond rfl ha (by omega) (by omega) ?_
      refine y_run kX6_liesBeyond rfl ?_
      refine y_ia kX6_liesBeyond rfl ha (by omega) (by omega) ?_
      refine y_ic_lt kX6_liesBeyond rfl rfl (fun c2 => ?_) (fun c2 => ?_)
      · refine y_run kX6_liesBeyond rfl ?_
        exact ih _ (by omega) (by omega) (by omega)
      · refine y_run kX6_liesBeyond rfl ?_
        exact y_zr kX6_liesBeyond rfl rfl (by omega) ⟨⟨_, rfl, by omega, by omega⟩, rfl, rfl⟩
theorem c_lb {N : Nat} {F : Nat → Int} {ad : Nat} {p q : Int} (ha : h ad = some (ai N F)) (hF : ∀ j, 0 ≤ F j ∧ F j ≤ 32) (p1 : 0 ≤ p) (p2 : p * 6 + 6 ≤ N) (q1 : 0 ≤ q) (q2 : q * 6 + 6 ≤ N) (hN : N ≤ 100000) : YM l G mX6_liesBeyond 0 0 0 [vr ad, vi p, vi q] h n (fun r h' n' => (∃ v, r = some (vi v) ∧ 0 ≤ v ∧ v ≤ 1) ∧ h' = h ∧ n' = n) := by
  refine YM.of kX6_liesBeyond (Nat.le_of_ble_eq_true rfl) (L0 := [some (vr ad), some (vi p), some (vi q), none]) rfl ?_
  refine y_run kX6_liesBeyond rfl ?_
  exact s_lb ha hF p1 p2 q1 q2 hN _ 0 (Nat.lt_succ_self _) (by omega) (by omega)
theorem w_overlap {b o : Nat} {g : yH} {S : Nat → Bool} {a c x : Int} (hf : PF b o g S a c x) {u v p q : Int} (u1 : 0 ≤ u) (u2 : u ≤ 4) (v1 : 0 ≤ v) (v2 : v ≤ 4) (p1 : 0 ≤ p) (p2 : p < 120) (q1 : 0 ≤ q) (q2 : q < 120) (hI : MI b g h) : YM l G mX3_overlapBetween 0 0 0 [vr (b + o), vi u, vi v, vi p, vi q] h n (PZ b g n 0 1) := by
  refine YM.of kX3_overlapBetween (Nat.le_of_ble_eq_true rfl) (L0 := [some (vr (b + o)), some (vi u), some (vi v), some (vi p), some (vi q), none, none, none, none, none, none]) rfl ?_
  obtain ⟨ho, hp, ⟨lo, hi, hL, hLb⟩, ⟨Fb, hFb, hFb2⟩, ⟨Fa, hFa, hFa2⟩⟩ := id hf
  refine y_run kX3_overlapBetween rfl ?_
  refine m_get kX3_overlapBetween (o) hI hp ?_ (t0 ho)
  refine y_run kX3_overlapBetween rfl ?_
  refine m_ia kX3_overlapBetween (o + 1) hI (t1 ho) (fun v1 v1a v1b => ?_)
  refine y_run kX3_overlapBetween rfl ?_
  refine m_get kX3_overlapBetween (o) hI hp ?_ (t0 ho)
  refine y_run kX3_overlapBetween rfl ?_
  refine m_ia kX3_overlapBetween (o + 1) hI (t1 ho) (fun v2 v2a v2b => ?_)
  refine y_run kX3_overlapBetween rfl ?_
  refine m_get kX3_overlapBetween (o) hI hp ?_ (t0 ho)
  refine y_run kX3_overlapBetween rfl ?_
  refine m_ia kX3_overlapBetween (o + 1) hI (t1 ho) (fun v3 v3a v3b => ?_)
  refine y_run kX3_overlapBetween rfl ?_
  refine m_get kX3_overlapBetween (o) hI hp ?_ (t0 ho)
  refine y_run kX3_overlapBetween rfl ?_
  refine m_ia kX3_overlapBetween (o + 1) hI (t1 ho) (fun v4 v4a v4b => ?_)
  refine y_run kX3_overlapBetween rfl ?_
  refine m_get kX3_overlapBetween (o) hI hp ?_ (t0 ho)
  refine y_run kX3_overlapBetween rfl ?_
  refine m_ia kX3_overlapBetween (o + 1) hI (t1 ho) (fun v5 v5a v5b => ?_)
  refine y_run kX3_overlapBetween rfl ?_
  refine m_get kX3_overlapBetween (o) hI hp ?_ (t0 ho)
  refine y_run kX3_overlapBetween rfl ?_
  refine m_ia kX3_overlapBetween (o + 1) hI (t1 ho) (fun v6 v6a v6b => ?_)
  refine y_run kX3_overlapBetween rfl ?_
  refine m_get kX3_overlapBetween (o) hI hp ?_ (t0 ho)
  refine y_run kX3_overlapBetween rfl ?_
  refine m_ia kX3_overlapBetween (o + 1) hI (t1 ho) (fun v7 v7a v7b => ?_)
  refine y_run kX3_overlapBetween rfl ?_
  refine m_get kX3_overlapBetween (o) hI hp ?_ (t0 ho)
  refine y_run kX3_overlapBetween rfl ?_
  refine m_ia kX3_overlapBetween (o + 1) hI (t1 ho) (fun v8 v8a v8b => ?_)
  refine y_run kX3_overlapBetween rfl ?_
  refine y_ic_ge kX3_overlapBetween rfl rfl (fun c1 => ?_) (fun c1 => ?_)
  · refine y_run kX3_overlapBetween rfl ?_
    exact y_zr kX3_overlapBetween rfl rfl (by omega) ⟨_, rfl, by omega, by omega, hI, rfl⟩
  · refine y_run kX3_overlapBetween rfl ?_
    refine y_ic_ge kX3_overlapBetween rfl rfl (fun c2 => ?_) (fun c2 => ?_)
    · refine y_run kX3_overlapBetween rfl ?_
      exact y_zr kX3_overlapBetween rfl rfl (by omega) ⟨_, rfl, by omega, by omega, hI, rfl⟩
    · refine y_run kX3_overlapBetween rfl ?_
      exact y_zr kX3_overlapBetween rfl rfl (by omega) ⟨_, rfl, by omega, by omega, hI, rfl⟩
theorem w_common {b o : Nat} {g : yH} {S : Nat → Bool} {a c x : Int} (hf : PF b o g S a c x) {p q : Int} (p1 : 0 ≤ p) (p2 : p < 120) (q1 : 0 ≤ q) (q2 : q < 120) (hI : MI b g h) : YM l G mX3_haveCommonPixel 1 0 0 [vr (b + o), vi p, vi q] h n (PZ b g n 0 1) := by
  refine YM.of kX3_haveCommonPixel (Nat.le_of_ble_eq_true rfl) (L0 := [some (vr (b + o)), some (vi p), some (vi q)]) rfl ?_
  obtain ⟨ho, hp, ⟨lo, hi, hL, hLb⟩, ⟨Fb, hFb, hFb2⟩, ⟨Fa, hFa, hFa2⟩⟩ := id hf
  refine y_run kX3_haveCommonPixel rfl ?_
  refine y_cv kX3_haveCommonPixel kX3_overlapBetween 4 rfl (hI.x (k := o) (t0 ho) hp) (by decide +kernel) (w_overlap hf (by omega) (by omega) (by omega) (by omega) (by omega) (by omega) (by omega) (by omega) hI) rfl rfl ?_
  rintro _ h _ ⟨v1, rfl, v1a, v1b, hI, rfl⟩
  refine y_if_eq kX3_haveCommonPixel rfl rfl (fun c1 => ?_) (fun c1 => ?_)
  · refine y_run kX3_haveCommonPixel rfl ?_
    exact y_zr kX3_haveCommonPixel rfl rfl (by omega) ⟨_, rfl, by omega, by omega, hI, rfl⟩
  · refine y_run kX3_haveCommonPixel rfl ?_
    refine y_cv kX3_haveCommonPixel kX3_overlapBetween 4 rfl (hI.x (k := o) (t0 ho) hp) (by decide +kernel) (w_overlap hf (by omega) (by omega) (by omega) (by omega) (by omega) (by omega) (by omega) (by omega) hI) rfl rfl ?_
    rintro _ h _ ⟨v2, rfl, v2a, v2b, hI, rfl⟩
    refine y_if_eq kX3_haveCommonPixel rfl rfl (fun c2 => ?_) (fun c2 => ?_)
    · refine y_run kX3_haveCommonPixel rfl ?_
      exact y_zr kX3_haveCommonPixel rfl rfl (by omega) ⟨_, rfl, by omega, by omega, hI, rfl⟩
    · refine y_run kX3_haveCommonPixel rfl ?_
      refine y_cv kX3_haveCommonPixel kX3_overlapBetween 4 rfl (hI.x (k := o) (t0 ho) hp) (by decide +kernel) (w_overlap hf (by omega) (by omega) (by omega) (by omega) (by omega) (by omega) (by omega) (by omega) hI) rfl rfl ?_
      rintro _ h _ ⟨v3, rfl, v3a, v3b, hI, rfl⟩
      refine y_if_eq kX3_haveCommonPixel rfl rfl (fun c3 => ?_) (fun c3 => ?_)
      · refine y_run kX3_haveCommonPixel rfl ?_
        exact y_zr kX3_haveCommonPixel rfl rfl (by omega) ⟨_, rfl, by omega, by omega, hI, rfl⟩
      · refine y_run kX3_haveCommonPixel rfl ?_
        exact y_zr kX3_haveCommonPixel rfl rfl (by omega) ⟨_, rfl, by omega, by omega, hI, rfl⟩
theorem w_relate {b o : Nat} {g : yH} {S : Nat → Bool} {a c x : Int} (hf : PF b o g S a c x) {p q : Int} (p1 : 0 ≤ p) (p2 : p < 120) (q1 : 0 ≤ q) (q2 : q < 120) (hI : MI b g h) : YM l G mX3_relate 1 0 0 [vr (b + o), vi p, vi q] h n (PV b g n) := by
  refine YM.of kX3_relate (Nat.le_of_ble_eq_true rfl) (L0 := [some (vr (b + o)), some (vi p), some (vi q), none, none, none]) rfl ?_
  obtain ⟨ho, hp, ⟨lo, hi, hL, hLb⟩, ⟨Fb, hFb, hFb2⟩, ⟨Fa, hFa, hFa2⟩⟩ := id hf
  refine y_run kX3_relate rfl ?_
  refine m_get kX3_relate (o) hI hp ?_ (t0 ho)
  refine y_run kX3_relate rfl ?_
  obtain ⟨Fv1, ev1, fv1⟩ := hI.i (t1 ho)
  refine y_csn kX3_relate kX6_liesBeyond "BoxStage" 3 rfl (by decide +kernel) (c_lb ev1 fv1 (by omega) (by omega) (by omega) (by omega) (by omega)) rfl rfl ?_
  rintro _ _ _ ⟨⟨v1, rfl, v1a, v1b⟩, rfl, rfl⟩
  refine y_run kX3_relate rfl ?_
  refine y_if_eq kX3_relate rfl rfl (fun c1 => ?_) (fun c1 => ?_)
  · refine y_run kX3_relate rfl ?_
    refine y_if_eq kX3_relate rfl rfl (fun c2 => ?_) (fun c2 => ?_)
    · refine y_run kX3_relate rfl ?_
      refine m_get kX3_relate (o) hI hp ?_ (t0 ho)
      refine y_run kX3_relate rfl ?_
      refine y_qa kX3_relate rfl (hI.x (k := o + 5) (t5 ho) hFb) rfl (by omega) (by omega) (hFb2 _ (by omega)) ?_
      refine y_run kX3_relate rfl ?_
      refine m_cvN kX3_relate kX0_add 1 hI (nT ho (by omega) (by omega)) rfl (by decide +kernel) (w_Nadd hI (nT ho (by omega) (by omega)) (by omega) (by omega)) rfl rfl ?_
      rintro _ h _ ⟨rfl, hI, rfl⟩
      refine y_run kX3_relate rfl ?_
      refine m_get kX3_relate (o) hI hp ?_ (t0 ho)
      refine y_run kX3_relate rfl ?_
      refine y_qa kX3_relate rfl (hI.x (k := o + 6) (t6 ho) hFa) rfl (by omega) (by omega) (hFa2 _ (by omega)) ?_
      refine y_run kX3_relate rfl ?_
      refine m_cvN kX3_relate kX0_add 1 hI (nT ho (by omega) (by omega)) rfl (by decide +kernel) (w_Nadd hI (nT ho (by omega) (by omega)) (by omega) (by omega)) rfl rfl ?_
      rintro _ h _ ⟨rfl, hI, rfl⟩
      exact y_vr kX3_relate rfl rfl ⟨rfl, hI, rfl⟩
    · refine y_run kX3_relate rfl ?_
      refine m_get kX3_relate (o) hI hp ?_ (t0 ho)
      refine y_run kX3_relate rfl ?_
      refine y_qa kX3_relate rfl (hI.x (k := o + 5) (t5 ho) hFb) rfl (by omega) (by omega) (hFb2 _ (by omega)) ?_
      refine y_run kX3_relate rfl ?_
      refine m_cvN kX3_relate kX0_add 1 hI (nT ho (by omega) (by omega)) rfl (by decide +kernel) (w_Nadd hI (nT ho (by omega) (by omega)) (by omega) (by omega)) rfl rfl ?_
      rintro _ h _ ⟨rfl, hI, rfl⟩
      refine y_run kX3_relate rfl ?_
      refine m_get kX3_relate (o) hI hp ?_ (t0 ho)
      refine y_run kX3_relate rfl ?_
      refine y_qa kX3_relate rfl (hI.x (k := o + 6) (t6 ho) hFa) rfl (by omega) (by omega) (hFa2 _ (by omega)) ?_
      refine y_run kX3_relate rfl ?_
      refine m_cvN kX3_relate kX0_add 1 hI (nT ho (by omega) (by omega)) rfl (by decide +kernel) (w_Nadd hI (nT ho (by omega) (by omega)) (by omega) (by omega)) rfl rfl ?_
      rintro _ h _ ⟨rfl, hI, rfl⟩
      exact y_vr kX3_relate rfl rfl ⟨rfl, hI, rfl⟩
  · refine y_run kX3_relate rfl ?_
    refine y_if_eq kX3_relate rfl rfl (fun c3 => ?_) (fun c3 => ?_)
    · refine y_run kX3_relate rfl ?_
      refine m_get kX3_relate (o) hI hp ?_ (t0 ho)
      refine y_run kX3_relate rfl ?_
      refine y_qa kX3_relate rfl (hI.x (k := o + 5) (t5 ho) hFb) rfl (by omega) (by omega) (hFb2 _ (by omega)) ?_
      refine y_run kX3_relate rfl ?_
      refine m_cvN kX3_relate kX0_add 1 hI (nT ho (by omega) (by omega)) rfl (by decide +kernel) (w_Nadd hI (nT ho (by omega) (by omega)) (by omega) (by omega)) rfl rfl ?_
      rintro _ h _ ⟨rfl, hI, rfl⟩
      refine y_run kX3_relate rfl ?_
      refine m_get kX3_relate (o) hI hp ?_ (t0 ho)
      refine y_run kX3_relate rfl ?_
      refine y_qa kX3_relate rfl (hI.x (k := o + 6) (t6 ho) hFa) rfl (by omega) (by omega) (hFa2 _ (by omega)) ?_
      refine y_run kX3_relate rfl ?_
      refine m_cvN kX3_relate kX0_add 1 hI (nT ho (by omega) (by omega)) rfl (by decide +kernel) (w_Nadd hI (nT ho (by omega) (by omega)) (by omega) (by omega)) rfl rfl ?_
      rintro _ h _ ⟨rfl, hI, rfl⟩
      exact y_vr kX3_relate rfl rfl ⟨rfl, hI, rfl⟩
    · refine y_run kX3_relate rfl ?_
      refine m_get kX3_relate (o) hI hp ?_ (t0 ho)
      refine y_run kX3_relate rfl ?_
      refine y_qa kX3_relate rfl (hI.x (k := o + 5) (t5 ho) hFb) rfl (by omega) (by omega) (hFb2 _ (by omega)) ?_
      refine y_run kX3_relate rfl ?_
      refine m_cvN kX3_relate kX0_add 1 hI (nT ho (by omega) (by omega)) rfl (by decide +kernel) (w_Nadd hI (nT ho (by omega) (by omega)) (by omega) (by omega)) rfl rfl ?_
      rintro _ h _ ⟨rfl, hI, rfl⟩
      refine y_run kX3_relate rfl ?_
      refine m_get kX3_relate (o) hI hp ?_ (t0 ho)
      refine y_run kX3_relate rfl ?_
      refine y_qa kX3_relate rfl (hI.x (k := o + 6) (t6 ho) hFa) rfl (by omega) (by omega) (hFa2 _ (by omega)) ?_
      refine y_run kX3_relate rfl ?_
      refine m_cvN kX3_relate kX0_add 1 hI (nT ho (by omega) (by omega)) rfl (by decide +kernel) (w_Nadd hI (nT ho (by omega) (by omega)) (by omega) (by omega)) rfl rfl ?_
      rintro _ h _ ⟨rfl, hI, rfl⟩
      exact y_vr kX3_relate rfl rfl ⟨rfl, hI, rfl⟩
theorem s_bringIn {b o : Nat} {g : yH} {S : Nat → Bool} {a c x : Int} (hf : PF b o g S a c x) {p : Int} (p1 : 0 ≤ p) (p2 : p < 120) (x1 : 0 ≤ x) (x2 : x ≤ 120) {g0 : yH} (hs : SP b o g0 g) : ∀ (m : Nat) (q : Int) (h : yH), (x - q).toNat < m → 0 ≤ q → q ≤ x → MI b g h → YW l G mX3_bringIn 2 0 0 (PL b o g0 n S a c x) 28 [some (vr (b + o)), some (vi p), some (vi q)] [] h n := by
  intro m
  induction m with
  | zero => intro q h hm; exact absurd hm (Nat.not_lt_zero _)
  | succ m ih =>
    intro q h hmm j0 j1 hI
    obtain ⟨ho, hp, ⟨lo, hi, hL, hLb⟩, ⟨Fb, hFb, hFb2⟩, ⟨Fa, hFa, hFa2⟩⟩ := id hf
    refine y_run kX3_bringIn rfl ?_
    refine m_get kX3_bringIn (o) hI hp ?_ (t0 ho)
    refine y_ic_ge kX3_bringIn rfl rfl (fun c1 => ?_) (fun c1 => ?_)
    · exact y_vr kX3_bringIn rfl rfl ⟨_, rfl, hs, hf, hI, rfl⟩
    · refine y_run kX3_bringIn rfl ?_
      refine y_ic_eq kX3_bringIn rfl rfl (fun c2 => ?_) (fun c2 => ?_)
      · refine y_run kX3_bringIn rfl ?_
        exact ih _ _ (by omega) (by omega) (by omega) hI
      · refine y_run kX3_bringIn rfl ?_
        refine m_get kX3_bringIn (o) hI hp ?_ (t0 ho)
        refine y_run kX3_bringIn rfl ?_
        refine y_cv kX3_bringIn kX0_has 1 rfl (hI.x (k := o + 4) (t4 ho) hL) (by decide +kernel) (w_Lhas hf hI (by omega) (by omega)) rfl rfl ?_
        rintro _ _ _ ⟨rfl, rfl, rfl⟩
        refine y_beq kX3_bringIn rfl rfl (fun c3 => ?_) (fun c3 => ?_)
        · refine y_run kX3_bringIn rfl ?_
          exact ih _ _ (by omega) (by omega) (by omega) hI
        · refine y_run kX3_bringIn rfl ?_
          refine m_get kX3_bringIn (o) hI hp ?_ (t0 ho)
          refine y_run kX3_bringIn rfl ?_
          refine y_qa kX3_bringIn rfl (hI.x (k := o + 5) (t5 ho) hFb) rfl (by omega) (by omega) (hFb2 _ (by omega)) ?_
          refine y_run kX3_bringIn rfl ?_
          refine m_cvN kX3_bringIn kX0_remove 1 hI (nT ho (by omega) (by omega)) rfl (by decide +kernel) (w_Nremove hI (nT ho (by omega) (by omega)) (by omega) (by omega)) rfl rfl ?_
          rintro _ h _ ⟨rfl, hI, rfl⟩
          refine y_run kX3_bringIn rfl ?_
          refine m_get kX3_bringIn (o) hI hp ?_ (t0 ho)
          refine y_run kX3_bringIn rfl ?_
          refine y_qa kX3_bringIn rfl (hI.x (k := o + 6) (t6 ho) hFa) rfl (by omega) (by omega) (hFa2 _ (by omega)) ?_
          refine y_run kX3_bringIn rfl ?_
          refine m_cvN kX3_bringIn kX0_remove 1 hI (nT ho (by omega) (by omega)) rfl (by decide +kernel) (w_Nremove hI (nT ho (by omega) (by omega)) (by omega) (by omega)) rfl rfl ?_
          rintro _ h _ ⟨rfl, hI, rfl⟩
          refine y_run kX3_bringIn rfl ?_
          refine y_cv kX3_bringIn kX3_haveCommonPixel 2 rfl (hI.x (k := o) (t0 ho) hp) (by decide +kernel) (w_common hf (by omega) (by omega) (by omega) (by omega) hI) rfl rfl ?_
          rintro _ h _ ⟨v4, rfl, v4a, v4b, hI, rfl⟩
          refine y_if_eq kX3_bringIn rfl rfl (fun c4 => ?_) (fun c4 => ?_)
          · refine y_run kX3_bringIn rfl ?_
            exact ih _ _ (by omega) (by omega) (by omega) hI
          · refine y_run kX3_bringIn rfl ?_
            refine y_cv kX3_bringIn kX3_relate 2 rfl (hI.x (k := o) (t0 ho) hp) (by decide +kernel) (w_relate hf (by omega) (by omega) (by omega) (by omega) hI) rfl rfl ?_
            rintro _ h _ ⟨rfl, hI, rfl⟩
            refine y_run kX3_bringIn rfl ?_
            exact ih _ _ (by omega) (by omega) (by omega) hI
theorem w_bringIn {b o : Nat} {g : yH} {S : Nat → Bool} {a c x : Int} (hf : PF b o g S a c x) {p : Int} (p1 : 0 ≤ p) (p2 : p < 120) (x1 : 0 ≤ x) (x2 : x ≤ 120) (hI : MI b g h) : YM l G mX3_bringIn 2 0 0 [vr (b + o), vi p] h n (PL b o g n (fun j => S j || decide (j = p.toNat)) a c x) := by
  refine YM.of kX3_bringIn (Nat.le_of_ble_eq_true rfl) (L0 := [some (vr (b + o)), some (vi p), none]) rfl ?_
  obtain ⟨ho, hp, ⟨lo, hi, hL, hLb⟩, ⟨Fb, hFb, hFb2⟩, ⟨Fa, hFa, hFa2⟩⟩ := id hf
  have hs := SP.r b o g
  refine y_run kX3_bringIn rfl ?_
  refine m_get kX3_bringIn (o) hI hp ?_ (t0 ho)
  refine y_run kX3_bringIn rfl ?_
  refine y_cv kX3_bringIn kX0_add 1 rfl (hI.x (k := o + 4) (t4 ho) hL) (by decide +kernel) (w_Ladd hf hI (by omega) (by omega)) rfl rfl ?_
  rintro _ h _ ⟨g, rfl, hs2, hf, hI, rfl⟩
  replace hs := hs.t hs2
  obtain ⟨ho, hp, ⟨lo, hi, hL, hLb⟩, ⟨Fb, hFb, hFb2⟩, ⟨Fa, hFa, hFa2⟩⟩ := id hf
  refine y_run kX3_bringIn rfl ?_
  refine m_get kX3_bringIn (o) hI hp ?_ (t0 ho)
  refine y_run kX3_bringIn rfl ?_
  refine y_qa kX3_bringIn rfl (hI.x (k := o + 5) (t5 ho) hFb) rfl (by omega) (by omega) (hFb2 _ (by omega)) ?_
  refine m_cvN kX3_bringIn kX0_clear 0 hI (nT ho (by omega) (by omega)) rfl (by decide +kernel) (w_Nclear hI (nT ho (by omega) (by omega))) rfl rfl ?_
  rintro _ h _ ⟨rfl, hI, rfl⟩
  refine y_run kX3_bringIn rfl ?_
  refine m_get kX3_bringIn (o) hI hp ?_ (t0 ho)
  refine y_run kX3_bringIn rfl ?_
  refine y_qa kX3_bringIn rfl (hI.x (k := o + 6) (t6 ho) hFa) rfl (by omega) (by omega) (hFa2 _ (by omega)) ?_
  refine m_cvN kX3_bringIn kX0_clear 0 hI (nT ho (by omega) (by omega)) rfl (by decide +kernel) (w_Nclear hI (nT ho (by omega) (by omega))) rfl rfl ?_
  rintro _ h _ ⟨rfl, hI, rfl⟩
  refine y_run kX3_bringIn rfl ?_
  exact s_bringIn hf p1 p2 x1 x2 hs _ 0 _ (Nat.lt_succ_self _) (by omega) (by omega) hI
theorem s_lowestFree {b o : Nat} {g : yH} {S : Nat → Bool} {a c x : Int} (hf : PF b o g S a c x) (x1 : 0 ≤ x) (x2 : x ≤ 120) : ∀ (m : Nat) (q : Int) (h : yH), (x - q).toNat < m → 0 ≤ q → q ≤ x → MI b g h → YW l G mX3_lowestFree 1 0 0 (fun r h' n' => ∃ v, r = some (vi v) ∧ (v = -1 ∨ (0 ≤ v ∧ v < x ∧ S v.toNat = true)) ∧ MI b g h' ∧ n' = n) 2 [some (vr (b + o)), some (vi q)] [] h n := by
  intro m
  induction m with
  | zero => intro q h hm; exact absurd hm (Nat.not_lt_zero _)
  | succ m ih =>
    intro q h hmm j0 j1 hI
    obtain ⟨ho, hp, ⟨lo, hi, hL, hLb⟩, ⟨Fb, hFb, hFb2⟩, ⟨Fa, hFa, hFa2⟩⟩ := id hf
    refine y_run kX3_lowestFree rfl ?_
    refine m_get kX3_lowestFree (o) hI hp ?_ (t0 ho)
    refine y_ic_ge kX3_lowestFree rfl rfl (fun c1 => ?_) (fun c1 => ?_)
    · refine y_run kX3_lowestFree rfl ?_
      first | exact y_ir kX3_lowestFree rfl rfl ⟨_, rfl, Or.inl rfl, hI, rfl⟩ | exact y_ir kX3_lowestFree rfl rfl ⟨_, rfl, Or.inr ⟨by omega, by omega, c2⟩, hI, rfl⟩
    · refine y_run kX3_lowestFree rfl ?_
      refine m_get kX3_lowestFree (o) hI hp ?_ (t0 ho)
      refine y_run kX3_lowestFree rfl ?_
      refine y_cv kX3_lowestFree kX0_has 1 rfl (hI.x (k := o + 4) (t4 ho) hL) (by decide +kernel) (w_Lhas hf hI (by omega) (by omega)) rfl rfl ?_
      rintro _ _ _ ⟨rfl, rfl, rfl⟩
      refine y_beq kX3_lowestFree rfl rfl (fun c2 => ?_) (fun c2 => ?_)
      · refine y_run kX3_lowestFree rfl ?_
        exact ih _ _ (by omega) (by omega) (by omega) hI
      · refine y_run kX3_lowestFree rfl ?_
        refine m_get kX3_lowestFree (o) hI hp ?_ (t0 ho)
        refine y_run kX3_lowestFree rfl ?_
        refine y_qa kX3_lowestFree rfl (hI.x (k := o + 5) (t5 ho) hFb) rfl (by omega) (by omega) (hFb2 _ (by omega)) ?_
        refine y_run kX3_lowestFree rfl ?_
        refine m_get kX3_lowestFree (o) hI hp ?_ (t0 ho)
        refine m_cvN kX3_lowestFree kX0_meets 1 hI (nT ho (by omega) (by omega)) rfl (by decide +kernel) (w_Nmeets hI (nT ho (by omega) (by omega)) (hf.na hI)) rfl rfl ?_
        rintro _ h _ ⟨v2, rfl, v2a, v2b, hI, rfl⟩
        refine y_if_ne kX3_lowestFree rfl rfl (fun c3 => ?_) (fun c3 => ?_)
        · refine y_run kX3_lowestFree rfl ?_
          exact ih _ _ (by omega) (by omega) (by omega) hI
        · refine y_run kX3_lowestFree rfl ?_
          first | exact y_ir kX3_lowestFree rfl rfl ⟨_, rfl, Or.inl rfl, hI, rfl⟩ | exact y_ir kX3_lowestFree rfl rfl ⟨_, rfl, Or.inr ⟨by omega, by omega, c2⟩, hI, rfl⟩
theorem w_lowestFree {b o : Nat} {g : yH} {S : Nat → Bool} {a c x : Int} (hf : PF b o g S a c x) (x1 : 0 ≤ x) (x2 : x ≤ 120) (hI : MI b g h) : YM l G mX3_lowestFree 1 0 0 [vr (b + o)] h n (fun r h' n' => ∃ v, r = some (vi v) ∧ (v = -1 ∨ (0 ≤ v ∧ v < x ∧ S v.toNat = true)) ∧ MI b g h' ∧ n' = n) := by
  refine YM.of kX3_lowestFree (Nat.le_of_ble_eq_true rfl) (L0 := [some (vr (b + o)), none]) rfl ?_
  obtain ⟨ho, hp, ⟨lo, hi, hL, hLb⟩, ⟨Fb, hFb, hFb2⟩, ⟨Fa, hFa, hFa2⟩⟩ := id hf
  refine y_run kX3_lowestFree rfl ?_
  exact s_lowestFree hf x1 x2 _ 0 _ (Nat.lt_succ_self _) (by omega) (by omega) hI
theorem s_lowestPlane {b o : Nat} {g : yH} {S : Nat → Bool} {a c x : Int} (hf : PF b o g S a c x) {p y : Int} (p1 : 0 ≤ p) (p2 : p < 120) (y1 : 0 ≤ y) (y2 : y < 3) (x1 : 0 ≤ x) (x2 : x ≤ 120) {e f : Int} (e1 : 0 ≤ e) (e2 : e ≤ 32) (f1 : 0 ≤ f) (f2 : f ≤ 32) : ∀ (m : Nat) (q : Int) (z : Int) (u7 : Option xV) (u8 : Option xV) (h : yH), (x - q).toNat < m → 0 ≤ q → q ≤ x → 0 ≤ z → z ≤ 32 → MI b g h → YW l G mX3_lowestPlane 1 0 0 (PZ b g n (-1) 32) 38 [some (vr (b + o)), some (vi p), some (vi y), some (vi e), some (vi f), some (vi z), some (vi q), u7, u8] [] h n := by
  intro m
  induction m with
  | zero => intro q z u7 u8 h hm; exact absurd hm (Nat.not_lt_zero _)
  | succ m ih =>
    intro q z u7 u8 h hmm j0 j1 j2 j3 hI
    obtain ⟨ho, hp, ⟨lo, hi, hL, hLb⟩, ⟨Fb, hFb, hFb2⟩, ⟨Fa, hFa, hFa2⟩⟩ := id hf
    refine y_run kX3_lowestPlane rfl ?_
    refine m_get kX3_lowestPlane (o) hI hp ?_ (t0 ho)
    refine y_ic_ge kX3_lowestPlane rfl rfl (fun c1 => ?_) (fun c1 => ?_)
    · refine y_run kX3_lowestPlane rfl ?_
      refine y_ic_ge kX3_lowestPlane rfl rfl (fun c2 => ?_) (fun c2 => ?_)
      · refine y_run kX3_lowestPlane rfl ?_
        exact y_ir kX3_lowestPlane rfl rfl ⟨_, rfl, by omega, by omega, hI, rfl⟩
      · refine y_run kX3_lowestPlane rfl ?_
        exact y_ir kX3_lowestPlane rfl rfl ⟨_, rfl, by omega, by omega, hI, rfl⟩
    · refine y_run kX3_lowestPlane rfl ?_
      refine m_get kX3_lowestPlane (o) hI hp ?_ (t0 ho)
      refine y_run kX3_lowestPlane rfl ?_
      refine m_cvN kX3_lowestPlane kX0_has 1 hI (nT ho (by omega) (by omega)) rfl (by decide +kernel) (w_Nhas hI (nT ho (by omega) (by omega)) (by omega) (by omega)) rfl rfl ?_
      rintro _ h _ ⟨v1, rfl, v1a, v1b, hI, rfl⟩
      refine y_if_eq kX3_lowestPlane rfl rfl (fun c3 => ?_) (fun c3 => ?_)
      · refine y_run kX3_lowestPlane rfl ?_
        exact ih _ _ _ _ _ (by omega) (by omega) (by omega) (by omega) (by omega) hI
      · refine y_run kX3_lowestPlane rfl ?_
        refine m_get kX3_lowestPlane (o) hI hp ?_ (t0 ho)
        refine y_run kX3_lowestPlane rfl ?_
        refine m_ia kX3_lowestPlane (o + 1) hI (t1 ho) (fun v2 v2a v2b => ?_)
        refine y_run kX3_lowestPlane rfl ?_
        refine m_get kX3_lowestPlane (o) hI hp ?_ (t0 ho)
        refine y_run kX3_lowestPlane rfl ?_
        refine m_ia kX3_lowestPlane (o + 1) hI (t1 ho) (fun v3 v3a v3b => ?_)
        refine y_run kX3_lowestPlane rfl ?_
        refine y_ic_le kX3_lowestPlane rfl rfl (fun c4 => ?_) (fun c4 => ?_)
        · refine y_run kX3_lowestPlane rfl ?_
          refine y_ic_le kX3_lowestPlane rfl rfl (fun c5 => ?_) (fun c5 => ?_)
          · refine y_run kX3_lowestPlane rfl ?_
            exact ih _ _ _ _ _ (by omega) (by omega) (by omega) (by omega) (by omega) hI
          · refine y_run kX3_lowestPlane rfl ?_
            refine y_mn kX3_lowestPlane rfl (by decide +kernel) ?_
            refine y_run kX3_lowestPlane rfl ?_
            exact ih _ _ _ _ _ (by omega) (by omega) (by omega) (by omega) (by omega) hI
        · refine y_run kX3_lowestPlane rfl ?_
          refine y_mn kX3_lowestPlane rfl (by decide +kernel) ?_
          refine y_run kX3_lowestPlane rfl ?_
          refine y_ic_le kX3_lowestPlane rfl rfl (fun c6 => ?_) (fun c6 => ?_)
          · refine y_run kX3_lowestPlane rfl ?_
            exact ih _ _ _ _ _ (by omega) (by omega) (by omega) (by omega) (by omega) hI
          · refine y_run kX3_lowestPlane rfl ?_
            refine y_mn kX3_lowestPlane rfl (by decide +kernel) ?_
            refine y_run kX3_lowestPlane rfl ?_
            exact ih _ _ _ _ _ (by omega) (by omega) (by omega) (by omega) (by omega) hI
theorem w_lowestPlane {b o : Nat} {g : yH} {S : Nat → Bool} {a c x : Int} (hf : PF b o g S a c x) {p y : Int} (p1 : 0 ≤ p) (p2 : p < 120) (y1 : 0 ≤ y) (y2 : y < 3) (x1 : 0 ≤ x) (x2 : x ≤ 120) (hI : MI b g h) : YM l G mX3_lowestPlane 1 0 0 [vr (b + o), vi p, vi y] h n (PZ b g n (-1) 32) := by
  refine YM.of kX3_lowestPlane (Nat.le_of_ble_eq_true rfl) (L0 := [some (vr (b + o)), some (vi p), some (vi y), none, none, none, none, none, none]) rfl ?_
  obtain ⟨ho, hp, ⟨lo, hi, hL, hLb⟩, ⟨Fb, hFb, hFb2⟩, ⟨Fa, hFa, hFa2⟩⟩ := id hf
  refine y_run kX3_lowestPlane rfl ?_
  refine m_get kX3_lowestPlane (o) hI hp ?_ (t0 ho)
  refine y_run kX3_lowestPlane rfl ?_
  refine m_ia kX3_lowestPlane (o + 1) hI (t1 ho) (fun v1 v1a v1b => ?_)
  refine y_run kX3_lowestPlane rfl ?_
  refine m_get kX3_lowestPlane (o) hI hp ?_ (t0 ho)
  refine y_run kX3_lowestPlane rfl ?_
  refine m_ia kX3_lowestPlane (o + 1) hI (t1 ho) (fun v2 v2a v2b => ?_)
  refine y_run kX3_lowestPlane rfl ?_
  exact s_lowestPlane hf p1 p2 y1 y2 x1 x2 (by omega) (by omega) (by omega) (by omega) _ 0 _ _ _ _ (Nat.lt_succ_self _) (by omega) (by omega) (by omega) (by omega) hI
end C74
end
section
theorem NU.na {h h' : yH} {a : Nat} {S : Nat → Bool} (hu : NU h h' a S) : NA h' a S := by
  obtain ⟨x, y, rfl, hb⟩ := hu
  exact ⟨x, y, yup_eq _ _ _, hb⟩
theorem NU.ne {h h' : yH} {a q : Nat} {S : Nat → Bool} (hu : NU h h' a S) (hq : q ≠ a) : h' q = h q := by
  obtain ⟨x, y, rfl, hb⟩ := hu
  exact yup_ne _ _ hq
theorem NA.on {h h' : yH} {a : Nat} {S : Nat → Bool} (hn : NA h a S) (hq : h' a = h a) : NA h' a S := by
  obtain ⟨x, y, e, hb⟩ := hn
  exact ⟨x, y, hq.trans e, hb⟩
theorem NA.ob {h : yH} {a : Nat} {S : Nat → Bool} (hn : NA h a S) : ∃ x y : Int64, h a = some (ob 0 [vl x, vl y]) := by
  obtain ⟨x, y, e, _⟩ := hn
  exact ⟨x, y, e⟩
section C75
variable {l : Launch} {G : xG} {h : yH} {n : Nat}
theorem s_follow {b o : Nat} {g : yH} {S : Nat → Bool} {a c x : Int} (hf : PF b o g S a c x) (hS : ∀ k, S k = true → k < 120) {kr ε φ : Nat} {Fr : Nat → Option Nat} {p : Int} (hk : rTb kr = none) (hr : g (b + kr) = some (aq 3 120 Fr)) (hr2 : ∀ k, k < 120 → Fr k = some (b + (o + (ε + 2 * k)))) (hε : ε = 10 ∨ ε = 11) (hφ : φ = 7 ∨ φ = 8) : ∀ (m : Nat) (q : Int) (u5 : Option xV) (S9 : Nat → Bool) (h : yH), (120 - q).toNat < m → 0 ≤ q → q ≤ 120 → NA h (b + (o + 9)) S9 → (∀ k, k < 128 → S9 k = true → S k = true) → MI b g h → YW l G mX3_follow 2 0 0 (PV b g n) 28 [some (vr (b + o)), some (vr (b + kr)), some (vi p), some (vr (b + (o + φ))), some (vi q), u5] [] h n := by
  intro m
  induction m with
  | zero => intro q u5 S9 h hm; exact absurd hm (Nat.not_lt_zero _)
  | succ m ih =>
    intro q u5 S9 h hmm j0 j1 hN hsub hI
    obtain ⟨ho, hp, ⟨lo, hi, hL, hLb⟩, ⟨Fb, hFb, hFb2⟩, ⟨Fa, hFa, hFa2⟩⟩ := id hf
    refine y_run kX3_follow rfl ?_
    refine y_ic_ge kX3_follow rfl rfl (fun c1 => ?_) (fun c1 => ?_)
    · exact y_vr kX3_follow rfl rfl ⟨rfl, hI, rfl⟩
    · refine y_run kX3_follow rfl ?_
      refine m_get kX3_follow (o) hI hp ?_ (t0 ho)
      obtain ⟨x9, y9, e9⟩ := hN.ob
      refine y_cv kX3_follow kX0_isEmpty 0 rfl e9 (by decide +kernel) (c_NisEmpty hN) rfl rfl ?_
      rintro _ _ _ ⟨⟨rfl, q1⟩ | ⟨rfl, q1⟩, rfl, rfl⟩
      · refine y_if_ne kX3_follow rfl rfl (fun _ => ?_) (fun q => absurd q (by omega))
        exact y_vr kX3_follow rfl rfl ⟨rfl, hI, rfl⟩
      · refine y_if_ne kX3_follow rfl rfl (fun q => absurd rfl q) (fun _ => ?_)
        refine y_run kX3_follow rfl ?_
        refine m_get kX3_follow (o) hI hp ?_ (t0 ho)
        refine y_cv kX3_follow kX0_lowest 0 rfl e9 (by decide +kernel) (c_Nlowest hN q1) rfl rfl ?_
        rintro _ _ _ ⟨⟨k, k1, k2, k3, rfl⟩, rfl, rfl⟩
        have k4 : k < 120 := hS k (hsub k k1 k2)
        refine y_run kX3_follow rfl ?_
        obtain ⟨xf, yf, ef⟩ := hI.n (k := o + φ) (nT ho (by omega) (by omega))
        refine y_cv kX3_follow kX0_add 1 rfl ef (by decide +kernel) (c_Nadd (NA_any ef) (v := (k : Int)) (by omega) (by omega)) rfl rfl ?_
        rintro _ h1 _ ⟨rfl, hu, rfl⟩
        replace hI := hu.mi hI (nT ho (by omega) (by omega))
        replace hN := hN.on (hu.ne (by omega))
        refine y_run kX3_follow rfl ?_
        refine m_get kX3_follow (o) hI hp ?_ (t0 ho)
        refine y_run kX3_follow rfl ?_
        refine y_qa kX3_follow rfl (hI.x (k := kr) hk hr) rfl (by omega) (by omega) (hr2 _ (by omega)) ?_
        obtain ⟨x9, y9, e9⟩ := hN.ob
        obtain ⟨xr, yr, er⟩ := hI.n (k := o + (ε + 2 * (k : Int).toNat)) (nT ho (by omega) (by omega))
        refine y_cv kX3_follow kX0_addAll 1 rfl e9 (by decide +kernel) (c_NaddAll hN (NA_any er) (by omega)) rfl rfl ?_
        rintro _ h2 _ ⟨rfl, hu, rfl⟩
        replace hI := hu.mi hI (nT ho (by omega) (by omega))
        have hN := hu.na
        refine y_run kX3_follow rfl ?_
        refine m_get kX3_follow (o) hI hp ?_ (t0 ho)
        refine y_run kX3_follow rfl ?_
        refine m_get kX3_follow (o) hI hp ?_ (t0 ho)
        obtain ⟨x9, y9, e9⟩ := hN.ob
        refine y_cv kX3_follow kX0_keepThoseIn 1 rfl e9 (by decide +kernel) (c_NkeepThoseIn hN (hf.na hI) (by omega)) rfl rfl ?_
        rintro _ h3 _ ⟨rfl, hu, rfl⟩
        replace hI := hu.mi hI (nT ho (by omega) (by omega))
        have hN := hu.na
        refine y_run kX3_follow rfl ?_
        refine m_get kX3_follow (o) hI hp ?_ (t0 ho)
        refine y_run kX3_follow rfl ?_
        obtain ⟨x9, y9, e9⟩ := hN.ob
        obtain ⟨xf, yf, ef⟩ := hI.n (k := o + φ) (nT ho (by omega) (by omega))
        refine y_cv kX3_follow kX0_removeAll 1 rfl e9 (by decide +kernel) (c_NremoveAll hN (NA_any ef) (by omega)) rfl rfl ?_
        rintro _ h4 _ ⟨rfl, hu, rfl⟩
        replace hI := hu.mi hI (nT ho (by omega) (by omega))
        have hN := hu.na
        refine y_run kX3_follow rfl ?_
        refine ih _ _ _ _ (by omega) (by omega) (by omega) hN (fun k' _ hk' => ?_) hI
        simp only [Bool.and_eq_true] at hk'
        exact hk'.1.2
theorem w_follow {b o : Nat} {g : yH} {S : Nat → Bool} {a c x : Int} (hf : PF b o g S a c x) (hS : ∀ k, S k = true → k < 120) {kr ε φ : Nat} {Fr : Nat → Option Nat} {p : Int} (hk : rTb kr = none) (hr : g (b + kr) = some (aq 3 120 Fr)) (hr2 : ∀ k, k < 120 → Fr k = some (b + (o + (ε + 2 * k)))) (hε : ε = 10 ∨ ε = 11) (hφ : φ = 7 ∨ φ = 8) (p1 : 0 ≤ p) (p2 : p < 120) (hI : MI b g h) : YM l G mX3_follow 2 0 0 [vr (b + o), vr (b + kr), vi p, vr (b + (o + φ))] h n (PV b g n) := by
  refine YM.of kX3_follow (Nat.le_of_ble_eq_true rfl) (L0 := [some (vr (b + o)), some (vr (b + kr)), some (vi p), some (vr (b + (o + φ))), none, none]) rfl ?_
  obtain ⟨ho, hp, ⟨lo, hi, hL, hLb⟩, ⟨Fb, hFb, hFb2⟩, ⟨Fa, hFa, hFa2⟩⟩ := id hf
  refine y_run kX3_follow rfl ?_
  refine m_cvN kX3_follow kX0_clear 0 hI (nT ho (by omega) (by omega)) rfl (by decide +kernel) (w_Nclear hI (nT ho (by omega) (by omega))) rfl rfl ?_
  rintro _ h _ ⟨rfl, hI, rfl⟩
  refine y_run kX3_follow rfl ?_
  refine m_get kX3_follow (o) hI hp ?_ (t0 ho)
  refine y_run kX3_follow rfl ?_
  refine y_qa kX3_follow rfl (hI.x (k := kr) hk hr) rfl (by omega) (by omega) (hr2 _ (by omega)) ?_
  obtain ⟨x9, y9, e9⟩ := hI.n (k := o + 9) (nT ho (by omega) (by omega))
  obtain ⟨xr, yr, er⟩ := hI.n (k := o + (ε + 2 * p.toNat)) (nT ho (by omega) (by omega))
  refine y_cv kX3_follow kX0_copyFrom 1 rfl e9 (by decide +kernel) (c_NcopyFrom (NA_any e9) (NA_any er) (by omega)) rfl rfl ?_
  rintro _ h2 _ ⟨rfl, hu, rfl⟩
  replace hI := hu.mi hI (nT ho (by omega) (by omega))
  have hN := hu.na
  refine y_run kX3_follow rfl ?_
  refine m_get kX3_follow (o) hI hp ?_ (t0 ho)
  refine y_run kX3_follow rfl ?_
  refine m_get kX3_follow (o) hI hp ?_ (t0 ho)
  obtain ⟨x9, y9, e9⟩ := hN.ob
  refine y_cv kX3_follow kX0_keepThoseIn 1 rfl e9 (by decide +kernel) (c_NkeepThoseIn hN (hf.na hI) (by omega)) rfl rfl ?_
  rintro _ h3 _ ⟨rfl, hu, rfl⟩
  replace hI := hu.mi hI (nT ho (by omega) (by omega))
  have hN := hu.na
  refine y_run kX3_follow rfl ?_
  refine s_follow hf hS hk hr hr2 hε hφ _ 0 _ _ _ (Nat.lt_succ_self _) (by omega) (by omega) hN (fun k' _ hk' => ?_) hI
  simp only [Bool.and_eq_true] at hk'
  exact hk'.2
theorem w_findTangle {b o : Nat} {g : yH} {S : Nat → Bool} {a c x : Int} (hf : PF b o g S a c x) (hS : ∀ k, S k = true → k < 120) {p : Int} (p1 : 0 ≤ p) (p2 : p < 120) (hI : MI b g h) : YM l G mX3_findTangle 3 0 0 [vr (b + o), vi p] h n (PV b g n) := by
  refine YM.of kX3_findTangle (Nat.le_of_ble_eq_true rfl) (L0 := [some (vr (b + o)), some (vi p)]) rfl ?_
  obtain ⟨ho, hp, ⟨lo, hi, hL, hLb⟩, ⟨Fb, hFb, hFb2⟩, ⟨Fa, hFa, hFa2⟩⟩ := id hf
  refine y_run kX3_findTangle rfl ?_
  refine m_get kX3_findTangle (o) hI hp ?_ (t0 ho)
  refine y_run kX3_findTangle rfl ?_
  refine m_get kX3_findTangle (o) hI hp ?_ (t0 ho)
  refine y_cv kX3_findTangle kX3_follow 3 rfl (hI.x (k := o) (t0 ho) hp) (by decide +kernel) (w_follow (φ := 7) hf hS (t5 ho) hFb hFb2 (Or.inl rfl) (Or.inl rfl) p1 p2 hI) rfl rfl ?_
  rintro _ h _ ⟨rfl, hI, rfl⟩
  refine y_run kX3_findTangle rfl ?_
  refine m_get kX3_findTangle (o) hI hp ?_ (t0 ho)
  refine y_run kX3_findTangle rfl ?_
  refine m_get kX3_findTangle (o) hI hp ?_ (t0 ho)
  refine y_cv kX3_findTangle kX3_follow 3 rfl (hI.x (k := o) (t0 ho) hp) (by decide +kernel) (w_follow (φ := 8) hf hS (t6 ho) hFa hFa2 (Or.inr rfl) (Or.inr rfl) p1 p2 hI) rfl rfl ?_
  rintro _ h _ ⟨rfl, hI, rfl⟩
  refine y_run kX3_findTangle rfl ?_
  refine m_get kX3_findTangle (o) hI hp ?_ (t0 ho)
  refine y_run kX3_findTangle rfl ?_
  refine m_get kX3_findTangle (o) hI hp ?_ (t0 ho)
  refine m_cvN kX3_findTangle kX0_keepThoseIn 1 hI (nT ho (by omega) (by omega)) rfl (by decide +kernel) (w_Nkeep hI (nT ho (by omega) (by omega)) (nT ho (by omega) (by omega)) (by omega)) rfl rfl ?_
  rintro _ h _ ⟨rfl, hI, rfl⟩
  exact y_vr kX3_findTangle rfl rfl ⟨rfl, hI, rfl⟩
end C75
end
section
section C76
variable {l : Launch} {G : xG} {M : xM} {d kc ks : Nat} {Φ Ψ : Option xV → yH → Nat → Prop} {h : yH} {n : Nat} {pc : Nat} {L : List (Option xV)} {st rest : List xV} {b : Nat} {g : yH}
theorem m_copy (hM : xOK M) {idx a0 a N0 N : Nat} {f : Nat → Int} {lo hi sp dp z : Int} (k : Nat) (hI : MI b g h) (hk : rTb k = some (0, N, lo, hi)) (e0 : h a0 = some (ai N0 f)) (f0 : ∀ j, lo ≤ f j ∧ f j ≤ hi) (kk : ∀ h', MI b g h' → YW l G M d kc ks Φ (pc + 3) L st h' n) (g1 : 0 ≤ sp := by omega) (g2 : 0 ≤ dp := by omega) (g3 : 0 ≤ z := by omega) (g4 : sp + z ≤ N0 := by omega) (g5 : dp + z ≤ N := by omega) (c4 : (N0 : Int) < 2147483648 := by omega) (c5 : (N : Int) < 2147483648 := by omega) (hd : xat M pc = some (.invokestatic idx, 3) := by rfl) (hl : (xmem (.methodLink M.1.cls idx arraycopyName) && (xmem (.native arraycopyName) && (xmem (.static arraycopyName) && xmem (.initialized "java/lang/System")))) = true := by decide +kernel) (ha : a = b + k := by rfl) (hd1 : 1 ≤ d := by omega) (hrest : ((mS st).map fun v => v.category).sum ≤ 8 := by exact Nat.le_of_ble_eq_true rfl) : YW l G M d kc ks Φ pc L (vi z :: vi dp :: vr a :: vi sp :: vr a0 :: st) h n := by
  subst ha
  obtain ⟨F, e, hF⟩ := hI.i hk
  refine y_copy hM hd hl e0 e g1 g2 g3 g4 g5 c4 c5 (kk _ (hI.up hk ⟨_, rfl, fun j => ?_⟩)) hd1 hrest
  unfold cpZ
  split
  · exact f0 _
  · exact hF j
end C76
def PIv (S : Nat → Bool) (a c x : Int) : Prop := 0 ≤ a ∧ a + (crd S 128 : Int) = c ∧ c ≤ 96 ∧ 24 ≤ x ∧ x ≤ 24 + c ∧ ∀ k, S k = true → (k : Int) < x
def PPv (b o : Nat) (g : yH) (n : Nat) : Option xV → yH → Nat → Prop := fun r h' n' => ∃ g' S' a' c' x', r = none ∧ SP b o g g' ∧ PF b o g' S' a' c' x' ∧ PIv S' a' c' x' ∧ MI b g' h' ∧ n' = n
def PPz (b o : Nat) (g : yH) (n : Nat) : Option xV → yH → Nat → Prop := fun r h' n' => ∃ g' S' a' c' x' v, r = some (vi v) ∧ 0 ≤ v ∧ v ≤ 1 ∧ SP b o g g' ∧ PF b o g' S' a' c' x' ∧ PIv S' a' c' x' ∧ MI b g' h' ∧ n' = n
def SF (b : Nat) (g : yH) (t : Int) (E K R T : Nat → Int) : Prop := SC g (b + 1) t E K R T ∧ (∀ j, 0 ≤ E j ∧ E j ≤ 32) ∧ (∀ v k : Int, 0 ≤ v → v < 24 → 1 ≤ k → k < 4 → 0 ≤ K (v * 4 + k).toNat ∧ K (v * 4 + k).toNat < 8) ∧ (∀ v : Int, 0 ≤ v → v < 24 → 0 ≤ K (v * 4).toNat ∧ K (v * 4).toNat < 16) ∧ ∀ j, -2147483648 ≤ R j ∧ R j ≤ 2147483647
theorem SF.on {b : Nat} {g g' : yH} {t : Int} {E K R T : Nat → Int} (h : SF b g t E K R T) (hq : ∀ q, b + 1 ≤ q → q < b + 6 → g' q = g q) : SF b g' t E K R T := ⟨h.1.frame1 (fun q q1 q2 => hq q q1 (by omega)), h.2⟩
theorem SF.sp {b o : Nat} {g g' : yH} {t : Int} {E K R T : Nat → Int} (h : SF b g t E K R T) (ho : o = 20 ∨ o = 270) (hs : SP b o g g') : SF b g' t E K R T := h.on (fun q q1 q2 => hs q (by omega) (by omega))
theorem MI.sc {b : Nat} {g h : yH} {t : Int} {E K R T : Nat → Int} (hI : MI b g h) (hs : SC g (b + 1) t E K R T) : SC h (b + 1) t E K R T := hs.frame1 (fun q q1 q2 => hI.2 q (fun k hk => by
  rcases (show k = 1 ∨ k = 2 ∨ k = 3 ∨ k = 4 ∨ k = 5 by omega) with rfl | rfl | rfl | rfl | rfl <;> rfl))
section C77
variable {l : Launch} {G : xG} {h : yH} {n : Nat}
theorem w_Pcut {b o : Nat} {g : yH} {S : Nat → Bool} {a c x : Int} (hf : PF b o g S a c x) {p y z : Int} (hv : PIv S a c x) (cm : c < 96) (p1 : 0 ≤ p) (pS : S p.toNat = true) (y1 : 0 ≤ y) (y2 : y < 3) (z1 : 0 ≤ z) (z2 : z ≤ 32) (hI : MI b g h) : YM l G mX3_cut 3 0 0 [vr (b + o), vi p, vi y, vi z] h n (PPv b o g n) := by
  refine YM.of kX3_cut (Nat.le_of_ble_eq_true rfl) (L0 := [some (vr (b + o)), some (vi p), some (vi y), some (vi z), none]) rfl ?_
  obtain ⟨ho, hp, ⟨lo, hi, hL, hLb⟩, ⟨Fb, hFb, hFb2⟩, ⟨Fa, hFa, hFa2⟩⟩ := id hf
  have hs := SP.r b o g
  obtain ⟨i1, i2, i3, i4, i5, i6⟩ := id hv
  have px := i6 _ pS
  have hxS : S x.toNat = false := by
    cases q : S x.toNat with
    | false => rfl
    | true => have := i6 _ q; omega
  have hend : PIv (fun j => (S j || decide (j = p.toNat)) || decide (j = x.toNat)) a (c + 1) (x + 1) := by
    have e1 : crd (fun j => (S j || decide (j = p.toNat)) || decide (j = x.toNat)) 128 = crd S 128 + 1 := by
      rw [crd_add (S := fun j => S j || decide (j = p.toNat)) 128 (by omega) (by rw [hxS]; simp; omega), crd_same 128 pS]
    refine ⟨i1, by rw [e1]; omega, by omega, by omega, by omega, fun k hk => ?_⟩
    simp only [Bool.or_eq_true, decide_eq_true_eq] at hk
    rcases hk with (hk | hk) | hk
    · have := i6 _ hk; omega
    · omega
    · omega
  refine y_run kX3_cut rfl ?_
  refine m_get kX3_cut (o) hI hp ?_ (t0 ho)
  refine y_run kX3_cut rfl ?_
  refine m_get kX3_cut (o) hI hp ?_ (t0 ho)
  refine y_run kX3_cut rfl ?_
  refine m_pP (a' := _) (c' := _) (x' := _) kX3_cut hI hf hs (fun g h hs hf hI => ?_) ⟨_, rfl, rfl, Nat.le_of_ble_eq_true rfl⟩
  obtain ⟨ho, hp, ⟨lo, hi, hL, hLb⟩, ⟨Fb, hFb, hFb2⟩, ⟨Fa, hFa, hFa2⟩⟩ := id hf
  refine y_run kX3_cut rfl ?_
  refine m_get kX3_cut (o) hI hp ?_ (t0 ho)
  refine y_run kX3_cut rfl ?_
  refine m_get kX3_cut (o) hI hp ?_ (t0 ho)
  refine y_run kX3_cut rfl ?_
  obtain ⟨Fs, eS, fS⟩ := hI.i (t1 ho)
  refine m_copy kX3_cut (o + 1) hI (t1 ho) eS fS (fun h hI => ?_)
  refine y_run kX3_cut rfl ?_
  refine m_get kX3_cut (o) hI hp ?_ (t0 ho)
  refine y_run kX3_cut rfl ?_
  refine m_get kX3_cut (o) hI hp ?_ (t0 ho)
  refine y_run kX3_cut rfl ?_
  refine m_ia kX3_cut (o + 2) hI (t2 ho) (fun v1 v1a v1b => ?_)
  refine m_is kX3_cut (o + 2) hI (t2 ho) (fun h hI => ?_)
  refine y_run kX3_cut rfl ?_
  refine m_get kX3_cut (o) hI hp ?_ (t0 ho)
  refine y_run kX3_cut rfl ?_
  refine m_is kX3_cut (o + 1) hI (t1 ho) (fun h hI => ?_)
  refine y_run kX3_cut rfl ?_
  refine m_get kX3_cut (o) hI hp ?_ (t0 ho)
  refine y_run kX3_cut rfl ?_
  refine m_is kX3_cut (o + 1) hI (t1 ho) (fun h hI => ?_)
  refine y_run kX3_cut rfl ?_
  refine y_cv kX3_cut kX3_bringIn 1 rfl (hI.x (k := o) (t0 ho) hp) (by decide +kernel) (w_bringIn hf (by omega) (by omega) (by omega) (by omega) hI) rfl rfl ?_
  rintro _ h _ ⟨g, rfl, hs2, hf, hI, rfl⟩
  replace hs := hs.t hs2
  obtain ⟨ho, hp, ⟨lo, hi, hL, hLb⟩, ⟨Fb, hFb, hFb2⟩, ⟨Fa, hFa, hFa2⟩⟩ := id hf
  refine y_run kX3_cut rfl ?_
  refine y_cv kX3_cut kX3_bringIn 1 rfl (hI.x (k := o) (t0 ho) hp) (by decide +kernel) (w_bringIn hf (by omega) (by omega) (by omega) (by omega) hI) rfl rfl ?_
  rintro _ h _ ⟨g, rfl, hs2, hf, hI, rfl⟩
  replace hs := hs.t hs2
  obtain ⟨ho, hp, ⟨lo, hi, hL, hLb⟩, ⟨Fb, hFb, hFb2⟩, ⟨Fa, hFa, hFa2⟩⟩ := id hf
  refine y_run kX3_cut rfl ?_
  refine m_get kX3_cut (o) hI hp ?_ (t0 ho)
  refine y_run kX3_cut rfl ?_
  refine m_pP (a' := _) (c' := _) (x' := _) kX3_cut hI hf hs (fun g h hs hf hI => ?_) ⟨_, rfl, rfl, Nat.le_of_ble_eq_true rfl⟩
  obtain ⟨ho, hp, ⟨lo, hi, hL, hLb⟩, ⟨Fb, hFb, hFb2⟩, ⟨Fa, hFa, hFa2⟩⟩ := id hf
  exact y_vr kX3_cut rfl rfl ⟨_, _, _, _, _, rfl, hs, hf, hend, hI, rfl⟩
theorem s_cutOne2 {b o : Nat} {g : yH} {S : Nat → Bool} {a c x : Int} (hf : PF b o g S a c x) (hv : PIv S a c x) (cm : c < 96) {p : Int} (p1 : 0 ≤ p) (p2 : p < x) (hSp : S p.toNat = true) (kk : ∀ (u2 : Option xV) (u3 : Option xV) (h : yH), MI b g h → YW l G mX3_cutOne 4 0 0 (PPz b o g n) 71 [some (vr (b + o)), some (vi p), u2, u3] [] h n) : ∀ (m : Nat) (q : Int) (u3 : Option xV) (h : yH), (3 - q).toNat < m → 0 ≤ q → q ≤ 3 → MI b g h → YW l G mX3_cutOne 4 0 0 (PPz b o g n) 39 [some (vr (b + o)), some (vi p), some (vi q), u3] [] h n := by
  intro m
  induction m with
  | zero => intro q u3 h hm; exact absurd hm (Nat.not_lt_zero _)
  | succ m ih =>
    intro q u3 h hmm j0 j1 hI
    obtain ⟨ho, hp, ⟨lo, hi, hL, hLb⟩, ⟨Fb, hFb, hFb2⟩, ⟨Fa, hFa, hFa2⟩⟩ := id hf
    have hs := SP.r b o g
    obtain ⟨i1, i2, i3, i4, i5, i6⟩ := id hv
    refine y_run kX3_cutOne rfl ?_
    refine y_ic_ge kX3_cutOne rfl rfl (fun c1 => ?_) (fun c1 => ?_)
    · exact kk _ _ _  hI
    · refine y_run kX3_cutOne rfl ?_
      refine y_cv kX3_cutOne kX3_lowestPlane 2 rfl (hI.x (k := o) (t0 ho) hp) (by decide +kernel) (w_lowestPlane hf (by omega) (by omega) (by omega) (by omega) (by omega) (by omega) hI) rfl rfl ?_
      rintro _ h _ ⟨v1, rfl, v1a, v1b, hI, rfl⟩
      refine y_run kX3_cutOne rfl ?_
      refine y_ic_eq kX3_cutOne rfl rfl (fun c2 => ?_) (fun c2 => ?_)
      · refine y_run kX3_cutOne rfl ?_
        exact ih _ _ _ (by omega) (by omega) (by omega) hI
      · refine y_run kX3_cutOne rfl ?_
        refine y_cv kX3_cutOne kX3_cut 3 rfl (hI.x (k := o) (t0 ho) hp) (by decide +kernel) (w_Pcut hf hv (by omega) (by omega) hSp (by omega) (by omega) (by omega) (by omega) hI) rfl rfl ?_
        rintro _ h _ ⟨g, S, a, c, x, rfl, hs2, hf, hv, hI, rfl⟩
        replace hs := hs.t hs2
        obtain ⟨ho, hp, ⟨lo, hi, hL, hLb⟩, ⟨Fb, hFb, hFb2⟩, ⟨Fa, hFa, hFa2⟩⟩ := id hf
        refine y_run kX3_cutOne rfl ?_
        exact y_zr kX3_cutOne rfl rfl (by omega) ⟨_, _, _, _, _, _, rfl, by omega, by omega, hs, hf, hv, hI, rfl⟩
theorem s_cutOne1 {b o : Nat} {g : yH} {S : Nat → Bool} {a c x : Int} (hf : PF b o g S a c x) (hv : PIv S a c x) (cm : c < 96) : ∀ (m : Nat) (p : Int) (u2 : Option xV) (u3 : Option xV) (h : yH), (x - p).toNat < m → 0 ≤ p → p ≤ x → MI b g h → YW l G mX3_cutOne 4 0 0 (PPz b o g n) 13 [some (vr (b + o)), some (vi p), u2, u3] [] h n := by
  intro m
  induction m with
  | zero => intro p u2 u3 h hm; exact absurd hm (Nat.not_lt_zero _)
  | succ m ih =>
    intro p u2 u3 h hmm j0 j1 hI
    obtain ⟨ho, hp, ⟨lo, hi, hL, hLb⟩, ⟨Fb, hFb, hFb2⟩, ⟨Fa, hFa, hFa2⟩⟩ := id hf
    have hs := SP.r b o g
    obtain ⟨i1, i2, i3, i4, i5, i6⟩ := id hv
    refine y_run kX3_cutOne rfl ?_
    refine m_get kX3_cutOne (o) hI hp ?_ (t0 ho)
    refine y_ic_ge kX3_cutOne rfl rfl (fun c1 => ?_) (fun c1 => ?_)
    · refine y_run kX3_cutOne rfl ?_
      exact y_zr kX3_cutOne rfl rfl (by omega) ⟨_, _, _, _, _, _, rfl, by omega, by omega, hs, hf, hv, hI, rfl⟩
    · refine y_run kX3_cutOne rfl ?_
      refine m_get kX3_cutOne (o) hI hp ?_ (t0 ho)
      refine y_run kX3_cutOne rfl ?_
      refine y_cv kX3_cutOne kX0_has 1 rfl (hI.x (k := o + 4) (t4 ho) hL) (by decide +kernel) (w_Lhas hf hI (by omega) (by omega)) rfl rfl ?_
      rintro _ _ _ ⟨rfl, rfl, rfl⟩
      refine y_beq kX3_cutOne rfl rfl (fun c2 => ?_) (fun c2 => ?_)
      · refine y_run kX3_cutOne rfl ?_
        exact ih _ _ _ _ (by omega) (by omega) (by omega) hI
      · refine y_run kX3_cutOne rfl ?_
        refine y_cv kX3_cutOne kX3_findTangle 1 rfl (hI.x (k := o) (t0 ho) hp) (by decide +kernel) (w_findTangle hf (fun k hk => by have := hv.2.2.2.2.2 k hk; have := hv.2.2.1; have := hv.2.2.2.2.1; omega) (by omega) (by omega) hI) rfl rfl ?_
        rintro _ h _ ⟨rfl, hI, rfl⟩
        refine y_run kX3_cutOne rfl ?_
        exact s_cutOne2 hf hv cm (by omega) (by omega) c2 (fun u2 u3 h hI => by
          refine y_run kX3_cutOne rfl ?_
          exact ih _ _ _ _ (by omega) (by omega) (by omega) hI) _ 0 _ _ (Nat.lt_succ_self _) (by omega) (by omega) hI
theorem w_cutOne {b o : Nat} {g : yH} {S : Nat → Bool} {a c x : Int} (hf : PF b o g S a c x) (hv : PIv S a c x) (hI : MI b g h) : YM l G mX3_cutOne 4 0 0 [vr (b + o)] h n (PPz b o g n) := by
  refine YM.of kX3_cutOne (Nat.le_of_ble_eq_true rfl) (L0 := [some (vr (b + o)), none, none, none]) rfl ?_
  obtain ⟨ho, hp, ⟨lo, hi, hL, hLb⟩, ⟨Fb, hFb, hFb2⟩, ⟨Fa, hFa, hFa2⟩⟩ := id hf
  have hs := SP.r b o g
  obtain ⟨i1, i2, i3, i4, i5, i6⟩ := id hv
  refine y_run kX3_cutOne rfl ?_
  refine m_get kX3_cutOne (o) hI hp ?_ (t0 ho)
  refine y_run kX3_cutOne rfl ?_
  refine y_ic_lt kX3_cutOne rfl rfl (fun c1 => ?_) (fun c1 => ?_)
  · refine y_run kX3_cutOne rfl ?_
    exact s_cutOne1 hf hv (by omega) _ 0 _ _ _ (Nat.lt_succ_self _) (by omega) (by omega) hI
  · refine y_run kX3_cutOne rfl ?_
    exact y_zr kX3_cutOne rfl rfl (by omega) ⟨_, _, _, _, _, _, rfl, by omega, by omega, hs, hf, hv, hI, rfl⟩
theorem is01e {P : Prop} {r : Option xV} (hr : (r = some (vi 1) ∧ P) ∨ (r = some (vi 0) ∧ ¬ P)) : ∃ v : Int, r = some (vi v) ∧ 0 ≤ v ∧ v ≤ 1 := by
  rcases hr with ⟨rfl, _⟩ | ⟨rfl, _⟩
  · exact ⟨1, rfl, by omega, by omega⟩
  · exact ⟨0, rfl, by omega, by omega⟩
theorem PIv.out {S : Nat → Bool} {a c x : Int} (hv : PIv S a c x) {v : Int} (v1 : 0 ≤ v) (vS : S v.toNat = true) : PIv (fun j => S j && !decide (j = v.toNat)) (a + 1) c x ∧ a < c := by
  obtain ⟨i1, i2, i3, i4, i5, i6⟩ := hv
  have px := i6 _ vS
  have e := crd_rem (S := S) (v := v.toNat) 128 (by omega) vS
  refine ⟨⟨by omega, by omega, i3, i4, i5, fun k hk => ?_⟩, by omega⟩
  simp only [Bool.and_eq_true] at hk
  exact i6 k hk.1
theorem s_putInOrder {b o : Nat} {g0 : yH} : ∀ (m : Nat) (q : Int) (u2 : Option xV) (g : yH) (S : Nat → Bool) (a c x : Int) (h : yH), (192 - q).toNat < m → 0 ≤ q → q ≤ 192 → SP b o g0 g → PF b o g S a c x → PIv S a c x → MI b g h → YW l G mX3_putInOrder 5 0 0 (PPz b o g0 n) 2 [some (vr (b + o)), some (vi q), u2] [] h n := by
  intro m
  induction m with
  | zero => intro q u2 g S a c x h hm; exact absurd hm (Nat.not_lt_zero _)
  | succ m ih =>
    intro q u2 g S a c x h hmm j0 j1 hs hf hv hI
    obtain ⟨ho, hp, ⟨lo, hi, hL, hLb⟩, ⟨Fb, hFb, hFb2⟩, ⟨Fa, hFa, hFa2⟩⟩ := id hf
    obtain ⟨i1, i2, i3, i4, i5, i6⟩ := id hv
    refine y_run kX3_putInOrder rfl ?_
    refine y_ic_ge kX3_putInOrder rfl rfl (fun c1 => ?_) (fun c1 => ?_)
    · refine y_run kX3_putInOrder rfl ?_
      refine m_get kX3_putInOrder (o) hI hp ?_ (t0 ho)
      refine y_cv kX3_putInOrder kX0_isEmpty 0 rfl (hI.x (k := o + 4) (t4 ho) hL) (by decide +kernel) (c_NisEmpty (hf.na hI)) rfl rfl ?_
      rintro _ _ _ ⟨hr, rfl, rfl⟩
      obtain ⟨v1, rfl, v1a, v1b⟩ := is01e hr
      exact y_zr kX3_putInOrder rfl rfl (by omega) ⟨_, _, _, _, _, _, rfl, by omega, by omega, hs, hf, hv, hI, rfl⟩
    · refine y_run kX3_putInOrder rfl ?_
      refine m_get kX3_putInOrder (o) hI hp ?_ (t0 ho)
      refine y_cv kX3_putInOrder kX0_isEmpty 0 rfl (hI.x (k := o + 4) (t4 ho) hL) (by decide +kernel) (c_NisEmpty (hf.na hI)) rfl rfl ?_
      rintro _ _ _ ⟨hr, rfl, rfl⟩
      obtain ⟨v2, rfl, v2a, v2b⟩ := is01e hr
      refine y_if_ne kX3_putInOrder rfl rfl (fun c2 => ?_) (fun c2 => ?_)
      · refine y_run kX3_putInOrder rfl ?_
        refine m_get kX3_putInOrder (o) hI hp ?_ (t0 ho)
        refine y_cv kX3_putInOrder kX0_isEmpty 0 rfl (hI.x (k := o + 4) (t4 ho) hL) (by decide +kernel) (c_NisEmpty (hf.na hI)) rfl rfl ?_
        rintro _ _ _ ⟨hr, rfl, rfl⟩
        obtain ⟨v3, rfl, v3a, v3b⟩ := is01e hr
        exact y_zr kX3_putInOrder rfl rfl (by omega) ⟨_, _, _, _, _, _, rfl, by omega, by omega, hs, hf, hv, hI, rfl⟩
      · refine y_run kX3_putInOrder rfl ?_
        refine y_cv kX3_putInOrder kX3_lowestFree 0 rfl (hI.x (k := o) (t0 ho) hp) (by decide +kernel) (w_lowestFree hf (by omega) (by omega) hI) rfl rfl ?_
        rintro _ h _ ⟨v9, rfl, v9a, hI, rfl⟩
        refine y_run kX3_putInOrder rfl ?_
        refine y_ic_eq kX3_putInOrder rfl rfl (fun c3 => ?_) (fun c3 => ?_)
        · refine y_run kX3_putInOrder rfl ?_
          refine y_cv kX3_putInOrder kX3_cutOne 0 rfl (hI.x (k := o) (t0 ho) hp) (by decide +kernel) (w_cutOne hf hv hI) rfl rfl ?_
          rintro _ h _ ⟨g, S, a, c, x, v5, rfl, v5a, v5b, hs2, hf, hv, hI, rfl⟩
          replace hs := hs.t hs2
          obtain ⟨i1, i2, i3, i4, i5, i6⟩ := id hv
          obtain ⟨ho, hp, ⟨lo, hi, hL, hLb⟩, ⟨Fb, hFb, hFb2⟩, ⟨Fa, hFa, hFa2⟩⟩ := id hf
          refine y_if_ne kX3_putInOrder rfl rfl (fun c4 => ?_) (fun c4 => ?_)
          · refine y_run kX3_putInOrder rfl ?_
            exact ih _ _ _ _ _ _ _ _ (by omega) (by omega) (by omega) hs hf hv hI
          · refine y_run kX3_putInOrder rfl ?_
            exact y_zr kX3_putInOrder rfl rfl (by omega) ⟨_, _, _, _, _, _, rfl, by omega, by omega, hs, hf, hv, hI, rfl⟩
        · have w1 : 0 ≤ v9 ∧ v9 < x ∧ S v9.toNat = true := by
            rcases v9a with q | q
            · exact absurd q c3
            · exact q
          obtain ⟨w1, w2, w3⟩ := w1
          obtain ⟨hv, hac⟩ := hv.out w1 w3
          refine y_run kX3_putInOrder rfl ?_
          refine m_get kX3_putInOrder (o) hI hp ?_ (t0 ho)
          refine y_run kX3_putInOrder rfl ?_
          refine m_get kX3_putInOrder (o) hI hp ?_ (t0 ho)
          refine y_run kX3_putInOrder rfl ?_
          refine m_is kX3_putInOrder (o + 3) hI (t3 ho) (fun h hI => ?_)
          refine y_run kX3_putInOrder rfl ?_
          refine m_get kX3_putInOrder (o) hI hp ?_ (t0 ho)
          refine y_run kX3_putInOrder rfl ?_
          refine m_pP (a' := _) (c' := _) (x' := _) kX3_putInOrder hI hf hs (fun g h hs hf hI => ?_) ⟨_, rfl, rfl, Nat.le_of_ble_eq_true rfl⟩
          obtain ⟨ho, hp, ⟨lo, hi, hL, hLb⟩, ⟨Fb, hFb, hFb2⟩, ⟨Fa, hFa, hFa2⟩⟩ := id hf
          refine y_run kX3_putInOrder rfl ?_
          refine m_get kX3_putInOrder (o) hI hp ?_ (t0 ho)
          refine y_run kX3_putInOrder rfl ?_
          refine y_cv kX3_putInOrder kX0_remove 1 rfl (hI.x (k := o + 4) (t4 ho) hL) (by decide +kernel) (w_Lremove hf hI (by omega) (by omega)) rfl rfl ?_
          rintro _ h _ ⟨g, rfl, hs2, hf, hI, rfl⟩
          replace hs := hs.t hs2
          obtain ⟨ho, hp, ⟨lo, hi, hL, hLb⟩, ⟨Fb, hFb, hFb2⟩, ⟨Fa, hFa, hFa2⟩⟩ := id hf
          refine y_run kX3_putInOrder rfl ?_
          exact ih _ _ _ _ _ _ _ _ (by omega) (by omega) (by omega) hs hf hv hI
theorem w_putInOrder {b o : Nat} {g : yH} {S : Nat → Bool} {a c x : Int} (hf : PF b o g S a c x) (hv : PIv S a c x) (hI : MI b g h) : YM l G mX3_putInOrder 5 0 0 [vr (b + o)] h n (PPz b o g n) := by
  refine YM.of kX3_putInOrder (Nat.le_of_ble_eq_true rfl) (L0 := [some (vr (b + o)), none, none]) rfl ?_
  obtain ⟨ho, hp, ⟨lo, hi, hL, hLb⟩, ⟨Fb, hFb, hFb2⟩, ⟨Fa, hFa, hFa2⟩⟩ := id hf
  have hs := SP.r b o g
  refine y_run kX3_putInOrder rfl ?_
  exact s_putInOrder _ 0 _ _ _ _ _ _ _ (Nat.lt_succ_self _) (by omega) (by omega) hs hf hv hI
theorem s_load {b o : Nat} {g0 : yH} {t : Int} {E K R T : Nat → Int} (hsc0 : SF b g0 t E K R T) : ∀ (m : Nat) (q : Int) (g : yH) (S : Nat → Bool) (c : Int) (h : yH), (24 - q).toNat < m → 0 ≤ q → q ≤ 24 → SP b o g0 g → PF b o g S 0 c 24 → (crd S 128 : Int) = c → c ≤ q → (∀ k, S k = true → (k : Int) < q) → MI b g h → YW l G mX3_load 3 0 0 (PPv b o g0 n) 43 [some (vr (b + o)), some (vr (b + 1)), some (vi q)] [] h n := by
  intro m
  induction m with
  | zero => intro q g S c h hm; exact absurd hm (Nat.not_lt_zero _)
  | succ m ih =>
    intro q g S c h hmm j0 j1 hs hf hc hcq hSq hI
    obtain ⟨ho, hp, ⟨lo, hi, hL, hLb⟩, ⟨Fb, hFb, hFb2⟩, ⟨Fa, hFa, hFa2⟩⟩ := id hf
    have hsc := hsc0.sp ho hs
    have hqS : S q.toNat = false := by
      cases z : S q.toNat with
      | false => rfl
      | true => have := hSq _ z; omega
    have e1 := crd_add (S := S) (v := q.toNat) 128 (by omega) hqS
    have hS2 : ∀ k, (S k || decide (k = q.toNat)) = true → (k : Int) < q + 1 := fun k hk => by
      simp only [Bool.or_eq_true, decide_eq_true_eq] at hk
      rcases hk with hk | hk
      · have := hSq _ hk; omega
      · omega
    refine y_run kX3_load rfl ?_
    refine y_ic_ge kX3_load rfl rfl (fun c1 => ?_) (fun c1 => ?_)
    · exact y_vr kX3_load rfl rfl ⟨_, _, _, _, _, rfl, hs, hf, ⟨by omega, by omega, by omega, by omega, by omega, fun k hk => by have := hSq k hk; omega⟩, hI, rfl⟩
    · refine y_run kX3_load rfl ?_
      refine y_cv kX3_load kX5_has 1 rfl (hI.x (k := 1) rfl hsc.1.1) (by decide +kernel) (c_Shas (hI.sc hsc.1) ⟨by omega, by omega⟩) rfl rfl ?_
      rintro _ _ _ ⟨rfl, rfl, rfl⟩
      refine y_beq kX3_load rfl rfl (fun c2 => ?_) (fun c2 => ?_)
      · refine y_run kX3_load rfl ?_
        exact ih _ _ _ _ _ (by omega) (by omega) (by omega) hs hf hc (by omega) (fun k hk => by have := hSq k hk; omega) hI
      · refine y_run kX3_load rfl ?_
        refine m_get kX3_load (o) hI hp ?_ (t0 ho)
        refine y_run kX3_load rfl ?_
        refine m_is kX3_load (o + 2) hI (t2 ho) (fun h hI => ?_)
        refine y_run kX3_load rfl ?_
        refine y_cv kX3_load kX3_bringIn 1 rfl (hI.x (k := o) (t0 ho) hp) (by decide +kernel) (w_bringIn hf (by omega) (by omega) (by omega) (by omega) hI) rfl rfl ?_
        rintro _ h _ ⟨g, rfl, hs2, hf, hI, rfl⟩
        replace hs := hs.t hs2
        replace hsc := hsc.sp ho hs2
        obtain ⟨ho, hp, ⟨lo, hi, hL, hLb⟩, ⟨Fb, hFb, hFb2⟩, ⟨Fa, hFa, hFa2⟩⟩ := id hf
        refine y_run kX3_load rfl ?_
        refine m_get kX3_load (o) hI hp ?_ (t0 ho)
        refine y_run kX3_load rfl ?_
        refine m_pP (a' := _) (c' := _) (x' := _) kX3_load hI hf hs (fun g h hs hf hI => ?_) ⟨_, rfl, rfl, Nat.le_of_ble_eq_true rfl⟩
        obtain ⟨ho, hp, ⟨lo, hi, hL, hLb⟩, ⟨Fb, hFb, hFb2⟩, ⟨Fa, hFa, hFa2⟩⟩ := id hf
        refine y_run kX3_load rfl ?_
        exact ih _ _ _ _ _ (by omega) (by omega) (by omega) hs hf (by rw [e1]; omega) (by omega) hS2 hI
theorem w_load {b o : Nat} {g : yH} {S : Nat → Bool} {a c x : Int} (hf : PF b o g S a c x) {t : Int} {E K R T : Nat → Int} (hsc : SF b g t E K R T) (hI : MI b g h) : YM l G mX3_load 3 0 0 [vr (b + o), vr (b + 1)] h n (PPv b o g n) := by
  refine YM.of kX3_load (Nat.le_of_ble_eq_true rfl) (L0 := [some (vr (b + o)), some (vr (b + 1)), none]) rfl ?_
  obtain ⟨ho, hp, ⟨lo, hi, hL, hLb⟩, ⟨Fb, hFb, hFb2⟩, ⟨Fa, hFa, hFa2⟩⟩ := id hf
  have hs := SP.r b o g
  refine y_run kX3_load rfl ?_
  refine m_get kX3_load (1) hI hsc.1.1 ?_
  refine y_run kX3_load rfl ?_
  refine m_get kX3_load (o) hI hp ?_ (t0 ho)
  refine y_run kX3_load rfl ?_
  refine m_get kX3_load (1) hI hsc.1.1 ?_
  refine y_al kX3_load rfl (hI.x (k := 2) rfl hsc.1.2.1) ?_
  refine m_copy kX3_load (o + 1) hI (t1 ho) (hI.x (k := 2) rfl hsc.1.2.1) hsc.2.1 (fun h hI => ?_)
  refine y_run kX3_load rfl ?_
  refine m_get kX3_load (o) hI hp ?_ (t0 ho)
  refine y_cv kX3_load kX0_clear 0 rfl (hI.x (k := o + 4) (t4 ho) hL) (by decide +kernel) (w_Lclear hf hI) rfl rfl ?_
  rintro _ h _ ⟨g, rfl, hs2, hf, hI, rfl⟩
  replace hs := hs.t hs2
  obtain ⟨ho, hp, ⟨lo, hi, hL, hLb⟩, ⟨Fb, hFb, hFb2⟩, ⟨Fa, hFa, hFa2⟩⟩ := id hf
  refine y_run kX3_load rfl ?_
  refine m_pP (a' := _) (c' := _) (x' := _) kX3_load hI hf hs (fun g2 h hs hf hI => ?_) ⟨_, rfl, rfl, Nat.le_of_ble_eq_true rfl⟩
  obtain ⟨ho, hp, ⟨lo, hi, hL, hLb⟩, ⟨Fb, hFb, hFb2⟩, ⟨Fa, hFa, hFa2⟩⟩ := id hf
  refine y_run kX3_load rfl ?_
  refine m_pP (a' := _) (c' := _) (x' := _) kX3_load hI hf hs (fun g2 h hs hf hI => ?_) ⟨_, rfl, rfl, Nat.le_of_ble_eq_true rfl⟩
  obtain ⟨ho, hp, ⟨lo, hi, hL, hLb⟩, ⟨Fb, hFb, hFb2⟩, ⟨Fa, hFa, hFa2⟩⟩ := id hf
  refine y_run kX3_load rfl ?_
  refine m_pP (a' := _) (c' := _) (x' := _) kX3_load hI hf hs (fun g2 h hs hf hI => ?_) ⟨_, rfl, rfl, Nat.le_of_ble_eq_true rfl⟩
  obtain ⟨ho, hp, ⟨lo, hi, hL, hLb⟩, ⟨Fb, hFb, hFb2⟩, ⟨Fa, hFa, hFa2⟩⟩ := id hf
  refine y_run kX3_load rfl ?_
  exact s_load hsc _ 0 _ _ _ _ (Nat.lt_succ_self _) (by omega) (by omega) hs hf (by rw [crd_0]; rfl) (by omega) (fun k hk => by cases hk) hI
end C77
end
section
/-! the picture, as far as bounds go -/
theorem nrm_mod (z : Int) : nrm z % 4294967296 = z % 4294967296 := by
  unfold nrm
  have : (iI z).toInt = Int.bmod z (2 ^ 32) := Int32.toInt_ofInt
  rw [this]
  exact Int.bmod_emod
theorem iI_nrm (z : Int) : iI (nrm z) = iI z := (iI_of (iI z)).symm
theorem box_bits (z : Int) : yand (yshr z 8) 31 = z / 256 % 32 := by
  have e : yshr z 8 = nrm z / 256 := by
    have h := nrm_rng z
    have := yshr_div (x := nrm z) h.1 (by omega) (k := 8) (by omega) (by omega)
    unfold yshr at this ⊢
    rw [iI_nrm] at this
    exact this
  rw [yand_31, e]
  have := nrm_mod z
  omega
theorem look_bits : ∀ p : Nat, p < 24 → ∀ f : Nat, f < 3 → ∀ c : Nat, c < 16 → ∀ i : Nat, i < 4 → yor (yor (yor (yshl p 8) (yshl f 6)) (yshl i 4)) c = (p * 256 + f * 64 + i * 16 + c : Int) := by decide +kernel
theorem hi_bits (x : Int) : yand x (-65536) % 65536 = 0 := by
  rw [← yand_65535]
  unfold yand
  rw [← iI_of, Int32.and_assoc, show iI (-65536) &&& iI 65535 = 0 by decide +kernel, Int32.and_zero]
  rfl
def flF (F : Nat → Int) (v : Int) (k : Nat) : Nat → Int := fun j => if j < k then v else F j
theorem flF_s (F : Nat → Int) (v : Int) (k : Nat) : upZ (flF F v k) k v = flF F v (k + 1) := by
  funext j
  unfold upZ flF
  by_cases c : j = k
  · rw [if_pos c, if_pos (by omega)]
  · rw [if_neg c]
    by_cases c2 : j < k
    · rw [if_pos c2, if_pos (by omega)]
    · rw [if_neg c2, if_neg (by omega)]
section C80
variable {l : Launch} {G : xG} {h : yH} {n : Nat}
theorem s_fill {Φ : Option xV → yH → Nat → Prop} {a N : Nat} {F : Nat → Int} {v : Int} (hN : (N : Int) < 2147483648) (kk : Φ none (yup h a (ai N (flF F v N))) n) : ∀ (m k : Nat), k + m = N → YW l G mJ7_fill_53178 0 0 0 Φ 5 [some (vr a), some (vi v), some (vi (k : Int)), some (vi (N : Int))] [] (yup h a (ai N (flF F v k))) n := by
  intro m
  induction m with
  | zero =>
    intro k hk
    refine y_run kJ7_fill_53178 rfl ?_
    refine y_ic_ge kJ7_fill_53178 rfl rfl (fun c1 => ?_) (fun c1 => absurd c1 (by omega))
    refine y_vr kJ7_fill_53178 rfl rfl ?_
    rw [show k = N by omega]
    exact kk
  | succ m ih =>
    intro k hk
    refine y_run kJ7_fill_53178 rfl ?_
    refine y_ic_ge kJ7_fill_53178 rfl rfl (fun c1 => absurd c1 (by omega)) (fun c1 => ?_)
    refine y_run kJ7_fill_53178 rfl ?_
    refine y_is2 kJ7_fill_53178 rfl (by omega) (by omega) ?_
    refine y_run kJ7_fill_53178 rfl ?_
    rw [Int.toNat_natCast, flF_s]
    exact ih (k + 1) (by omega)
theorem c_fill {a N : Nat} {F : Nat → Int} {v : Int} (ha : h a = some (ai N F)) (hN : (N : Int) < 2147483648) : YM l G mJ7_fill_53178 0 0 0 [vr a, vi v] h n (fun r h' n' => r = none ∧ h' = yup h a (ai N (flF F v N)) ∧ n' = n) := by
  refine YM.of kJ7_fill_53178 (Nat.le_of_ble_eq_true rfl) (L0 := [some (vr a), some (vi v), none, none]) rfl ?_
  refine y_run kJ7_fill_53178 rfl ?_
  refine y_al kJ7_fill_53178 rfl ha ?_
  refine y_run kJ7_fill_53178 rfl ?_
  have e0 : flF F v 0 = F := by
    funext j
    unfold flF
    rw [if_neg (by omega)]
  refine YW.he (yup_self ha) ?_
  have := s_fill (l := l) (G := gT G) (h := h) (n := n) (a := a) (N := N) (F := F) (v := v) (Φ := fun r h' n' => r = none ∧ h' = yup h a (ai N (flF F v N)) ∧ n' = n) hN ⟨rfl, rfl, rfl⟩ N 0 (by omega)
  rw [e0] at this
  exact this
variable {b : Nat} {g : yH} {k : Nat}
theorem w_fill {N : Nat} {lo hi v : Int} (hI : MI b g h) (hk : rTb k = some (0, N, lo, hi)) (hN : (N : Int) < 2147483648) (v1 : lo ≤ v) (v2 : v ≤ hi) : YM l G mJ7_fill_53178 0 0 0 [vr (b + k), vi v] h n (PV b g n) := by
  obtain ⟨F, e, hF⟩ := hI.i hk
  refine (c_fill e hN).imp (fun r h' n' q => ?_)
  obtain ⟨q1, rfl, q3⟩ := q
  refine ⟨q1, hI.up hk ⟨_, rfl, fun j => ?_⟩, q3⟩
  unfold flF
  split
  · exact ⟨v1, v2⟩
  · exact hF j
theorem w_fillc {N : Nat} {lo hi v : Int} (hI : MI b g h) (hk : rTb k = some (2, N, lo, hi)) (hN : (N : Int) < 2147483648) (v1 : v / 256 % 32 < 24) : YM l G mJ7_fill_53178 0 0 0 [vr (b + k), vi v] h n (PV b g n) := by
  obtain ⟨F, e, hF⟩ := hI.c hk
  refine (c_fill e hN).imp (fun r h' n' q => ?_)
  obtain ⟨q1, rfl, q3⟩ := q
  refine ⟨q1, hI.up hk ⟨_, rfl, fun j => ?_⟩, q3⟩
  unfold flF
  split
  · exact v1
  · exact hF j
/- outlines and rays -/
theorem w_OsetTo {a N : Nat} {F : Nat → Int} {z : Int} (hI : MI b g h) (hk : rTb k = some (5, 0, 0, 0)) (ha : h a = some (ai N F)) (hF : ∀ j, 0 ≤ F j ∧ F j ≤ 32) (hz : 0 ≤ z) (hN : z + 6 ≤ N) (hM : N ≤ 100000) : YM l G mX1_setTo 0 0 0 [vr (b + k), vr a, vi z] h n (PV b g n) := by
  obtain ⟨r0, r1, r2, r3, r4, r5, e, _⟩ := hI.o hk
  have hab : a ≠ b + k := fun q => by rw [q, e] at ha; cases ha
  refine (c_OsetTo e ha hab hz hN hM ⟨rfl, rfl, rfl, rfl, rfl, rfl⟩).imp (fun r h' n' q => ?_)
  obtain ⟨q1, rfl, q3⟩ := q
  have f0 := hF z.toNat
  have f1 := hF (z + 1).toNat
  have f2 := hF (z + 2).toNat
  have f3 := hF (z + 3).toNat
  have f4 := hF (z + 4).toNat
  have f5 := hF (z + 5).toNat
  exact ⟨q1, hI.up hk ⟨_, _, _, _, _, _, rfl, by omega, by omega, by omega, by omega, by omega, by omega⟩, q3⟩
theorem w_Omeet {k2 : Nat} (hI : MI b g h) (hk : rTb k = some (5, 0, 0, 0)) (hk2 : rTb k2 = some (5, 0, 0, 0)) (hne : b + k2 ≠ b + k) : YM l G mX1_meet 1 0 0 [vr (b + k), vr (b + k2)] h n (PV b g n) := by
  obtain ⟨r0, r1, r2, r3, r4, r5, e, s0, s1, s2, s3, s4, s5⟩ := hI.o hk
  obtain ⟨p0, p1, p2, p3, p4, p5, e2, t0, t1, t2, t3, t4, t5⟩ := hI.o hk2
  refine (c_Omeet e e2 hne ⟨⟨by omega, by omega⟩, ⟨by omega, by omega⟩, ⟨by omega, by omega⟩, ⟨by omega, by omega⟩, ⟨by omega, by omega⟩, ⟨by omega, by omega⟩⟩ ⟨⟨by omega, by omega⟩, ⟨by omega, by omega⟩, ⟨by omega, by omega⟩, ⟨by omega, by omega⟩, ⟨by omega, by omega⟩, ⟨by omega, by omega⟩⟩).imp (fun r h' n' q => ?_)
  obtain ⟨q1, rfl, q3⟩ := q
  exact ⟨q1, hI.up hk ⟨_, _, _, _, _, _, rfl, by omega, by omega, by omega, by omega, by omega, by omega⟩, q3⟩
theorem w_OfirstJ {i : Int} (hI : MI b g h) (hk : rTb k = some (5, 0, 0, 0)) (i1 : -1000 ≤ i) (i2 : i ≤ 1000) : YM l G mX1_firstJ 1 0 0 [vr (b + k), vi i] h n (PZ b g n (-63) 2000) := by
  obtain ⟨r0, r1, r2, r3, r4, r5, e, s0, s1, s2, s3, s4, s5⟩ := hI.o hk
  refine (c_OfirstJ e ⟨⟨by omega, by omega⟩, ⟨by omega, by omega⟩, ⟨by omega, by omega⟩, ⟨by omega, by omega⟩⟩ ⟨by omega, by omega⟩).imp (fun r h' n' q => ?_)
  obtain ⟨q1, rfl, q3⟩ := q
  exact ⟨_, q1, by omega, by omega, hI, q3⟩
theorem w_OlastJ {i : Int} (hI : MI b g h) (hk : rTb k = some (5, 0, 0, 0)) (i1 : -1000 ≤ i) (i2 : i ≤ 1000) : YM l G mX1_lastJ 1 0 0 [vr (b + k), vi i] h n (PZ b g n (-2000) 63) := by
  obtain ⟨r0, r1, r2, r3, r4, r5, e, s0, s1, s2, s3, s4, s5⟩ := hI.o hk
  refine (c_OlastJ e ⟨⟨by omega, by omega⟩, ⟨by omega, by omega⟩, ⟨by omega, by omega⟩, ⟨by omega, by omega⟩⟩ ⟨by omega, by omega⟩).imp (fun r h' n' q => ?_)
  obtain ⟨q1, rfl, q3⟩ := q
  exact ⟨_, q1, by omega, by omega, hI, q3⟩
theorem w_Raim {i j : Int} (hI : MI b g h) (hk : rTb k = some (4, 0, 0, 0)) (i1 : -200 ≤ i) (i2 : i ≤ 200) (j1 : -200 ≤ j) (j2 : j ≤ 200) : YM l G mX4_aim 0 0 0 [vr (b + k), vi i, vi j] h n (PV b g n) := by
  obtain ⟨r0, r1, r2, r3, e, s0, s1, s2, s3⟩ := hI.r hk
  refine (c_Raim e).imp (fun r h' n' q => ?_)
  obtain ⟨q1, rfl, q3⟩ := q
  exact ⟨q1, hI.up hk ⟨_, _, _, _, rfl, by omega, by omega, s2, s3⟩, q3⟩
theorem rfc_b (x1 y1 z1 a b : Int) : 0 ≤ rfc x1 y1 z1 a b ∧ rfc x1 y1 z1 a b ≤ 2 := by
  unfold rfc
  split
  · omega
  · split <;> omega
theorem rex_b {x1 y1 z1 a b : Int} (hz : 0 ≤ z1 ∧ z1 ≤ 32) (hx : 0 ≤ x1 ∧ x1 ≤ 32) (hy : 0 ≤ y1 ∧ y1 ≤ 32) (ha : -1000 ≤ a ∧ a ≤ 1000) (hb : -1000 ≤ b ∧ b ≤ 1000) : -10000 ≤ rex x1 y1 z1 a b ∧ rex x1 y1 z1 a b ≤ 10000 := by
  unfold rex
  split
  · omega
  · split <;> omega
theorem w_Rleave {a N : Nat} {F : Nat → Int} {z : Int} (hI : MI b g h) (hk : rTb k = some (4, 0, 0, 0)) (ha : h a = some (ai N F)) (hF : ∀ j, 0 ≤ F j ∧ F j ≤ 32) (hz : 0 ≤ z) (hN : z + 6 ≤ N) (hM : N ≤ 100000) : YM l G mX4_leave 0 0 0 [vr (b + k), vr a, vi z] h n (PV b g n) := by
  obtain ⟨r0, r1, r2, r3, e, s0, s1, s2, s3⟩ := hI.r hk
  have hab : a ≠ b + k := fun q => by rw [q, e] at ha; cases ha
  have f1 := hF (z + 1).toNat
  have f3 := hF (z + 3).toNat
  have f5 := hF (z + 5).toNat
  refine (c_Rleave e ha hab hz hN hM ⟨rfl, rfl, rfl, rfl, rfl, rfl⟩ ⟨⟨by omega, by omega⟩, ⟨by omega, by omega⟩⟩ ⟨⟨by omega, by omega⟩, ⟨by omega, by omega⟩, ⟨by omega, by omega⟩⟩).imp (fun r h' n' q => ?_)
  obtain ⟨q1, rfl, q3⟩ := q
  exact ⟨q1, hI.up hk ⟨_, _, _, _, rfl, s0, s1, rex_b f5 f1 f3 s0 s1, (rfc_b _ _ _ _ _).1, (rfc_b _ _ _ _ _).2⟩, q3⟩
theorem w_Rhits {a N : Nat} {F : Nat → Int} {z : Int} (hI : MI b g h) (hk : rTb k = some (4, 0, 0, 0)) (ha : h a = some (ai N F)) (hF : ∀ j, 0 ≤ F j ∧ F j ≤ 32) (hz : 0 ≤ z) (hN : z + 6 ≤ N) (hM : N ≤ 100000) : YM l G mX4_hits 1 0 0 [vr (b + k), vr a, vi z] h n (PZ b g n 0 1) := by
  obtain ⟨r0, r1, r2, r3, e, s0, s1, s2, s3⟩ := hI.r hk
  have f0 := hF z.toNat
  have f1 := hF (z + 1).toNat
  have f2 := hF (z + 2).toNat
  have f3 := hF (z + 3).toNat
  have f4 := hF (z + 4).toNat
  have f5 := hF (z + 5).toNat
  refine (c_Rhits e ha hz hN hM ⟨rfl, rfl, rfl, rfl, rfl, rfl⟩ ⟨⟨by omega, by omega⟩, ⟨by omega, by omega⟩⟩ ⟨⟨by omega, by omega⟩, ⟨by omega, by omega⟩, ⟨by omega, by omega⟩, ⟨by omega, by omega⟩, ⟨by omega, by omega⟩, ⟨by omega, by omega⟩⟩).imp (fun r h' n' q => ?_)
  obtain ⟨q1, rfl, q3⟩ := q
  exact ⟨_, q1, by split <;> omega, by split <;> omega, hI, q3⟩
theorem w_RspotRow (hI : MI b g h) (hk : rTb k = some (4, 0, 0, 0)) : YM l G mX4_spotRow 1 0 0 [vr (b + k)] h n (PZ b g n 0 7) := by
  obtain ⟨r0, r1, r2, r3, e, s0, s1, s2, s3⟩ := hI.r hk
  refine (c_RspotRow e ⟨by omega, by omega⟩ ⟨by omega, by omega⟩ ⟨by omega, by omega⟩ ⟨by omega, by omega⟩).imp (fun r h' n' q => ?_)
  obtain ⟨q1, rfl, q3⟩ := q
  exact ⟨_, q1, by omega, by omega, hI, q3⟩
theorem w_RspotPlace (hI : MI b g h) (hk : rTb k = some (4, 0, 0, 0)) : YM l G mX4_spotPlace 1 0 0 [vr (b + k)] h n (PZ b g n 0 7) := by
  obtain ⟨r0, r1, r2, r3, e, s0, s1, s2, s3⟩ := hI.r hk
  refine (c_RspotPlace e ⟨by omega, by omega⟩ ⟨by omega, by omega⟩ ⟨by omega, by omega⟩ ⟨by omega, by omega⟩).imp (fun r h' n' q => ?_)
  obtain ⟨q1, rfl, q3⟩ := q
  exact ⟨_, q1, by omega, by omega, hI, q3⟩
end C80
end
section
theorem tc {ce1 : Nat} (h : ce1 = 9 ∨ ce1 = 10) : rTb ce1 = some (2, 8192, 0, 0) := by rcases h with rfl | rfl <;> rfl
def qO (b ce1 ce2 : Nat) (pw la : Int) : yE := ob 2 [vr (b + ce1), vr (b + ce2), vr (b + 11), vr (b + 12), vi pw, vi la, vr (b + 13), vr (b + 14)]
def QF (b : Nat) (g : yH) (ce1 ce2 : Nat) (pw la : Int) : Prop := (ce1 = 9 ∨ ce1 = 10) ∧ (ce2 = 9 ∨ ce2 = 10) ∧ g (b + 8) = some (qO b ce1 ce2 pw la)
def SQ (b : Nat) (g g' : yH) : Prop := ∀ q, q ≠ b + 8 → g' q = g q
theorem SQ.r (b : Nat) (g : yH) : SQ b g g := fun _ _ => rfl
theorem SQ.t {b : Nat} {g g' g'' : yH} (h1 : SQ b g g') (h2 : SQ b g' g'') : SQ b g g'' := fun q hq => (h2 q hq).trans (h1 q hq)
section C81
variable {l : Launch} {G : xG} {M : xM} {d kc ks : Nat} {Φ : Option xV → yH → Nat → Prop} {h : yH} {n : Nat} {pc : Nat} {L : List (Option xV)} {st : List xV} {b ce1 ce2 : Nat} {g : yH} {pw la : Int}
theorem m_pQ (hM : xOK M) {idx ad j ce1' ce2' : Nat} {v : xV} {pw' la' : Int} {g0 : yH} (hI : MI b g h) (hq : QF b g ce1 ce2 pw la) (hs : SQ b g0 g) (kk : ∀ g' h', SQ b g0 g' → QF b g' ce1' ce2' pw' la' → MI b g' h' → YW l G M d kc ks Φ (pc + 3) L st h' n) (he : ∃ fs, qO b ce1 ce2 pw la = ob 2 fs ∧ ob 2 (fs.set j v) = qO b ce1' ce2' pw' la' ∧ j < fs.length) (h1 : ce1' = 9 ∨ ce1' = 10) (h2 : ce2' = 9 ∨ ce2' = 10) (hd : xat M pc = some (.putfield idx, 3) := by rfl) (hl : M.2.2.2.2.2.2.lookup idx = some (2, j) := by rfl) (hfin : xfin 2 j = false := by rfl) (hn : narrow (xty 2 j) (den v) = den v := by rfl) (hfit : fits (xty 2 j) (den v) = true := by rfl) (ha : ad = b + 8 := by rfl) : YW l G M d kc ks Φ pc L (v :: vr ad :: st) h n := by
  obtain ⟨fs, e1, e2, e3⟩ := he
  obtain ⟨_, _, hp⟩ := id hq
  rw [e1] at hp
  refine m_put hM (j := j) 8 hI hp (fun h' hI' => ?_) rfl hd hl hfin hn hfit e3 ha
  rw [e2] at hI'
  exact kk (yup g (b + 8) (qO b ce1' ce2' pw' la')) h' (fun q hq => (yup_ne _ _ hq).trans (hs q hq)) ⟨h1, h2, yup_eq _ _ _⟩ hI'
end C81
section C82
variable {l : Launch} {G : xG} {h : yH} {n : Nat}
theorem c_cellOf {i j : Int} : YM l G mX2_cellOf 0 0 0 [vi i, vi j] h n (fun r h' n' => r = some (vi ((i - -32) * 128 + j - -64)) ∧ h' = h ∧ n' = n) := by
  refine YM.of kX2_cellOf (Nat.le_of_ble_eq_true rfl) (L0 := [some (vi i), some (vi j)]) rfl ?_
  refine y_run kX2_cellOf rfl ?_
  exact y_ir kX2_cellOf rfl rfl ⟨rfl, rfl, rfl⟩
theorem c_boxOf {z : Int} : YM l G mX2_boxOf 0 0 0 [vi z] h n (fun r h' n' => r = some (vi (z / 256 % 32)) ∧ h' = h ∧ n' = n) := by
  refine YM.of kX2_boxOf (Nat.le_of_ble_eq_true rfl) (L0 := [some (vi z)]) rfl ?_
  refine y_run kX2_boxOf rfl ?_
  rw [box_bits]
  exact y_ir kX2_boxOf rfl rfl ⟨rfl, rfl, rfl⟩
theorem w_Pface {z : Int} : YM l G mX2_faceOf 0 0 0 [vi z] h n (fun r h' n' => (∃ v, r = some (vi v)) ∧ h' = h ∧ n' = n) := by
  refine YM.of kX2_faceOf (Nat.le_of_ble_eq_true rfl) (L0 := [some (vi z)]) rfl ?_
  refine y_run kX2_faceOf rfl ?_
  exact y_ir kX2_faceOf rfl rfl ⟨⟨_, rfl⟩, rfl, rfl⟩
theorem w_Ppaint {z : Int} : YM l G mX2_paintOf 0 0 0 [vi z] h n (fun r h' n' => (∃ v, r = some (vi v)) ∧ h' = h ∧ n' = n) := by
  refine YM.of kX2_paintOf (Nat.le_of_ble_eq_true rfl) (L0 := [some (vi z)]) rfl ?_
  refine y_run kX2_paintOf rfl ?_
  exact y_ir kX2_paintOf rfl rfl ⟨⟨_, rfl⟩, rfl, rfl⟩
theorem w_Plaid {z : Int} : YM l G mX2_laidOf 0 0 0 [vi z] h n (fun r h' n' => (∃ v, r = some (vi v)) ∧ h' = h ∧ n' = n) := by
  refine YM.of kX2_laidOf (Nat.le_of_ble_eq_true rfl) (L0 := [some (vi z)]) rfl ?_
  refine y_run kX2_laidOf rfl ?_
  refine y_ldc (z := 65536) kX2_laidOf rfl (by decide +kernel) ?_
  refine m_idiv kX2_laidOf (by omega) (by omega) (fun v va vb => ?_)
  exact y_ir kX2_laidOf rfl rfl ⟨⟨_, rfl⟩, rfl, rfl⟩
theorem w_hasBox {z : Int} : YM l G mX2_hasBox 0 0 0 [vi z] h n (fun r h' n' => (∃ v, r = some (vi v) ∧ 0 ≤ v ∧ v ≤ 1) ∧ h' = h ∧ n' = n) := by
  refine YM.of kX2_hasBox (Nat.le_of_ble_eq_true rfl) (L0 := [some (vi z)]) rfl ?_
  refine y_run kX2_hasBox rfl ?_
  refine y_ldc (z := 65535) kX2_hasBox rfl (by decide +kernel) ?_
  refine y_run kX2_hasBox rfl ?_
  rw [yand_65535]
  refine y_if_eq kX2_hasBox rfl rfl (fun c1 => ?_) (fun c1 => ?_)
  · refine y_run kX2_hasBox rfl ?_
    exact y_zr kX2_hasBox rfl rfl (by omega) ⟨⟨_, rfl, by omega, by omega⟩, rfl, rfl⟩
  · refine y_run kX2_hasBox rfl ?_
    exact y_zr kX2_hasBox rfl rfl (by omega) ⟨⟨_, rfl, by omega, by omega⟩, rfl, rfl⟩
theorem look_b {p f c i : Int} (p1 : 0 ≤ p) (p2 : p < 24) (f1 : 0 ≤ f) (f2 : f < 3) (ce1 : 0 ≤ c) (ce2 : c < 16) (i1 : 0 ≤ i) (i2 : i < 4) : yor (yor (yor (yshl p 8) (yshl f 6)) (yshl i 4)) c = p * 256 + f * 64 + i * 16 + c := by
  have := look_bits p.toNat (by omega) f.toNat (by omega) c.toNat (by omega) i.toNat (by omega)
  rw [Int.toNat_of_nonneg p1, Int.toNat_of_nonneg f1, Int.toNat_of_nonneg ce1, Int.toNat_of_nonneg i1] at this
  exact this
theorem c_lookOf {p f c i : Int} (p1 : 0 ≤ p) (p2 : p < 24) (f1 : 0 ≤ f) (f2 : f < 3) (ce1 : 0 ≤ c) (ce2 : c < 16) (i1 : 0 ≤ i) (i2 : i < 4) : YM l G mX2_lookOf 0 0 0 [vi p, vi f, vi c, vi i] h n (fun r h' n' => r = some (vi (p * 256 + f * 64 + i * 16 + c)) ∧ h' = h ∧ n' = n) := by
  refine YM.of kX2_lookOf (Nat.le_of_ble_eq_true rfl) (L0 := [some (vi p), some (vi f), some (vi c), some (vi i)]) rfl ?_
  refine y_run kX2_lookOf rfl ?_
  rw [look_b p1 p2 f1 f2 ce1 ce2 i1 i2]
  exact y_ir kX2_lookOf rfl rfl ⟨rfl, rfl, rfl⟩
theorem w_inkAt {b : Nat} {g : yH} {t : Int} {E K R T : Nat → Int} (hsc : SF b g t E K R T) {p : Int} (p1 : 0 ≤ p) (p2 : p < 24) (hI : MI b g h) : YM l G mX5_inkAt 2 0 0 [vr (b + 1), vi p, vr (b + 13)] h n (PZ b g n 0 3) := by
  refine YM.of kX5_inkAt (Nat.le_of_ble_eq_true rfl) (L0 := [some (vr (b + 1)), some (vi p), some (vr (b + 13)), none, none]) rfl ?_
  refine y_run kX5_inkAt rfl ?_
  refine m_get kX5_inkAt (1) hI hsc.1.1 ?_
  refine y_run kX5_inkAt rfl ?_
  refine m_getF kX5_inkAt (13) hI rfl (fun v1 v1a v1b => ?_)
  refine y_run kX5_inkAt rfl ?_
  have hk1 := hsc.2.2.1 p (1 + v1) p1 p2 (by omega) (by omega)
  rw [show p * 4 + (1 + v1) = p * 4 + 1 + v1 by omega] at hk1
  refine y_ia kX5_inkAt rfl (hI.x (k := 3) rfl hsc.1.2.2.1) (by omega) (by omega) ?_
  generalize K (p * 4 + 1 + v1).toNat = sp at hk1 ⊢
  obtain ⟨hk1, hk2⟩ := hk1
  refine y_run kX5_inkAt rfl ?_
  refine m_get kX5_inkAt (1) hI hsc.1.1 ?_
  refine y_run kX5_inkAt rfl ?_
  obtain ⟨_, _, _, _, ev2, _⟩ := hI.r (k := 13) rfl
  refine y_cv kX5_inkAt kX4_spotRow 0 rfl ev2 (by decide +kernel) (w_RspotRow hI rfl) rfl rfl ?_
  rintro _ h _ ⟨v2, rfl, v2a, v2b, hI, rfl⟩
  refine y_run kX5_inkAt rfl ?_
  refine m_ix kX5_inkAt (hI.x (k := 4) rfl hsc.1.2.2.2.1) hsc.2.2.2.2 (fun v3 v3e v3a v3b => ?_)
  refine y_run kX5_inkAt rfl ?_
  obtain ⟨_, _, _, _, ev4, _⟩ := hI.r (k := 13) rfl
  refine y_cv kX5_inkAt kX4_spotPlace 0 rfl ev4 (by decide +kernel) (w_RspotPlace hI rfl) rfl rfl ?_
  rintro _ h _ ⟨v4, rfl, v4a, v4b, hI, rfl⟩
  refine y_run kX5_inkAt rfl ?_
  rw [yand_3]
  exact y_ir kX5_inkAt rfl rfl ⟨_, rfl, by omega, by omega, hI, rfl⟩
theorem w_layInk {b o ce1 ce2 : Nat} {g : yH} {t pw la a c x : Int} {E K R T : Nat → Int} {S : Nat → Bool} (hq : QF b g ce1 ce2 pw la) (hsc : SF b g t E K R T) (hf : PF b o g S a c x) {p i z : Int} (p1 : 0 ≤ p) (p2 : p < 120) (i1 : 0 ≤ i) (i2 : i ≤ 3) (z1 : 0 ≤ z) (z2 : z < 8192) (hI : MI b g h) : YM l G mX2_layInk 1 0 0 [vr (b + 8), vr (b + 1), vr (b + o), vi p, vi i, vi z] h n (PV b g n) := by
  refine YM.of kX2_layInk (Nat.le_of_ble_eq_true rfl) (L0 := [some (vr (b + 8)), some (vr (b + 1)), some (vr (b + o)), some (vi p), some (vi i), some (vi z), none, none, none]) rfl ?_
  obtain ⟨h1, h2, hq0⟩ := id hq
  obtain ⟨ho, hp, ⟨lo, hi, hL, hLb⟩, ⟨Fb, hFb, hFb2⟩, ⟨Fa, hFa, hFa2⟩⟩ := id hf
  refine y_run kX2_layInk rfl ?_
  refine m_get kX2_layInk (o) hI hp ?_ (t0 ho)
  refine y_run kX2_layInk rfl ?_
  refine m_ia kX2_layInk (o + 2) hI (t2 ho) (fun v1 v1a v1b => ?_)
  refine y_run kX2_layInk rfl ?_
  refine m_get kX2_layInk (8) hI hq0 ?_
  refine m_getF kX2_layInk (13) hI rfl (fun v2 v2a v2b => ?_)
  refine y_run kX2_layInk rfl ?_
  refine m_get kX2_layInk (o) hI hp ?_ (t0 ho)
  refine y_run kX2_layInk rfl ?_
  refine m_ia kX2_layInk (o + 1) hI (t1 ho) (fun v3 v3a v3b => ?_)
  refine y_run kX2_layInk rfl ?_
  refine m_get kX2_layInk (1) hI hsc.1.1 ?_
  refine y_run kX2_layInk rfl ?_
  refine m_ix kX2_layInk (hI.x (k := 2) rfl hsc.1.2.1) hsc.2.1 (fun v4 v4e v4a v4b => ?_)
  refine y_ic_ne kX2_layInk rfl rfl (fun c1 => ?_) (fun c1 => ?_)
  · refine y_run kX2_layInk rfl ?_
    refine m_get kX2_layInk (8) hI hq0 ?_
    refine y_run kX2_layInk rfl ?_
    refine m_iac kX2_layInk (ce1) hI (tc h1) (fun v5 v5a => ?_)
    refine y_ldc (z := 65536) kX2_layInk rfl (by decide +kernel) ?_
    refine y_run kX2_layInk rfl ?_
    refine m_isc kX2_layInk (ce1) hI (tc h1) (fun h hI => ?_)
    exact y_vr kX2_layInk rfl rfl ⟨rfl, hI, rfl⟩
  · refine y_run kX2_layInk rfl ?_
    refine m_get kX2_layInk (8) hI hq0 ?_
    refine m_getF kX2_layInk (13) hI rfl (fun v6 v6a v6b => ?_)
    refine y_run kX2_layInk rfl ?_
    refine m_get kX2_layInk (1) hI hsc.1.1 ?_
    refine y_run kX2_layInk rfl ?_
    have hk1 := hsc.2.2.2.1 v1 (by omega) (by omega)
    refine y_ia kX2_layInk rfl (hI.x (k := 3) rfl hsc.1.2.2.1) (by omega) (by omega) ?_
    generalize K (v1 * 4).toNat = co at hk1 ⊢
    obtain ⟨hk1, hk2⟩ := hk1
    refine y_run kX2_layInk rfl ?_
    refine y_cs kX2_layInk kX2_lookOf 4 rfl (by decide +kernel) (c_lookOf (by omega) (by omega) (by omega) (by omega) (by omega) (by omega) (by omega) (by omega)) rfl rfl ?_
    rintro _ _ _ ⟨rfl, rfl, rfl⟩
    refine y_run kX2_layInk rfl ?_
    refine m_get kX2_layInk (8) hI hq0 ?_
    refine y_run kX2_layInk rfl ?_
    refine m_get kX2_layInk (8) hI hq0 ?_
    refine y_run kX2_layInk rfl ?_
    refine m_iac kX2_layInk (ce1) hI (tc h1) (fun vc vca => ?_)
    have hbits := hi_bits vc
    refine y_ldc (z := -65536) kX2_layInk rfl (by decide +kernel) ?_
    refine y_run kX2_layInk rfl ?_
    refine m_isc kX2_layInk (ce1) hI (tc h1) (fun h hI => ?_)
    refine y_run kX2_layInk rfl ?_
    refine m_get kX2_layInk (8) hI hq0 ?_
    refine y_run kX2_layInk rfl ?_
    refine m_iac kX2_layInk (ce1) hI (tc h1) (fun v8 v8a => ?_)
    refine y_ldc (z := 65536) kX2_layInk rfl (by decide +kernel) ?_
    refine y_run kX2_layInk rfl ?_
    refine m_isc kX2_layInk (ce1) hI (tc h1) (fun h hI => ?_)
    exact y_vr kX2_layInk rfl rfl ⟨rfl, hI, rfl⟩
theorem s_lay2 {b o ce1 ce2 : Nat} {g : yH} {t pw la a c x : Int} {E K R T : Nat → Int} {S : Nat → Bool} (hq : QF b g ce1 ce2 pw la) (hsc : SF b g t E K R T) (hf : PF b o g S a c x) {p : Int} (p1 : 0 ≤ p) (p2 : p < 120) {i y : Int} (i1 : -32 ≤ i) (i2 : i ≤ 31) (y1 : -2000 ≤ y) (y2 : y ≤ 63) (kk : ∀ (u6 : Option xV) (u7 : Option xV) (h : yH), MI b g h → YW l G mX2_lay 3 0 0 (PV b g n) 134 [some (vr (b + 8)), some (vr (b + 1)), some (vr (b + o)), some (vi p), some (vi i), some (vi y), u6, u7] [] h n) : ∀ (m : Nat) (j : Int) (u7 : Option xV) (h : yH), (2000 - j).toNat < m → -63 ≤ j → j ≤ 2000 → MI b g h → YW l G mX2_lay 3 0 0 (PV b g n) 58 [some (vr (b + 8)), some (vr (b + 1)), some (vr (b + o)), some (vi p), some (vi i), some (vi y), some (vi j), u7] [] h n := by
  intro m
  induction m with
  | zero => intro j u7 h hm; exact absurd hm (Nat.not_lt_zero _)
  | succ m ih =>
    intro j u7 h hmm j0 j1 hI
    obtain ⟨h1, h2, hq0⟩ := id hq
    obtain ⟨ho, hp, ⟨lo, hi, hL, hLb⟩, ⟨Fb, hFb, hFb2⟩, ⟨Fa, hFa, hFa2⟩⟩ := id hf
    refine y_run kX2_lay rfl ?_
    refine y_ic_gt kX2_lay rfl rfl (fun c1 => ?_) (fun c1 => ?_)
    · exact kk _ _ _  hI
    · refine y_run kX2_lay rfl ?_
      refine m_get kX2_lay (8) hI hq0 ?_
      refine y_run kX2_lay rfl ?_
      obtain ⟨_, _, _, _, ev1, _⟩ := hI.r (k := 13) rfl
      refine y_cv kX2_lay kX4_aim 2 rfl ev1 (by decide +kernel) (w_Raim hI rfl (by omega) (by omega) (by omega) (by omega)) rfl rfl ?_
      rintro _ h _ ⟨rfl, hI, rfl⟩
      refine y_run kX2_lay rfl ?_
      refine m_get kX2_lay (8) hI hq0 ?_
      refine y_run kX2_lay rfl ?_
      refine m_get kX2_lay (o) hI hp ?_ (t0 ho)
      refine y_run kX2_lay rfl ?_
      obtain ⟨Fv2, fv2e, fv2f⟩ := hI.i (t1 ho)
      obtain ⟨_, _, _, _, ev2, _⟩ := hI.r (k := 13) rfl
      refine y_cv kX2_lay kX4_leave 2 rfl ev2 (by decide +kernel) (w_Rleave hI rfl fv2e fv2f (by omega) (by omega) (by omega)) rfl rfl ?_
      rintro _ h _ ⟨rfl, hI, rfl⟩
      refine y_run kX2_lay rfl ?_
      refine m_get kX2_lay (o) hI hp ?_ (t0 ho)
      refine y_run kX2_lay rfl ?_
      refine m_ia kX2_lay (o + 2) hI (t2 ho) (fun v3 v3a v3b => ?_)
      refine y_run kX2_lay rfl ?_
      refine m_get kX2_lay (8) hI hq0 ?_
      refine y_cv kX2_lay kX5_inkAt 2 rfl (hI.x (k := 1) rfl hsc.1.1) (by decide +kernel) (w_inkAt hsc (by omega) (by omega) hI) rfl rfl ?_
      rintro _ h _ ⟨v4, rfl, v4a, v4b, hI, rfl⟩
      refine y_run kX2_lay rfl ?_
      refine y_if_eq kX2_lay rfl rfl (fun c2 => ?_) (fun c2 => ?_)
      · refine y_run kX2_lay rfl ?_
        exact ih _ _ _ (by omega) (by omega) (by omega) hI
      · refine y_run kX2_lay rfl ?_
        refine y_cs kX2_lay kX2_cellOf 2 rfl (by decide +kernel) (c_cellOf) rfl rfl ?_
        rintro _ _ _ ⟨rfl, rfl, rfl⟩
        refine y_cv kX2_lay kX2_layInk 5 rfl (hI.x (k := 8) rfl hq0) (by decide +kernel) (w_layInk hq hsc hf (by omega) (by omega) (by omega) (by omega) (by omega) (by omega) hI) rfl rfl ?_
        rintro _ h _ ⟨rfl, hI, rfl⟩
        refine y_run kX2_lay rfl ?_
        exact ih _ _ _ (by omega) (by omega) (by omega) hI
theorem s_lay1 {b o ce1 ce2 : Nat} {g : yH} {t pw la a c x : Int} {E K R T : Nat → Int} {S : Nat → Bool} (hq : QF b g ce1 ce2 pw la) (hsc : SF b g t E K R T) (hf : PF b o g S a c x) {p : Int} (p1 : 0 ≤ p) (p2 : p < 120) : ∀ (m : Nat) (i : Int) (u5 : Option xV) (u6 : Option xV) (u7 : Option xV) (h : yH), (32 - i).toNat < m → -32 ≤ i → i ≤ 32 → MI b g h → YW l G mX2_lay 3 0 0 (PV b g n) 24 [some (vr (b + 8)), some (vr (b + 1)), some (vr (b + o)), some (vi p), some (vi i), u5, u6, u7] [] h n := by
  intro m
  induction m with
  | zero => intro i u5 u6 u7 h hm; exact absurd hm (Nat.not_lt_zero _)
  | succ m ih =>
    intro i u5 u6 u7 h hmm j0 j1 hI
    obtain ⟨h1, h2, hq0⟩ := id hq
    obtain ⟨ho, hp, ⟨lo, hi, hL, hLb⟩, ⟨Fb, hFb, hFb2⟩, ⟨Fa, hFa, hFa2⟩⟩ := id hf
    refine y_run kX2_lay rfl ?_
    refine m_get kX2_lay (8) hI hq0 ?_
    refine m_getO5 kX2_lay (14) hI rfl (fun v1 v1a v1b => ?_)
    refine y_ic_gt kX2_lay rfl rfl (fun c1 => ?_) (fun c1 => ?_)
    · exact y_vr kX2_lay rfl rfl ⟨rfl, hI, rfl⟩
    · refine y_run kX2_lay rfl ?_
      refine m_get kX2_lay (8) hI hq0 ?_
      refine y_run kX2_lay rfl ?_
      obtain ⟨_, _, _, _, _, _, ev2, _⟩ := hI.o (k := 14) rfl
      refine y_cv kX2_lay kX1_lastJ 1 rfl ev2 (by decide +kernel) (w_OlastJ hI rfl (by omega) (by omega)) rfl rfl ?_
      rintro _ h _ ⟨v2, rfl, v2a, v2b, hI, rfl⟩
      refine y_run kX2_lay rfl ?_
      refine m_get kX2_lay (8) hI hq0 ?_
      refine y_run kX2_lay rfl ?_
      obtain ⟨_, _, _, _, _, _, ev3, _⟩ := hI.o (k := 14) rfl
      refine y_cv kX2_lay kX1_firstJ 1 rfl ev3 (by decide +kernel) (w_OfirstJ hI rfl (by omega) (by omega)) rfl rfl ?_
      rintro _ h _ ⟨v3, rfl, v3a, v3b, hI, rfl⟩
      refine y_run kX2_lay rfl ?_
      exact s_lay2 hq hsc hf p1 p2 (by omega) (by omega) (by omega) (by omega) (fun u6 u7 h hI => by
        refine y_run kX2_lay rfl ?_
        exact ih _ _ _ _ _ (by omega) (by omega) (by omega) hI) _ _ _ _ (Nat.lt_succ_self _) (by omega) (by omega) hI
theorem w_lay {b o ce1 ce2 : Nat} {g : yH} {t pw la a c x : Int} {E K R T : Nat → Int} {S : Nat → Bool} (hq : QF b g ce1 ce2 pw la) (hsc : SF b g t E K R T) (hf : PF b o g S a c x) {p : Int} (p1 : 0 ≤ p) (p2 : p < 120) (hI : MI b g h) : YM l G mX2_lay 3 0 0 [vr (b + 8), vr (b + 1), vr (b + o), vi p] h n (PV b g n) := by
  refine YM.of kX2_lay (Nat.le_of_ble_eq_true rfl) (L0 := [some (vr (b + 8)), some (vr (b + 1)), some (vr (b + o)), some (vi p), none, none, none, none]) rfl ?_
  obtain ⟨h1, h2, hq0⟩ := id hq
  obtain ⟨ho, hp, ⟨lo, hi, hL, hLb⟩, ⟨Fb, hFb, hFb2⟩, ⟨Fa, hFa, hFa2⟩⟩ := id hf
  refine y_run kX2_lay rfl ?_
  refine m_get kX2_lay (8) hI hq0 ?_
  refine y_run kX2_lay rfl ?_
  refine m_get kX2_lay (o) hI hp ?_ (t0 ho)
  refine y_run kX2_lay rfl ?_
  obtain ⟨Fv1, fv1e, fv1f⟩ := hI.i (t1 ho)
  obtain ⟨_, _, _, _, _, _, ev1, _⟩ := hI.o (k := 14) rfl
  refine y_cv kX2_lay kX1_setTo 2 rfl ev1 (by decide +kernel) (w_OsetTo hI rfl fv1e fv1f (by omega) (by omega) (by omega)) rfl rfl ?_
  rintro _ h _ ⟨rfl, hI, rfl⟩
  refine y_run kX2_lay rfl ?_
  refine m_get kX2_lay (8) hI hq0 ?_
  refine m_getO4 kX2_lay (14) hI rfl (fun v2 v2a v2b => ?_)
  refine y_run kX2_lay rfl ?_
  exact s_lay1 hq hsc hf p1 p2 _ _ _ _ _ _ (Nat.lt_succ_self _) (by omega) (by omega) hI
end C82
end
section
def PQv (b : Nat) (g0 : yH) (n : Nat) : Option xV → yH → Nat → Prop := fun r h' n' => ∃ g' ce1 ce2 pw la, r = none ∧ SQ b g0 g' ∧ QF b g' ce1 ce2 pw la ∧ MI b g' h' ∧ n' = n
section C83
variable {l : Launch} {G : xG} {h : yH} {n : Nat}
theorem w_addDifference {b ce1 ce2 : Nat} {g : yH} {pw la : Int} (hq : QF b g ce1 ce2 pw la) {i j : Int} (i1 : -1000 ≤ i) (i2 : i ≤ 1000) (j1 : -1000 ≤ j) (j2 : j ≤ 1000) (hI : MI b g h) : YM l G mX2_addDifference 1 0 0 [vr (b + 8), vi i, vi j] h n (PV b g n) := by
  refine YM.of kX2_addDifference (Nat.le_of_ble_eq_true rfl) (L0 := [some (vr (b + 8)), some (vi i), some (vi j), none]) rfl ?_
  obtain ⟨h1, h2, hq0⟩ := id hq
  refine y_run kX2_addDifference rfl ?_
  refine m_get kX2_addDifference (8) hI hq0 ?_
  refine y_run kX2_addDifference rfl ?_
  refine m_ia kX2_addDifference (12) hI rfl (fun v1 v1a v1b => ?_)
  refine y_if_ne kX2_addDifference rfl rfl (fun c1 => ?_) (fun c1 => ?_)
  · refine y_run kX2_addDifference rfl ?_
    refine m_get kX2_addDifference (8) hI hq0 ?_
    refine y_run kX2_addDifference rfl ?_
    refine m_ia kX2_addDifference (12) hI rfl (fun v2 v2a v2b => ?_)
    refine y_run kX2_addDifference rfl ?_
    refine m_isn kX2_addDifference (12) hI rfl (fun h hI => ?_)
    refine y_run kX2_addDifference rfl ?_
    refine m_get kX2_addDifference (8) hI hq0 ?_
    refine y_run kX2_addDifference rfl ?_
    refine y_if_eq kX2_addDifference rfl rfl (fun c2 => ?_) (fun c2 => absurd c2 (by omega))
    refine y_run kX2_addDifference rfl ?_
    refine m_get kX2_addDifference (8) hI hq0 ?_
    refine y_run kX2_addDifference rfl ?_
    refine m_ia kX2_addDifference (12) hI rfl (fun v3 v3a v3b => ?_)
    refine y_run kX2_addDifference rfl ?_
    refine y_mn kX2_addDifference rfl (by decide +kernel) ?_
    refine m_isn kX2_addDifference (12) hI rfl (fun h hI => ?_)
    refine y_run kX2_addDifference rfl ?_
    refine m_get kX2_addDifference (8) hI hq0 ?_
    refine y_run kX2_addDifference rfl ?_
    refine y_if_eq kX2_addDifference rfl rfl (fun c3 => ?_) (fun c3 => absurd c3 (by omega))
    refine y_run kX2_addDifference rfl ?_
    refine m_get kX2_addDifference (8) hI hq0 ?_
    refine y_run kX2_addDifference rfl ?_
    refine m_ia kX2_addDifference (12) hI rfl (fun v4 v4a v4b => ?_)
    refine y_run kX2_addDifference rfl ?_
    refine y_mx kX2_addDifference rfl (by decide +kernel) ?_
    refine m_isn kX2_addDifference (12) hI rfl (fun h hI => ?_)
    refine y_run kX2_addDifference rfl ?_
    refine m_get kX2_addDifference (8) hI hq0 ?_
    refine y_run kX2_addDifference rfl ?_
    refine y_if_eq kX2_addDifference rfl rfl (fun c4 => ?_) (fun c4 => absurd c4 (by omega))
    refine y_run kX2_addDifference rfl ?_
    refine m_get kX2_addDifference (8) hI hq0 ?_
    refine y_run kX2_addDifference rfl ?_
    refine m_ia kX2_addDifference (12) hI rfl (fun v5 v5a v5b => ?_)
    refine y_run kX2_addDifference rfl ?_
    refine y_mn kX2_addDifference rfl (by decide +kernel) ?_
    refine m_isn kX2_addDifference (12) hI rfl (fun h hI => ?_)
    refine y_run kX2_addDifference rfl ?_
    refine m_get kX2_addDifference (8) hI hq0 ?_
    refine y_run kX2_addDifference rfl ?_
    refine y_if_eq kX2_addDifference rfl rfl (fun c5 => ?_) (fun c5 => absurd c5 (by omega))
    refine y_run kX2_addDifference rfl ?_
    refine m_get kX2_addDifference (8) hI hq0 ?_
    refine y_run kX2_addDifference rfl ?_
    refine m_ia kX2_addDifference (12) hI rfl (fun v6 v6a v6b => ?_)
    refine y_run kX2_addDifference rfl ?_
    refine y_mx kX2_addDifference rfl (by decide +kernel) ?_
    refine m_isn kX2_addDifference (12) hI rfl (fun h hI => ?_)
    exact y_vr kX2_addDifference rfl rfl ⟨rfl, hI, rfl⟩
  · refine y_run kX2_addDifference rfl ?_
    refine m_get kX2_addDifference (8) hI hq0 ?_
    refine y_run kX2_addDifference rfl ?_
    refine m_ia kX2_addDifference (12) hI rfl (fun v7 v7a v7b => ?_)
    refine y_run kX2_addDifference rfl ?_
    refine m_isn kX2_addDifference (12) hI rfl (fun h hI => ?_)
    refine y_run kX2_addDifference rfl ?_
    refine m_get kX2_addDifference (8) hI hq0 ?_
    refine y_run kX2_addDifference rfl ?_
    refine y_if_eq kX2_addDifference rfl rfl (fun c6 => absurd c6 (by omega)) (fun c6 => ?_)
    refine y_run kX2_addDifference rfl ?_
    refine m_isn kX2_addDifference (12) hI rfl (fun h hI => ?_)
    refine y_run kX2_addDifference rfl ?_
    refine m_get kX2_addDifference (8) hI hq0 ?_
    refine y_run kX2_addDifference rfl ?_
    refine y_if_eq kX2_addDifference rfl rfl (fun c7 => absurd c7 (by omega)) (fun c7 => ?_)
    refine y_run kX2_addDifference rfl ?_
    refine m_isn kX2_addDifference (12) hI rfl (fun h hI => ?_)
    refine y_run kX2_addDifference rfl ?_
    refine m_get kX2_addDifference (8) hI hq0 ?_
    refine y_run kX2_addDifference rfl ?_
    refine y_if_eq kX2_addDifference rfl rfl (fun c8 => absurd c8 (by omega)) (fun c8 => ?_)
    refine y_run kX2_addDifference rfl ?_
    refine m_isn kX2_addDifference (12) hI rfl (fun h hI => ?_)
    refine y_run kX2_addDifference rfl ?_
    refine m_get kX2_addDifference (8) hI hq0 ?_
    refine y_run kX2_addDifference rfl ?_
    refine y_if_eq kX2_addDifference rfl rfl (fun c9 => absurd c9 (by omega)) (fun c9 => ?_)
    refine y_run kX2_addDifference rfl ?_
    refine m_isn kX2_addDifference (12) hI rfl (fun h hI => ?_)
    exact y_vr kX2_addDifference rfl rfl ⟨rfl, hI, rfl⟩
theorem s_countAll {b : Nat} {g0 : yH} : ∀ (m : Nat) (q : Int) (u2 : Option xV) (g : yH) (ce1 ce2 : Nat) (pw la : Int) (h : yH), (8192 - q).toNat < m → 0 ≤ q → q ≤ 8192 → SQ b g0 g → QF b g ce1 ce2 pw la → MI b g h → YW l G mX2_countAll 2 0 0 (PQv b g0 n) 36 [some (vr (b + 8)), some (vi q), u2] [] h n := by
  intro m
  induction m with
  | zero => intro q u2 g ce1 ce2 pw la h hm; exact absurd hm (Nat.not_lt_zero _)
  | succ m ih =>
    intro q u2 g ce1 ce2 pw la h hmm j0 j1 hs hq hI
    obtain ⟨h1, h2, hq0⟩ := id hq
    refine y_run kX2_countAll rfl ?_
    refine m_get kX2_countAll (8) hI hq0 ?_
    obtain ⟨Fc, eFc, _⟩ := hI.c (tc h1)
    refine y_al kX2_countAll rfl eFc ?_
    refine y_ic_ge kX2_countAll rfl rfl (fun c1 => ?_) (fun c1 => ?_)
    · exact y_vr kX2_countAll rfl rfl ⟨_, _, _, _, _, rfl, hs, hq, hI, rfl⟩
    · refine y_run kX2_countAll rfl ?_
      refine m_get kX2_countAll (8) hI hq0 ?_
      refine y_run kX2_countAll rfl ?_
      refine m_iac kX2_countAll (ce1) hI (tc h1) (fun v1 v1a => ?_)
      refine y_run kX2_countAll rfl ?_
      refine m_get kX2_countAll (8) hI hq0 ?_
      refine y_run kX2_countAll rfl ?_
      refine y_cs kX2_countAll kX2_laidOf 1 rfl (by decide +kernel) (w_Plaid) rfl rfl ?_
      rintro _ _ _ ⟨⟨v2, rfl⟩, rfl, rfl⟩
      refine y_run kX2_countAll rfl ?_
      refine m_pQ kX2_countAll hI hq hs (fun g h hs hq hI => ?_) ⟨_, rfl, rfl, Nat.le_of_ble_eq_true rfl⟩ h1 h2
      obtain ⟨h1, h2, hq0⟩ := id hq
      refine y_run kX2_countAll rfl ?_
      refine y_cs kX2_countAll kX2_hasBox 1 rfl (by decide +kernel) (w_hasBox) rfl rfl ?_
      rintro _ _ _ ⟨⟨v3, rfl, v3a, v3b⟩, rfl, rfl⟩
      refine y_if_eq kX2_countAll rfl rfl (fun c2 => ?_) (fun c2 => ?_)
      · refine y_run kX2_countAll rfl ?_
        refine m_get kX2_countAll (8) hI hq0 ?_
        refine y_run kX2_countAll rfl ?_
        refine m_iac kX2_countAll (ce2) hI (tc h2) (fun v4 v4a => ?_)
        refine y_run kX2_countAll rfl ?_
        refine y_ldc (z := 65535) kX2_countAll rfl (by decide +kernel) ?_
        refine y_run kX2_countAll rfl ?_
        rw [yand_65535]
        refine y_if_eq kX2_countAll rfl rfl (fun c3 => ?_) (fun c3 => ?_)
        · refine y_run kX2_countAll rfl ?_
          exact ih _ _ _ _ _ _ _ _ (by omega) (by omega) (by omega) hs hq hI
        · refine y_run kX2_countAll rfl ?_
          refine y_idiv kX2_countAll rfl (by omega) (by omega) (by omega) (by omega) ?_
          refine y_run kX2_countAll rfl ?_
          refine y_irem kX2_countAll rfl (by omega) (by omega) (by omega) (by omega) ?_
          refine y_run kX2_countAll rfl ?_
          refine y_cv kX2_countAll kX2_addDifference 2 rfl (hI.x (k := 8) rfl hq0) (by decide +kernel) (w_addDifference hq (by omega) (by omega) (by omega) (by omega) hI) rfl rfl ?_
          rintro _ h _ ⟨rfl, hI, rfl⟩
          refine y_run kX2_countAll rfl ?_
          exact ih _ _ _ _ _ _ _ _ (by omega) (by omega) (by omega) hs hq hI
      · refine y_run kX2_countAll rfl ?_
        refine m_get kX2_countAll (8) hI hq0 ?_
        refine y_run kX2_countAll rfl ?_
        refine y_cs kX2_countAll kX2_boxOf 1 rfl (by decide +kernel) (c_boxOf) rfl rfl ?_
        rintro _ _ _ ⟨rfl, rfl, rfl⟩
        refine y_run kX2_countAll rfl ?_
        refine m_ia kX2_countAll (11) hI rfl (fun v7 v7a v7b => ?_)
        refine y_run kX2_countAll rfl ?_
        refine m_isn kX2_countAll (11) hI rfl (fun h hI => ?_)
        refine y_run kX2_countAll rfl ?_
        refine m_get kX2_countAll (8) hI hq0 ?_
        refine y_run kX2_countAll rfl ?_
        refine m_pQ kX2_countAll hI hq hs (fun g h hs hq hI => ?_) ⟨_, rfl, rfl, Nat.le_of_ble_eq_true rfl⟩ h1 h2
        obtain ⟨h1, h2, hq0⟩ := id hq
        refine y_run kX2_countAll rfl ?_
        refine m_get kX2_countAll (8) hI hq0 ?_
        refine y_run kX2_countAll rfl ?_
        refine m_iac kX2_countAll (ce2) hI (tc h2) (fun v8 v8a => ?_)
        refine y_run kX2_countAll rfl ?_
        refine y_ldc (z := 65535) kX2_countAll rfl (by decide +kernel) ?_
        refine y_run kX2_countAll rfl ?_
        rw [yand_65535]
        refine y_if_eq kX2_countAll rfl rfl (fun c4 => ?_) (fun c4 => ?_)
        · refine y_run kX2_countAll rfl ?_
          exact ih _ _ _ _ _ _ _ _ (by omega) (by omega) (by omega) hs hq hI
        · refine y_run kX2_countAll rfl ?_
          refine y_idiv kX2_countAll rfl (by omega) (by omega) (by omega) (by omega) ?_
          refine y_run kX2_countAll rfl ?_
          refine y_irem kX2_countAll rfl (by omega) (by omega) (by omega) (by omega) ?_
          refine y_run kX2_countAll rfl ?_
          refine y_cv kX2_countAll kX2_addDifference 2 rfl (hI.x (k := 8) rfl hq0) (by decide +kernel) (w_addDifference hq (by omega) (by omega) (by omega) (by omega) hI) rfl rfl ?_
          rintro _ h _ ⟨rfl, hI, rfl⟩
          refine y_run kX2_countAll rfl ?_
          exact ih _ _ _ _ _ _ _ _ (by omega) (by omega) (by omega) hs hq hI
theorem w_countAll {b ce1 ce2 : Nat} {g : yH} {pw la : Int} (hq : QF b g ce1 ce2 pw la) (hI : MI b g h) : YM l G mX2_countAll 2 0 0 [vr (b + 8)] h n (PQv b g n) := by
  refine YM.of kX2_countAll (Nat.le_of_ble_eq_true rfl) (L0 := [some (vr (b + 8)), none, none]) rfl ?_
  have hs := SQ.r b g
  obtain ⟨h1, h2, hq0⟩ := id hq
  refine y_run kX2_countAll rfl ?_
  refine m_get kX2_countAll (8) hI hq0 ?_
  refine y_run kX2_countAll rfl ?_
  refine y_cs kX2_countAll kJ7_fill_53178 2 rfl (by decide +kernel) (w_fill hI rfl (by omega) (by omega) (by omega)) rfl rfl ?_
  rintro _ h _ ⟨rfl, hI, rfl⟩
  refine y_run kX2_countAll rfl ?_
  refine m_get kX2_countAll (8) hI hq0 ?_
  refine y_run kX2_countAll rfl ?_
  refine y_cs kX2_countAll kJ7_fill_53178 2 rfl (by decide +kernel) (w_fill hI rfl (by omega) (by omega) (by omega)) rfl rfl ?_
  rintro _ h _ ⟨rfl, hI, rfl⟩
  refine y_run kX2_countAll rfl ?_
  refine m_get kX2_countAll (8) hI hq0 ?_
  refine y_run kX2_countAll rfl ?_
  refine m_isn kX2_countAll (12) hI rfl (fun h hI => ?_)
  refine y_run kX2_countAll rfl ?_
  refine m_pQ kX2_countAll hI hq hs (fun g h hs hq hI => ?_) ⟨_, rfl, rfl, Nat.le_of_ble_eq_true rfl⟩ h1 h2
  obtain ⟨h1, h2, hq0⟩ := id hq
  refine y_run kX2_countAll rfl ?_
  refine m_pQ kX2_countAll hI hq hs (fun g h hs hq hI => ?_) ⟨_, rfl, rfl, Nat.le_of_ble_eq_true rfl⟩ h1 h2
  obtain ⟨h1, h2, hq0⟩ := id hq
  refine y_run kX2_countAll rfl ?_
  exact s_countAll _ 0 _ _ _ _ _ _ _ (Nat.lt_succ_self _) (by omega) (by omega) hs hq hI
theorem s_show {b o ce1 ce2 : Nat} {g : yH} {t pw la a c x : Int} {E K R T : Nat → Int} {S : Nat → Bool} (hq : QF b g ce1 ce2 pw la) (hsc : SF b g t E K R T) (hf : PF b o g S a c x) {Φ : Option xV → yH → Nat → Prop} (a1 : 0 ≤ a) (a2 : a ≤ 96) {ad : Nat} (kk : ∀ (u4 : Option xV) (h : yH), MI b g h → YW l G mX2_show 4 0 0 (Φ) 57 [some (vr (b + 8)), some (vr (b + 1)), some (vr (b + o)), some (vr ad), u4] [] h n) : ∀ (m : Nat) (q : Int) (h : yH), (96 - q).toNat < m → 0 ≤ q → q ≤ 96 → MI b g h → YW l G mX2_show 4 0 0 (Φ) 29 [some (vr (b + 8)), some (vr (b + 1)), some (vr (b + o)), some (vr ad), some (vi q)] [] h n := by
  intro m
  induction m with
  | zero => intro q h hm; exact absurd hm (Nat.not_lt_zero _)
  | succ m ih =>
    intro q h hmm j0 j1 hI
    obtain ⟨h1, h2, hq0⟩ := id hq
    obtain ⟨ho, hp, ⟨lo, hi, hL, hLb⟩, ⟨Fb, hFb, hFb2⟩, ⟨Fa, hFa, hFa2⟩⟩ := id hf
    refine y_run kX2_show rfl ?_
    refine m_get kX2_show (o) hI hp ?_ (t0 ho)
    refine y_ic_ge kX2_show rfl rfl (fun c1 => ?_) (fun c1 => ?_)
    · exact kk _ _  hI
    · refine y_run kX2_show rfl ?_
      refine m_get kX2_show (o) hI hp ?_ (t0 ho)
      refine y_run kX2_show rfl ?_
      refine m_ia kX2_show (o + 3) hI (t3 ho) (fun v1 v1a v1b => ?_)
      refine y_cv kX2_show kX2_lay 3 rfl (hI.x (k := 8) rfl hq0) (by decide +kernel) (w_lay hq hsc hf (by omega) (by omega) hI) rfl rfl ?_
      rintro _ h _ ⟨rfl, hI, rfl⟩
      refine y_run kX2_show rfl ?_
      exact ih _ _ (by omega) (by omega) (by omega) hI
theorem w_show {b o ce1 ce2 : Nat} {g : yH} {t pw la a c x : Int} {E K R T : Nat → Int} {S : Nat → Bool} (hq : QF b g ce1 ce2 pw la) (hsc : SF b g t E K R T) (hf : PF b o g S a c x) (a1 : 0 ≤ a) (a2 : a ≤ 96) (hI : MI b g h) : YM l G mX2_show 4 0 0 [vr (b + 8), vr (b + 1), vr (b + o)] h n (PQv b g n) := by
  refine YM.of kX2_show (Nat.le_of_ble_eq_true rfl) (L0 := [some (vr (b + 8)), some (vr (b + 1)), some (vr (b + o)), none, none]) rfl ?_
  have hs := SQ.r b g
  obtain ⟨h1, h2, hq0⟩ := id hq
  obtain ⟨ho, hp, ⟨lo, hi, hL, hLb⟩, ⟨Fb, hFb, hFb2⟩, ⟨Fa, hFa, hFa2⟩⟩ := id hf
  have hc1 := h1
  refine y_run kX2_show rfl ?_
  refine m_get kX2_show (8) hI hq0 ?_
  refine y_run kX2_show rfl ?_
  refine m_get kX2_show (8) hI hq0 ?_
  refine m_pQ kX2_show hI hq hs (fun g h hs hq hI => ?_) ⟨_, rfl, rfl, Nat.le_of_ble_eq_true rfl⟩ h2 h2
  obtain ⟨h1, h2, hq0⟩ := id hq
  refine y_run kX2_show rfl ?_
  refine m_pQ kX2_show hI hq hs (fun g h hs hq hI => ?_) ⟨_, rfl, rfl, Nat.le_of_ble_eq_true rfl⟩ h1 hc1
  obtain ⟨h1, h2, hq0⟩ := id hq
  refine y_run kX2_show rfl ?_
  refine m_get kX2_show (8) hI hq0 ?_
  refine y_run kX2_show rfl ?_
  refine y_cs kX2_show kJ7_fill_53178 2 rfl (by decide +kernel) (w_fillc hI (tc h1) (by omega) (by omega)) rfl rfl ?_
  rintro _ h _ ⟨rfl, hI, rfl⟩
  refine y_run kX2_show rfl ?_
  have ho' := hf.1
  replace hsc := hsc.on (fun q q1 q2 => hs q (by omega))
  replace hf := hf.on (fun q q1 q2 => hs q (by omega))
  exact s_show hq hsc hf a1 a2 (fun u4 h hI => by
    refine y_run kX2_show rfl ?_
    refine y_cv kX2_show kX2_countAll 0 rfl (hI.x (k := 8) rfl hq0) (by decide +kernel) (w_countAll hq hI) rfl rfl ?_
    rintro _ h _ ⟨g, ce1, ce2, pw, la, rfl, hs2, hq, hI, rfl⟩
    replace hs := hs.t hs2
    obtain ⟨h1, h2, hq0⟩ := id hq
    exact y_vr kX2_show rfl rfl ⟨_, _, _, _, _, rfl, hs, hq, hI, rfl⟩) _ 0 _ (Nat.lt_succ_self _) (by omega) (by omega) hI
theorem w_cuts {b o : Nat} {g : yH} {S : Nat → Bool} {a c x : Int} (hf : PF b o g S a c x)  (hI : MI b g h) : YM l G mX3_cuts 0 0 0 [vr (b + o)] h n (PZ b g n (-2147483648) 2147483647) := by
  refine YM.of kX3_cuts (Nat.le_of_ble_eq_true rfl) (L0 := [some (vr (b + o))]) rfl ?_
  obtain ⟨ho, hp, ⟨lo, hi, hL, hLb⟩, ⟨Fb, hFb, hFb2⟩, ⟨Fa, hFa, hFa2⟩⟩ := id hf
  refine y_run kX3_cuts rfl ?_
  refine m_get kX3_cuts (o) hI hp ?_ (t0 ho)
  refine y_run kX3_cuts rfl ?_
  refine YW.nr1 ?_
  exact y_ir kX3_cuts rfl rfl ⟨_, rfl, (nrm_rng _).1, (nrm_rng _).2, hI, rfl⟩
theorem s_boxesCut {b o : Nat} {g : yH} {S : Nat → Bool} {a c x : Int} (hf : PF b o g S a c x) (x1 : 24 ≤ x) (x2 : x ≤ 120) : ∀ (m : Nat) (q : Int) (z : Int) (h : yH), (x - q).toNat < m → 24 ≤ q → q ≤ x → MI b g h → YW l G mX3_boxesCut 1 0 0 (PZ b g n (-2147483648) 2147483647) 5 [some (vr (b + o)), some (vi z), some (vi q)] [] h n := by
  intro m
  induction m with
  | zero => intro q z h hm; exact absurd hm (Nat.not_lt_zero _)
  | succ m ih =>
    intro q z h hmm j0 j1 hI
    obtain ⟨ho, hp, ⟨lo, hi, hL, hLb⟩, ⟨Fb, hFb, hFb2⟩, ⟨Fa, hFa, hFa2⟩⟩ := id hf
    refine y_run kX3_boxesCut rfl ?_
    refine m_get kX3_boxesCut (o) hI hp ?_ (t0 ho)
    refine y_ic_ge kX3_boxesCut rfl rfl (fun c1 => ?_) (fun c1 => ?_)
    · refine y_run kX3_boxesCut rfl ?_
      refine y_cs kX3_boxesCut kJ6_bitCount_0f7a4 1 rfl (by decide +kernel) (c_Ibit _) rfl rfl ?_
      rintro _ _ _ ⟨rfl, rfl, rfl⟩
      refine YW.nr1 ?_
      exact y_ir kX3_boxesCut rfl rfl ⟨_, rfl, (nrm_rng _).1, (nrm_rng _).2, hI, rfl⟩
    · refine y_run kX3_boxesCut rfl ?_
      refine m_get kX3_boxesCut (o) hI hp ?_ (t0 ho)
      refine y_run kX3_boxesCut rfl ?_
      refine m_ia kX3_boxesCut (o + 2) hI (t2 ho) (fun v2 v2a v2b => ?_)
      refine y_run kX3_boxesCut rfl ?_
      exact ih _ _ _ (by omega) (by omega) (by omega) hI
theorem w_boxesCut {b o : Nat} {g : yH} {S : Nat → Bool} {a c x : Int} (hf : PF b o g S a c x) (x1 : 24 ≤ x) (x2 : x ≤ 120) (hI : MI b g h) : YM l G mX3_boxesCut 1 0 0 [vr (b + o)] h n (PZ b g n (-2147483648) 2147483647) := by
  refine YM.of kX3_boxesCut (Nat.le_of_ble_eq_true rfl) (L0 := [some (vr (b + o)), none, none]) rfl ?_
  obtain ⟨ho, hp, ⟨lo, hi, hL, hLb⟩, ⟨Fb, hFb, hFb2⟩, ⟨Fa, hFa, hFa2⟩⟩ := id hf
  refine y_run kX3_boxesCut rfl ?_
  exact s_boxesCut hf x1 x2 _ 24 0 _ (Nat.lt_succ_self _) (by omega) (by omega) hI
theorem w_howMany {b : Nat} {g : yH} {t : Int} {E K R T : Nat → Int} (hsc : SF b g t E K R T)  (hI : MI b g h) : YM l G mX5_howMany 1 0 0 [vr (b + 1)] h n (PZ b g n (-2147483648) 2147483647) := by
  refine YM.of kX5_howMany (Nat.le_of_ble_eq_true rfl) (L0 := [some (vr (b + 1))]) rfl ?_
  refine y_run kX5_howMany rfl ?_
  refine m_get kX5_howMany (1) hI hsc.1.1 ?_
  refine y_cs kX5_howMany kJ6_bitCount_0f7a4 1 rfl (by decide +kernel) (c_Ibit _) rfl rfl ?_
  rintro _ _ _ ⟨rfl, rfl, rfl⟩
  refine YW.nr1 ?_
  exact y_ir kX5_howMany rfl rfl ⟨_, rfl, (nrm_rng _).1, (nrm_rng _).2, hI, rfl⟩
theorem s_howMany {b : Nat} {g : yH}  : ∀ (m : Nat) (q : Int) (z : Int) (h : yH), (32 - q).toNat < m → -32 ≤ q → q ≤ 32 → 0 ≤ z → z ≤ 200 * (q + 32) → MI b g h → YW l G mX1_howManyPixels 2 0 0 (PZ b g n (-2147483648) 2147483647) 7 [some (vr (b + 16)), some (vi z), some (vi q)] [] h n := by
  intro m
  induction m with
  | zero => intro q z h hm; exact absurd hm (Nat.not_lt_zero _)
  | succ m ih =>
    intro q z h hmm j0 j1 j2 j3 hI
    refine y_run kX1_howManyPixels rfl ?_
    refine m_getO5 kX1_howManyPixels (16) hI rfl (fun v1 v1a v1b => ?_)
    refine y_ic_gt kX1_howManyPixels rfl rfl (fun c1 => ?_) (fun c1 => ?_)
    · refine y_run kX1_howManyPixels rfl ?_
      exact y_ir kX1_howManyPixels rfl rfl ⟨_, rfl, by omega, by omega, hI, rfl⟩
    · refine y_run kX1_howManyPixels rfl ?_
      obtain ⟨_, _, _, _, _, _, ev2, _⟩ := hI.o (k := 16) rfl
      refine y_cv kX1_howManyPixels kX1_lastJ 1 rfl ev2 (by decide +kernel) (w_OlastJ hI rfl (by omega) (by omega)) rfl rfl ?_
      rintro _ h _ ⟨v2, rfl, v2a, v2b, hI, rfl⟩
      refine y_run kX1_howManyPixels rfl ?_
      obtain ⟨_, _, _, _, _, _, ev3, _⟩ := hI.o (k := 16) rfl
      refine y_cv kX1_howManyPixels kX1_firstJ 1 rfl ev3 (by decide +kernel) (w_OfirstJ hI rfl (by omega) (by omega)) rfl rfl ?_
      rintro _ h _ ⟨v3, rfl, v3a, v3b, hI, rfl⟩
      refine y_run kX1_howManyPixels rfl ?_
      refine y_mx kX1_howManyPixels rfl (by decide +kernel) ?_
      refine y_run kX1_howManyPixels rfl ?_
      exact ih _ _ _ (by omega) (by omega) (by omega) (by omega) (by omega) hI
theorem w_howManyPixels {b : Nat} {g : yH}  (hI : MI b g h) : YM l G mX1_howManyPixels 2 0 0 [vr (b + 16)] h n (PZ b g n (-2147483648) 2147483647) := by
  refine YM.of kX1_howManyPixels (Nat.le_of_ble_eq_true rfl) (L0 := [some (vr (b + 16)), none, none]) rfl ?_
  refine y_run kX1_howManyPixels rfl ?_
  refine m_getO4 kX1_howManyPixels (16) hI rfl (fun v1 v1a v1b => ?_)
  refine y_run kX1_howManyPixels rfl ?_
  exact s_howMany _ _ 0 _ (Nat.lt_succ_self _) (by omega) (by omega) (by omega) (by omega) hI
end C83
end
section
/-! the stage itself, as far as bounds go -/
def CX (b : Nat) (g : yH) (o1 o2 : Nat) (dr : Int) : Prop := ((o1 = 20 ∧ o2 = 270) ∨ (o1 = 270 ∧ o2 = 20)) ∧ g (b + 0) = some (bo b (b + o1) (b + o2) dr) ∧ -2147483648 ≤ dr ∧ dr ≤ 2147483647
def PJ (b o : Nat) (g : yH) : Prop := ∃ S a c x, PF b o g S a c x ∧ 0 ≤ a ∧ a ≤ 96 ∧ 24 ≤ x ∧ x ≤ 120
def QJ (b : Nat) (g : yH) : Prop := ∃ c1 c2 pw la, QF b g c1 c2 pw la
def CB (b : Nat) (g : yH) (t : Int) (E K R T : Nat → Int) : Prop := (∃ o1 o2 dr, CX b g o1 o2 dr) ∧ PJ b 20 g ∧ PJ b 270 g ∧ QJ b g ∧ SF b g t E K R T
def SB (b : Nat) (g g' : yH) : Prop := ∀ q, q ≠ b → q ≠ b + 8 → q ≠ b + 20 → q ≠ b + 24 → q ≠ b + 270 → q ≠ b + 274 → g' q = g q
theorem SB.r (b : Nat) (g : yH) : SB b g g := fun _ _ _ _ _ _ _ => rfl
theorem SB.t {b : Nat} {g g' g'' : yH} (h1 : SB b g g') (h2 : SB b g' g'') : SB b g g'' := fun q a1 a2 a3 a4 a5 a6 => (h2 q a1 a2 a3 a4 a5 a6).trans (h1 q a1 a2 a3 a4 a5 a6)
theorem SP.sb {b o : Nat} {g g' : yH} (ho : o = 20 ∨ o = 270) (h : SP b o g g') : SB b g g' := fun q a1 a2 a3 a4 a5 a6 => h q (by omega) (by omega)
theorem SQ.sb {b : Nat} {g g' : yH} (h : SQ b g g') : SB b g g' := fun q a1 a2 a3 a4 a5 a6 => h q a2
theorem CX.on {b : Nat} {g g' : yH} {o1 o2 : Nat} {dr : Int} (h : CX b g o1 o2 dr) (hq : g' (b + 0) = g (b + 0)) : CX b g' o1 o2 dr := ⟨h.1, hq.trans h.2.1, h.2.2⟩
theorem PJ.on {b o : Nat} {g g' : yH} (h : PJ b o g) (hq : ∀ q, b + o ≤ q → q < b + (o + 7) → g' q = g q) : PJ b o g' := by
  obtain ⟨S, a, c, x, hf, h2⟩ := h
  exact ⟨S, a, c, x, hf.on hq, h2⟩
theorem QJ.on {b : Nat} {g g' : yH} (h : QJ b g) (hq : g' (b + 8) = g (b + 8)) : QJ b g' := by
  obtain ⟨c1, c2, pw, la, h1, h2, h3⟩ := h
  exact ⟨c1, c2, pw, la, h1, h2, hq.trans h3⟩
theorem CB.sp {b o : Nat} {g g' : yH} {t : Int} {E K R T : Nat → Int} (hc : CB b g t E K R T) (ho : o = 20 ∨ o = 270) (hs : SP b o g g') (hp : PJ b o g') : CB b g' t E K R T := by
  obtain ⟨⟨o1, o2, dr, hx⟩, h20, h270, hq, hsc⟩ := hc
  refine ⟨⟨o1, o2, dr, hx.on (hs _ (by omega) (by omega))⟩, ?_, ?_, hq.on (hs _ (by omega) (by omega)), hsc.sp ho hs⟩
  · rcases ho with rfl | rfl
    · exact hp
    · exact h20.on (fun q q1 q2 => hs q (by omega) (by omega))
  · rcases ho with rfl | rfl
    · exact h270.on (fun q q1 q2 => hs q (by omega) (by omega))
    · exact hp
theorem PIv.pj {b o : Nat} {g : yH} {S : Nat → Bool} {a c x : Int} (hf : PF b o g S a c x) (hv : PIv S a c x) : PJ b o g := ⟨S, a, c, x, hf, hv.1, by have := hv.2.1; have := hv.2.2.1; omega, hv.2.2.2.1, by have := hv.2.2.2.2.1; have := hv.2.2.1; omega⟩
def PB (b : Nat) (g : yH) (n : Nat) (t : Int) (E K R T : Nat → Int) : Option xV → yH → Nat → Prop := fun r h' n' => ∃ g' v, r = some (vi v) ∧ SB b g g' ∧ CB b g' t E K R T ∧ MI b g' h' ∧ n' = n
theorem is01p {i j : Int} {r : Option xV} (hr : (r = some (vi 1) ∧ isPx i j) ∨ (r = some (vi 0) ∧ ¬ isPx i j)) : ∃ v : Int, r = some (vi v) ∧ 0 ≤ v ∧ v ≤ 1 ∧ (v ≠ 0 → -32 ≤ i ∧ i < 32 ∧ -64 ≤ j ∧ j < 64) := by
  rcases hr with ⟨rfl, h⟩ | ⟨rfl, _⟩
  · exact ⟨1, rfl, by omega, by omega, fun _ => h⟩
  · exact ⟨0, rfl, by omega, by omega, fun q => absurd rfl q⟩
section C84
variable {l : Launch} {G : xG} {M : xM} {d kc ks : Nat} {Φ : Option xV → yH → Nat → Prop} {h : yH} {n : Nat} {pc : Nat} {L : List (Option xV)} {st : List xV}
theorem y_lsw (hM : xOK M) {x dflt off : Int} {ps : Array (Int × Int)} {len tgt : Nat} (hd : xat M pc = some (.lookupswitch dflt ps, len)) (hp : (ps.toList.zip (ps.toList.drop 1)).all (fun (a, next) => a.1 < next.1) = true) (ho : Op.lookupswitch.offset ps.toList dflt x = off) (ht : xtg M pc off = some tgt) (k : YW l G M d kc ks Φ tgt L st h n) (b1 : -2147483648 ≤ x := by omega) (b2 : x < 2147483648 := by omega) : YW l G M d kc ks Φ pc L (vi x :: st) h n :=
  x_lsw hM hd hp (by rw [iI_toInt b1 b2]; exact ho) ht k
theorem m_getR2 (hM : xOK M) {idx a j N b : Nat} {g : yH} {lo hi : Int} (k : Nat) (hI : MI b g h) (hk : rTb k = some (4, N, lo, hi)) (kk : ∀ v, -100000 ≤ v → v ≤ 100000 → YW l G M d kc ks Φ (pc + 3) L (vi v :: st) h n) (hd : xat M pc = some (.getfield idx, 3) := by rfl) (hf : M.2.2.2.2.2.2.lookup idx = some (4, j) := by rfl) (hj : j < 4 := by exact Nat.le_of_ble_eq_true rfl) (ha : a = b + k := by rfl) : YW l G M d kc ks Φ pc L (vr a :: st) h n := m_getR hM k hI hk hj kk hd hf ha
end C84
section C85
variable {l : Launch} {G : xG} {h : yH} {n : Nat}
theorem s_nearer {b : Nat} {g : yH} {t : Int} {E K R T : Nat → Int} (hc : CB b g t E K R T) {p : Int} (p1 : 0 ≤ p) (p2 : p < 24) : ∀ (m : Nat) (q : Int) (z : Int) (h : yH), (24 - q).toNat < m → 0 ≤ q → q ≤ 24 → 0 ≤ z → z ≤ q → MI b g h → YW l G mX6_howManyNearer 0 0 0 (PZ b g n 0 24) 4 [some (vr b), some (vi p), some (vi z), some (vi q)] [] h n := by
  intro m
  induction m with
  | zero => intro q z h hm; exact absurd hm (Nat.not_lt_zero _)
  | succ m ih =>
    intro q z h hmm j0 j1 j2 j3 hI
    obtain ⟨⟨o1, o2, dr, ho12, hx, d1, d2⟩, hp20, hp270, ⟨ce1, ce2, pw, la, hq⟩, hsc⟩ := id hc
    have hP1 : PJ b o1 g := by rcases ho12 with ⟨rfl, rfl⟩ | ⟨rfl, rfl⟩ <;> assumption
    have hP2 : PJ b o2 g := by rcases ho12 with ⟨rfl, rfl⟩ | ⟨rfl, rfl⟩ <;> assumption
    obtain ⟨S1, a1, k1, x1, hf1, a11, a12, x11, x12⟩ := hP1
    obtain ⟨S2, a2, k2, x2, hf2, a21, a22, x21, x22⟩ := hP2
    obtain ⟨ho1, hp1, hr1⟩ := id hf1
    obtain ⟨ho2, hp2, hr2⟩ := id hf2
    obtain ⟨h1, h2, hq0⟩ := id hq
    refine y_run kX6_howManyNearer rfl ?_
    refine y_ic_ge kX6_howManyNearer rfl rfl (fun c1 => ?_) (fun c1 => ?_)
    · refine y_run kX6_howManyNearer rfl ?_
      exact y_ir kX6_howManyNearer rfl rfl ⟨_, rfl, by omega, by omega, hI, rfl⟩
    · refine y_run kX6_howManyNearer rfl ?_
      refine m_get kX6_howManyNearer (0) hI hx ?_
      refine y_run kX6_howManyNearer rfl ?_
      refine m_ia kX6_howManyNearer (18) hI rfl (fun v1 v1a v1b => ?_)
      refine y_run kX6_howManyNearer rfl ?_
      refine m_get kX6_howManyNearer (0) hI hx ?_
      refine y_run kX6_howManyNearer rfl ?_
      refine m_ia kX6_howManyNearer (18) hI rfl (fun v2 v2a v2b => ?_)
      refine y_ic_le kX6_howManyNearer rfl rfl (fun c2 => ?_) (fun c2 => ?_)
      · refine y_run kX6_howManyNearer rfl ?_
        exact ih _ _ _ (by omega) (by omega) (by omega) (by omega) (by omega) hI
      · refine y_run kX6_howManyNearer rfl ?_
        exact ih _ _ _ (by omega) (by omega) (by omega) (by omega) (by omega) hI
theorem w_nearer {b : Nat} {g : yH} {t : Int} {E K R T : Nat → Int} (hc : CB b g t E K R T) {p : Int} (p1 : 0 ≤ p) (p2 : p < 24) (hI : MI b g h) : YM l G mX6_howManyNearer 0 0 0 [vr b, vi p] h n (PZ b g n 0 24) := by
  refine YM.of kX6_howManyNearer (Nat.le_of_ble_eq_true rfl) (L0 := [some (vr b), some (vi p), none, none]) rfl ?_
  obtain ⟨⟨o1, o2, dr, ho12, hx, d1, d2⟩, hp20, hp270, ⟨ce1, ce2, pw, la, hq⟩, hsc⟩ := id hc
  have hP1 : PJ b o1 g := by rcases ho12 with ⟨rfl, rfl⟩ | ⟨rfl, rfl⟩ <;> assumption
  have hP2 : PJ b o2 g := by rcases ho12 with ⟨rfl, rfl⟩ | ⟨rfl, rfl⟩ <;> assumption
  obtain ⟨S1, a1, k1, x1, hf1, a11, a12, x11, x12⟩ := hP1
  obtain ⟨S2, a2, k2, x2, hf2, a21, a22, x21, x22⟩ := hP2
  obtain ⟨ho1, hp1, hr1⟩ := id hf1
  obtain ⟨ho2, hp2, hr2⟩ := id hf2
  obtain ⟨h1, h2, hq0⟩ := id hq
  refine y_run kX6_howManyNearer rfl ?_
  exact s_nearer hc p1 p2 _ 0 0 _ (Nat.lt_succ_self _) (by omega) (by omega) (by omega) (by omega) hI
theorem s_findExits {b : Nat} {g : yH} {t : Int} {E K R T : Nat → Int} (hc : CB b g t E K R T) {p y : Int} (p1 : -32 ≤ p) (p2 : p < 32) (y1 : -64 ≤ y) (y2 : y < 64) : ∀ (m : Nat) (q : Int) (h : yH), (24 - q).toNat < m → 0 ≤ q → q ≤ 24 → MI b g h → YW l G mX6_findExits 2 0 0 (PV b g n) 11 [some (vr b), some (vi p), some (vi y), some (vi q)] [] h n := by
  intro m
  induction m with
  | zero => intro q h hm; exact absurd hm (Nat.not_lt_zero _)
  | succ m ih =>
    intro q h hmm j0 j1 hI
    obtain ⟨⟨o1, o2, dr, ho12, hx, d1, d2⟩, hp20, hp270, ⟨ce1, ce2, pw, la, hq⟩, hsc⟩ := id hc
    have hP1 : PJ b o1 g := by rcases ho12 with ⟨rfl, rfl⟩ | ⟨rfl, rfl⟩ <;> assumption
    have hP2 : PJ b o2 g := by rcases ho12 with ⟨rfl, rfl⟩ | ⟨rfl, rfl⟩ <;> assumption
    obtain ⟨S1, a1, k1, x1, hf1, a11, a12, x11, x12⟩ := hP1
    obtain ⟨S2, a2, k2, x2, hf2, a21, a22, x21, x22⟩ := hP2
    obtain ⟨ho1, hp1, hr1⟩ := id hf1
    obtain ⟨ho2, hp2, hr2⟩ := id hf2
    obtain ⟨h1, h2, hq0⟩ := id hq
    refine y_run kX6_findExits rfl ?_
    refine y_ic_ge kX6_findExits rfl rfl (fun c1 => ?_) (fun c1 => ?_)
    · exact y_vr kX6_findExits rfl rfl ⟨rfl, hI, rfl⟩
    · refine y_run kX6_findExits rfl ?_
      refine m_get kX6_findExits (0) hI hx ?_
      refine y_run kX6_findExits rfl ?_
      refine m_is kX6_findExits (18) hI rfl (fun h hI => ?_)
      refine y_run kX6_findExits rfl ?_
      refine m_get kX6_findExits (0) hI hx ?_
      refine y_run kX6_findExits rfl ?_
      refine y_cv kX6_findExits kX5_has 1 rfl (hI.x (k := 1) rfl hsc.1.1) (by decide +kernel) (c_Shas (hI.sc hsc.1) ⟨by omega, by omega⟩) rfl rfl ?_
      rintro _ _ _ ⟨rfl, rfl, rfl⟩
      refine y_beq kX6_findExits rfl rfl (fun c2 => ?_) (fun c2 => ?_)
      · refine y_run kX6_findExits rfl ?_
        exact ih _ _ (by omega) (by omega) (by omega) hI
      · refine y_run kX6_findExits rfl ?_
        refine m_get kX6_findExits (0) hI hx ?_
        refine y_run kX6_findExits rfl ?_
        refine m_get kX6_findExits (0) hI hx ?_
        refine m_get kX6_findExits (1) hI hsc.1.1 ?_
        refine y_run kX6_findExits rfl ?_
        obtain ⟨_, _, _, _, ev2, _⟩ := hI.r (k := 15) rfl
        refine y_cv kX6_findExits kX4_hits 2 rfl ev2 (by decide +kernel) (w_Rhits hI rfl (hI.x (k := 2) rfl hsc.1.2.1) hsc.2.1 (by omega) (by omega) (by omega)) rfl rfl ?_
        rintro _ h _ ⟨v2, rfl, v2a, v2b, hI, rfl⟩
        refine y_if_eq kX6_findExits rfl rfl (fun c3 => ?_) (fun c3 => ?_)
        · refine y_run kX6_findExits rfl ?_
          exact ih _ _ (by omega) (by omega) (by omega) hI
        · refine y_run kX6_findExits rfl ?_
          refine m_get kX6_findExits (0) hI hx ?_
          refine y_run kX6_findExits rfl ?_
          refine m_get kX6_findExits (0) hI hx ?_
          refine m_get kX6_findExits (1) hI hsc.1.1 ?_
          refine y_run kX6_findExits rfl ?_
          obtain ⟨_, _, _, _, ev3, _⟩ := hI.r (k := 15) rfl
          refine y_cv kX6_findExits kX4_leave 2 rfl ev3 (by decide +kernel) (w_Rleave hI rfl (hI.x (k := 2) rfl hsc.1.2.1) hsc.2.1 (by omega) (by omega) (by omega)) rfl rfl ?_
          rintro _ h _ ⟨rfl, hI, rfl⟩
          refine y_run kX6_findExits rfl ?_
          refine m_get kX6_findExits (0) hI hx ?_
          refine y_run kX6_findExits rfl ?_
          refine m_get kX6_findExits (0) hI hx ?_
          refine m_getR2 kX6_findExits (15) hI rfl (fun v4 v4a v4b => ?_)
          refine m_is kX6_findExits (18) hI rfl (fun h hI => ?_)
          refine y_run kX6_findExits rfl ?_
          exact ih _ _ (by omega) (by omega) (by omega) hI
theorem w_findExits {b : Nat} {g : yH} {t : Int} {E K R T : Nat → Int} (hc : CB b g t E K R T) {p y : Int} (p1 : -32 ≤ p) (p2 : p < 32) (y1 : -64 ≤ y) (y2 : y < 64) (hI : MI b g h) : YM l G mX6_findExits 2 0 0 [vr b, vi p, vi y] h n (PV b g n) := by
  refine YM.of kX6_findExits (Nat.le_of_ble_eq_true rfl) (L0 := [some (vr b), some (vi p), some (vi y), none]) rfl ?_
  obtain ⟨⟨o1, o2, dr, ho12, hx, d1, d2⟩, hp20, hp270, ⟨ce1, ce2, pw, la, hq⟩, hsc⟩ := id hc
  have hP1 : PJ b o1 g := by rcases ho12 with ⟨rfl, rfl⟩ | ⟨rfl, rfl⟩ <;> assumption
  have hP2 : PJ b o2 g := by rcases ho12 with ⟨rfl, rfl⟩ | ⟨rfl, rfl⟩ <;> assumption
  obtain ⟨S1, a1, k1, x1, hf1, a11, a12, x11, x12⟩ := hP1
  obtain ⟨S2, a2, k2, x2, hf2, a21, a22, x21, x22⟩ := hP2
  obtain ⟨ho1, hp1, hr1⟩ := id hf1
  obtain ⟨ho2, hp2, hr2⟩ := id hf2
  obtain ⟨h1, h2, hq0⟩ := id hq
  refine y_run kX6_findExits rfl ?_
  refine m_get kX6_findExits (0) hI hx ?_
  refine y_run kX6_findExits rfl ?_
  obtain ⟨_, _, _, _, ev1, _⟩ := hI.r (k := 15) rfl
  refine y_cv kX6_findExits kX4_aim 2 rfl ev1 (by decide +kernel) (w_Raim hI rfl (by omega) (by omega) (by omega) (by omega)) rfl rfl ?_
  rintro _ h _ ⟨rfl, hI, rfl⟩
  refine y_run kX6_findExits rfl ?_
  exact s_findExits hc p1 p2 y1 y2 _ 0 _ (Nat.lt_succ_self _) (by omega) (by omega) hI
theorem s_under {b : Nat} {g : yH} {t : Int} {E K R T : Nat → Int} (hc : CB b g t E K R T) {p q r : Int} (p1 : -2147483648 ≤ p) (p2 : p < 2147483648) (q1 : -2147483648 ≤ q) (q2 : q < 2147483648) (r1 : -2147483648 ≤ r) (r2 : r < 2147483648) : ∀ (m : Nat) (y : Int) (h : yH), (24 - y).toNat < m → 0 ≤ y → y ≤ 24 → MI b g h → YW l G mX6_under 3 0 0 (PB b g n t E K R T) 19 [some (vr b), some (vi p), some (vi q), some (vi r), some (vi y)] [] h n := by
  intro m
  induction m with
  | zero => intro y h hm; exact absurd hm (Nat.not_lt_zero _)
  | succ m ih =>
    intro y h hmm j0 j1 hI
    obtain ⟨⟨o1, o2, dr, ho12, hx, d1, d2⟩, hp20, hp270, ⟨ce1, ce2, pw, la, hq⟩, hsc⟩ := id hc
    have hP1 : PJ b o1 g := by rcases ho12 with ⟨rfl, rfl⟩ | ⟨rfl, rfl⟩ <;> assumption
    have hP2 : PJ b o2 g := by rcases ho12 with ⟨rfl, rfl⟩ | ⟨rfl, rfl⟩ <;> assumption
    obtain ⟨S1, a1, k1, x1, hf1, a11, a12, x11, x12⟩ := hP1
    obtain ⟨S2, a2, k2, x2, hf2, a21, a22, x21, x22⟩ := hP2
    obtain ⟨ho1, hp1, hr1⟩ := id hf1
    obtain ⟨ho2, hp2, hr2⟩ := id hf2
    obtain ⟨h1, h2, hq0⟩ := id hq
    refine y_run kX6_under rfl ?_
    refine y_ic_ge kX6_under rfl rfl (fun c1 => ?_) (fun c1 => ?_)
    · refine y_run kX6_under rfl ?_
      exact y_ir kX6_under rfl rfl ⟨g, _, rfl, SB.r b g, hc, hI, rfl⟩
    · refine y_run kX6_under rfl ?_
      refine m_get kX6_under (0) hI hx ?_
      refine y_run kX6_under rfl ?_
      refine m_ia kX6_under (18) hI rfl (fun v1 v1a v1b => ?_)
      refine y_run kX6_under rfl ?_
      refine y_ic_eq kX6_under rfl rfl (fun c2 => ?_) (fun c2 => ?_)
      · refine y_run kX6_under rfl ?_
        exact ih _ _ (by omega) (by omega) (by omega) hI
      · refine y_run kX6_under rfl ?_
        refine y_cv kX6_under kX6_howManyNearer 1 rfl (hI.x (k := 0) rfl hx) (by decide +kernel) (w_nearer hc (by omega) (by omega) hI) rfl rfl ?_
        rintro _ h _ ⟨v2, rfl, v2a, v2b, hI, rfl⟩
        refine y_run kX6_under rfl ?_
        refine y_ic_ne kX6_under rfl rfl (fun c3 => ?_) (fun c3 => ?_)
        · refine y_run kX6_under rfl ?_
          exact ih _ _ (by omega) (by omega) (by omega) hI
        · refine y_run kX6_under rfl ?_
          exact y_ir kX6_under rfl rfl ⟨g, _, rfl, SB.r b g, hc, hI, rfl⟩
theorem w_under {b : Nat} {g : yH} {t : Int} {E K R T : Nat → Int} (hc : CB b g t E K R T) {p q r : Int} (p1 : -2147483648 ≤ p) (p2 : p < 2147483648) (q1 : -2147483648 ≤ q) (q2 : q < 2147483648) (r1 : -2147483648 ≤ r) (r2 : r < 2147483648) (hI : MI b g h) : YM l G mX6_under 3 0 0 [vr b, vi p, vi q, vi r] h n (PB b g n t E K R T) := by
  refine YM.of kX6_under (Nat.le_of_ble_eq_true rfl) (L0 := [some (vr b), some (vi p), some (vi q), some (vi r), none]) rfl ?_
  obtain ⟨⟨o1, o2, dr, ho12, hx, d1, d2⟩, hp20, hp270, ⟨ce1, ce2, pw, la, hq⟩, hsc⟩ := id hc
  have hP1 : PJ b o1 g := by rcases ho12 with ⟨rfl, rfl⟩ | ⟨rfl, rfl⟩ <;> assumption
  have hP2 : PJ b o2 g := by rcases ho12 with ⟨rfl, rfl⟩ | ⟨rfl, rfl⟩ <;> assumption
  obtain ⟨S1, a1, k1, x1, hf1, a11, a12, x11, x12⟩ := hP1
  obtain ⟨S2, a2, k2, x2, hf2, a21, a22, x21, x22⟩ := hP2
  obtain ⟨ho1, hp1, hr1⟩ := id hf1
  obtain ⟨ho2, hp2, hr2⟩ := id hf2
  obtain ⟨h1, h2, hq0⟩ := id hq
  refine y_run kX6_under rfl ?_
  refine y_cs kX6_under kX6_isPixel 2 rfl (by decide +kernel) (c_isPixel ⟨by omega, by omega⟩ ⟨by omega, by omega⟩) rfl rfl ?_
  rintro _ _ _ ⟨hr, rfl, rfl⟩
  obtain ⟨v1, rfl, v1a, v1b, v1c⟩ := is01p hr
  refine y_if_ne kX6_under rfl rfl (fun c1 => ?_) (fun c1 => ?_)
  · refine y_run kX6_under rfl ?_
    refine y_cv kX6_under kX6_findExits 2 rfl (hI.x (k := 0) rfl hx) (by decide +kernel) (w_findExits hc (by omega) (by omega) (by omega) (by omega) hI) rfl rfl ?_
    rintro _ h _ ⟨rfl, hI, rfl⟩
    refine y_run kX6_under rfl ?_
    exact s_under hc p1 p2 q1 q2 r1 r2 _ 0 _ (Nat.lt_succ_self _) (by omega) (by omega) hI
  · refine y_run kX6_under rfl ?_
    exact y_ir kX6_under rfl rfl ⟨g, _, rfl, SB.r b g, hc, hI, rfl⟩
theorem w_covers {b : Nat} {g : yH} {t : Int} {E K R T : Nat → Int} (hc : CB b g t E K R T) {p q : Int} (p1 : -2147483648 ≤ p) (p2 : p < 2147483648) (q1 : -2147483648 ≤ q) (q2 : q < 2147483648) (hI : MI b g h) : YM l G mX6_covers 3 0 0 [vr b, vi p, vi q] h n (PB b g n t E K R T) := by
  refine YM.of kX6_covers (Nat.le_of_ble_eq_true rfl) (L0 := [some (vr b), some (vi p), some (vi q)]) rfl ?_
  obtain ⟨⟨o1, o2, dr, ho12, hx, d1, d2⟩, hp20, hp270, ⟨ce1, ce2, pw, la, hq⟩, hsc⟩ := id hc
  have hP1 : PJ b o1 g := by rcases ho12 with ⟨rfl, rfl⟩ | ⟨rfl, rfl⟩ <;> assumption
  have hP2 : PJ b o2 g := by rcases ho12 with ⟨rfl, rfl⟩ | ⟨rfl, rfl⟩ <;> assumption
  obtain ⟨S1, a1, k1, x1, hf1, a11, a12, x11, x12⟩ := hP1
  obtain ⟨S2, a2, k2, x2, hf2, a21, a22, x21, x22⟩ := hP2
  obtain ⟨ho1, hp1, hr1⟩ := id hf1
  obtain ⟨ho2, hp2, hr2⟩ := id hf2
  obtain ⟨h1, h2, hq0⟩ := id hq
  refine y_run kX6_covers rfl ?_
  refine m_get kX6_covers (0) hI hx ?_
  refine y_run kX6_covers rfl ?_
  refine y_cv kX6_covers kX5_has 1 rfl (hI.x (k := 1) rfl hsc.1.1) (by decide +kernel) (c_Shas (hI.sc hsc.1) ⟨by omega, by omega⟩) rfl rfl ?_
  rintro _ _ _ ⟨rfl, rfl, rfl⟩
  refine y_beq kX6_covers rfl rfl (fun c1 => ?_) (fun c1 => ?_)
  · refine y_run kX6_covers rfl ?_
    exact y_ir kX6_covers rfl rfl ⟨g, _, rfl, SB.r b g, hc, hI, rfl⟩
  · refine y_run kX6_covers rfl ?_
    refine m_get kX6_covers (0) hI hx ?_
    refine y_run kX6_covers rfl ?_
    refine y_cv kX6_covers kX5_has 1 rfl (hI.x (k := 1) rfl hsc.1.1) (by decide +kernel) (c_Shas (hI.sc hsc.1) ⟨by omega, by omega⟩) rfl rfl ?_
    rintro _ _ _ ⟨rfl, rfl, rfl⟩
    refine y_beq kX6_covers rfl rfl (fun c2 => ?_) (fun c2 => ?_)
    · refine y_run kX6_covers rfl ?_
      exact y_ir kX6_covers rfl rfl ⟨g, _, rfl, SB.r b g, hc, hI, rfl⟩
    · refine y_run kX6_covers rfl ?_
      refine y_ic_ne kX6_covers rfl rfl (fun c3 => ?_) (fun c3 => ?_)
      · refine y_run kX6_covers rfl ?_
        refine m_get kX6_covers (0) hI hx ?_
        refine m_get kX6_covers (1) hI hsc.1.1 ?_
        refine y_run kX6_covers rfl ?_
        refine y_cs kX6_covers kX6_liesBeyond 3 rfl (by decide +kernel) (c_lb (hI.x (k := 2) rfl hsc.1.2.1) hsc.2.1 (by omega) (by omega) (by omega) (by omega) (by omega)) rfl rfl ?_
        rintro _ _ _ ⟨⟨v3, rfl, v3a, v3b⟩, rfl, rfl⟩
        refine y_if_ne kX6_covers rfl rfl (fun c4 => ?_) (fun c4 => ?_)
        · refine y_run kX6_covers rfl ?_
          refine m_get kX6_covers (0) hI hx ?_
          refine y_run kX6_covers rfl ?_
          refine m_get kX6_covers (0) hI hx ?_
          refine m_get kX6_covers (1) hI hsc.1.1 ?_
          refine y_run kX6_covers rfl ?_
          obtain ⟨_, _, _, _, _, _, ev4, _⟩ := hI.o (k := 16) rfl
          refine y_cv kX6_covers kX1_setTo 2 rfl ev4 (by decide +kernel) (w_OsetTo hI rfl (hI.x (k := 2) rfl hsc.1.2.1) hsc.2.1 (by omega) (by omega) (by omega)) rfl rfl ?_
          rintro _ h _ ⟨rfl, hI, rfl⟩
          refine y_run kX6_covers rfl ?_
          refine m_get kX6_covers (0) hI hx ?_
          refine y_run kX6_covers rfl ?_
          refine m_get kX6_covers (0) hI hx ?_
          refine m_get kX6_covers (1) hI hsc.1.1 ?_
          refine y_run kX6_covers rfl ?_
          obtain ⟨_, _, _, _, _, _, ev5, _⟩ := hI.o (k := 17) rfl
          refine y_cv kX6_covers kX1_setTo 2 rfl ev5 (by decide +kernel) (w_OsetTo hI rfl (hI.x (k := 2) rfl hsc.1.2.1) hsc.2.1 (by omega) (by omega) (by omega)) rfl rfl ?_
          rintro _ h _ ⟨rfl, hI, rfl⟩
          refine y_run kX6_covers rfl ?_
          refine m_get kX6_covers (0) hI hx ?_
          refine y_run kX6_covers rfl ?_
          refine m_get kX6_covers (0) hI hx ?_
          obtain ⟨_, _, _, _, _, _, ev6, _⟩ := hI.o (k := 16) rfl
          refine y_cv kX6_covers kX1_meet 1 rfl ev6 (by decide +kernel) (w_Omeet hI rfl rfl (by omega)) rfl rfl ?_
          rintro _ h _ ⟨rfl, hI, rfl⟩
          refine y_run kX6_covers rfl ?_
          refine m_get kX6_covers (0) hI hx ?_
          obtain ⟨_, _, _, _, _, _, ev7, _⟩ := hI.o (k := 16) rfl
          refine y_cv kX6_covers kX1_howManyPixels 0 rfl ev7 (by decide +kernel) (w_howManyPixels hI) rfl rfl ?_
          rintro _ h _ ⟨v7, rfl, v7a, v7b, hI, rfl⟩
          exact y_ir kX6_covers rfl rfl ⟨g, _, rfl, SB.r b g, hc, hI, rfl⟩
        · refine y_run kX6_covers rfl ?_
          exact y_ir kX6_covers rfl rfl ⟨g, _, rfl, SB.r b g, hc, hI, rfl⟩
      · refine y_run kX6_covers rfl ?_
        exact y_ir kX6_covers rfl rfl ⟨g, _, rfl, SB.r b g, hc, hI, rfl⟩
theorem w_seen {b : Nat} {g : yH} {t : Int} {E K R T : Nat → Int} (hc : CB b g t E K R T) {p : Int} (p1 : -2147483648 ≤ p) (p2 : p < 2147483648) (hI : MI b g h) : YM l G mX6_seen 1 0 0 [vr b, vi p] h n (PB b g n t E K R T) := by
  refine YM.of kX6_seen (Nat.le_of_ble_eq_true rfl) (L0 := [some (vr b), some (vi p)]) rfl ?_
  obtain ⟨⟨o1, o2, dr, ho12, hx, d1, d2⟩, hp20, hp270, ⟨ce1, ce2, pw, la, hq⟩, hsc⟩ := id hc
  have hP1 : PJ b o1 g := by rcases ho12 with ⟨rfl, rfl⟩ | ⟨rfl, rfl⟩ <;> assumption
  have hP2 : PJ b o2 g := by rcases ho12 with ⟨rfl, rfl⟩ | ⟨rfl, rfl⟩ <;> assumption
  obtain ⟨S1, a1, k1, x1, hf1, a11, a12, x11, x12⟩ := hP1
  obtain ⟨S2, a2, k2, x2, hf2, a21, a22, x21, x22⟩ := hP2
  obtain ⟨ho1, hp1, hr1⟩ := id hf1
  obtain ⟨ho2, hp2, hr2⟩ := id hf2
  obtain ⟨h1, h2, hq0⟩ := id hq
  refine y_run kX6_seen rfl ?_
  refine y_cs kX6_seen kX6_isBelow 2 rfl (by decide +kernel) (c_isBelow _ _ ⟨by omega, by omega⟩ ⟨by omega, by omega⟩) rfl rfl ?_
  rintro _ _ _ ⟨rfl, rfl, rfl⟩
  refine y_beq kX6_seen rfl rfl (fun c1 => ?_) (fun c1 => ?_)
  · refine y_run kX6_seen rfl ?_
    exact y_ir kX6_seen rfl rfl ⟨g, _, rfl, SB.r b g, hc, hI, rfl⟩
  · refine y_run kX6_seen rfl ?_
    refine m_get kX6_seen (0) hI hx ?_
    refine m_get kX6_seen (8) hI hq0 ?_
    refine y_run kX6_seen rfl ?_
    refine m_ia kX6_seen (11) hI rfl (fun v2 v2a v2b => ?_)
    refine y_run kX6_seen rfl ?_
    exact y_ir kX6_seen rfl rfl ⟨g, _, rfl, SB.r b g, hc, hI, rfl⟩
theorem w_changed {b : Nat} {g : yH} {t : Int} {E K R T : Nat → Int} (hc : CB b g t E K R T) {p : Int} (p1 : -2147483648 ≤ p) (p2 : p < 2147483648) (hI : MI b g h) : YM l G mX6_changed 1 0 0 [vr b, vi p] h n (PB b g n t E K R T) := by
  refine YM.of kX6_changed (Nat.le_of_ble_eq_true rfl) (L0 := [some (vr b), some (vi p)]) rfl ?_
  obtain ⟨⟨o1, o2, dr, ho12, hx, d1, d2⟩, hp20, hp270, ⟨ce1, ce2, pw, la, hq⟩, hsc⟩ := id hc
  have hP1 : PJ b o1 g := by rcases ho12 with ⟨rfl, rfl⟩ | ⟨rfl, rfl⟩ <;> assumption
  have hP2 : PJ b o2 g := by rcases ho12 with ⟨rfl, rfl⟩ | ⟨rfl, rfl⟩ <;> assumption
  obtain ⟨S1, a1, k1, x1, hf1, a11, a12, x11, x12⟩ := hP1
  obtain ⟨S2, a2, k2, x2, hf2, a21, a22, x21, x22⟩ := hP2
  obtain ⟨ho1, hp1, hr1⟩ := id hf1
  obtain ⟨ho2, hp2, hr2⟩ := id hf2
  obtain ⟨h1, h2, hq0⟩ := id hq
  refine y_run kX6_changed rfl ?_
  refine m_get kX6_changed (0) hI hx ?_
  refine m_get kX6_changed (8) hI hq0 ?_
  obtain ⟨Fd, eFd, _⟩ := hI.i (k := 12) rfl
  refine y_al kX6_changed rfl eFd ?_
  refine y_cs kX6_changed kX6_isBelow 2 rfl (by decide +kernel) (c_isBelow _ _ ⟨by omega, by omega⟩ ⟨by omega, by omega⟩) rfl rfl ?_
  rintro _ _ _ ⟨rfl, rfl, rfl⟩
  refine y_beq kX6_changed rfl rfl (fun c1 => ?_) (fun c1 => ?_)
  · refine y_run kX6_changed rfl ?_
    exact y_ir kX6_changed rfl rfl ⟨g, _, rfl, SB.r b g, hc, hI, rfl⟩
  · refine y_run kX6_changed rfl ?_
    refine m_get kX6_changed (0) hI hx ?_
    refine m_get kX6_changed (8) hI hq0 ?_
    refine y_run kX6_changed rfl ?_
    refine m_ia kX6_changed (12) hI rfl (fun v2 v2a v2b => ?_)
    refine y_run kX6_changed rfl ?_
    exact y_ir kX6_changed rfl rfl ⟨g, _, rfl, SB.r b g, hc, hI, rfl⟩
theorem w_count {b : Nat} {g : yH} {t : Int} {E K R T : Nat → Int} (hc : CB b g t E K R T) {p : Int} (p1 : -2147483648 ≤ p) (p2 : p < 2147483648) (hI : MI b g h) : YM l G mX6_count 2 0 0 [vr b, vi p] h n (PB b g n t E K R T) := by
  refine YM.of kX6_count (Nat.le_of_ble_eq_true rfl) (L0 := [some (vr b), some (vi p)]) rfl ?_
  obtain ⟨⟨o1, o2, dr, ho12, hx, d1, d2⟩, hp20, hp270, ⟨ce1, ce2, pw, la, hq⟩, hsc⟩ := id hc
  have hP1 : PJ b o1 g := by rcases ho12 with ⟨rfl, rfl⟩ | ⟨rfl, rfl⟩ <;> assumption
  have hP2 : PJ b o2 g := by rcases ho12 with ⟨rfl, rfl⟩ | ⟨rfl, rfl⟩ <;> assumption
  obtain ⟨S1, a1, k1, x1, hf1, a11, a12, x11, x12⟩ := hP1
  obtain ⟨S2, a2, k2, x2, hf2, a21, a22, x21, x22⟩ := hP2
  obtain ⟨ho1, hp1, hr1⟩ := id hf1
  obtain ⟨ho2, hp2, hr2⟩ := id hf2
  obtain ⟨h1, h2, hq0⟩ := id hq
  refine y_run kX6_count rfl ?_
  by_cases tz : p < 0 ∨ 6 < p
  · refine y_tout kX6_count rfl tz rfl ?_
    refine y_run kX6_count rfl ?_
    exact y_ir kX6_count rfl rfl ⟨g, _, rfl, SB.r b g, hc, hI, rfl⟩
  rcases (show p = 0 ∨ p = 1 ∨ p = 2 ∨ p = 3 ∨ p = 4 ∨ p = 5 ∨ p = 6 by omega) with rfl | rfl | rfl | rfl | rfl | rfl | rfl
  · refine y_tin kX6_count rfl rfl rfl ?_
    refine y_run kX6_count rfl ?_
    refine m_get kX6_count (0) hI hx ?_
    refine m_get kX6_count (o1) hI hp1 ?_ (t0 ho1)
    exact y_ir kX6_count rfl rfl ⟨g, _, rfl, SB.r b g, hc, hI, rfl⟩
  · refine y_tin kX6_count rfl rfl rfl ?_
    refine y_run kX6_count rfl ?_
    refine m_get kX6_count (0) hI hx ?_
    refine y_cv kX6_count kX3_cuts 0 rfl (hI.x (k := o1) (t0 ho1) hp1) (by decide +kernel) (w_cuts hf1 hI) rfl rfl ?_
    rintro _ h _ ⟨v1, rfl, v1a, v1b, hI, rfl⟩
    exact y_ir kX6_count rfl rfl ⟨g, _, rfl, SB.r b g, hc, hI, rfl⟩
  · refine y_tin kX6_count rfl rfl rfl ?_
    refine y_run kX6_count rfl ?_
    refine m_get kX6_count (0) hI hx ?_
    refine y_cv kX6_count kX3_boxesCut 0 rfl (hI.x (k := o1) (t0 ho1) hp1) (by decide +kernel) (w_boxesCut hf1 (by omega) (by omega) hI) rfl rfl ?_
    rintro _ h _ ⟨v1, rfl, v1a, v1b, hI, rfl⟩
    exact y_ir kX6_count rfl rfl ⟨g, _, rfl, SB.r b g, hc, hI, rfl⟩
  · refine y_tin kX6_count rfl rfl rfl ?_
    refine y_run kX6_count rfl ?_
    refine m_get kX6_count (0) hI hx ?_
    refine m_get kX6_count (8) hI hq0 ?_
    exact y_ir kX6_count rfl rfl ⟨g, _, rfl, SB.r b g, hc, hI, rfl⟩
  · refine y_tin kX6_count rfl rfl rfl ?_
    refine y_run kX6_count rfl ?_
    refine m_get kX6_count (0) hI hx ?_
    refine m_get kX6_count (8) hI hq0 ?_
    exact y_ir kX6_count rfl rfl ⟨g, _, rfl, SB.r b g, hc, hI, rfl⟩
  · refine y_tin kX6_count rfl rfl rfl ?_
    refine y_run kX6_count rfl ?_
    refine m_get kX6_count (0) hI hx ?_
    refine y_cv kX6_count kX5_howMany 0 rfl (hI.x (k := 1) rfl hsc.1.1) (by decide +kernel) (w_howMany hsc hI) rfl rfl ?_
    rintro _ h _ ⟨v1, rfl, v1a, v1b, hI, rfl⟩
    exact y_ir kX6_count rfl rfl ⟨g, _, rfl, SB.r b g, hc, hI, rfl⟩
  · refine y_tin kX6_count rfl rfl rfl ?_
    refine y_run kX6_count rfl ?_
    refine m_get kX6_count (0) hI hx ?_
    exact y_ir kX6_count rfl rfl ⟨g, _, rfl, SB.r b g, hc, hI, rfl⟩
theorem w_pixel {b : Nat} {g : yH} {t : Int} {E K R T : Nat → Int} (hc : CB b g t E K R T) {p q r : Int} (p1 : -2147483648 ≤ p) (p2 : p < 2147483648) (q1 : -2147483648 ≤ q) (q2 : q < 2147483648) (r1 : -2147483648 ≤ r) (r2 : r < 2147483648) (hI : MI b g h) : YM l G mX6_pixel 1 0 0 [vr b, vi p, vi q, vi r] h n (PB b g n t E K R T) := by
  refine YM.of kX6_pixel (Nat.le_of_ble_eq_true rfl) (L0 := [some (vr b), some (vi p), some (vi q), some (vi r), none]) rfl ?_
  obtain ⟨⟨o1, o2, dr, ho12, hx, d1, d2⟩, hp20, hp270, ⟨ce1, ce2, pw, la, hq⟩, hsc⟩ := id hc
  have hP1 : PJ b o1 g := by rcases ho12 with ⟨rfl, rfl⟩ | ⟨rfl, rfl⟩ <;> assumption
  have hP2 : PJ b o2 g := by rcases ho12 with ⟨rfl, rfl⟩ | ⟨rfl, rfl⟩ <;> assumption
  obtain ⟨S1, a1, k1, x1, hf1, a11, a12, x11, x12⟩ := hP1
  obtain ⟨S2, a2, k2, x2, hf2, a21, a22, x21, x22⟩ := hP2
  obtain ⟨ho1, hp1, hr1⟩ := id hf1
  obtain ⟨ho2, hp2, hr2⟩ := id hf2
  obtain ⟨h1, h2, hq0⟩ := id hq
  refine y_run kX6_pixel rfl ?_
  refine m_get kX6_pixel (0) hI hx ?_
  refine y_if_eq kX6_pixel rfl rfl (fun c1 => ?_) (fun c1 => ?_)
  · refine y_run kX6_pixel rfl ?_
    exact y_ir kX6_pixel rfl rfl ⟨g, _, rfl, SB.r b g, hc, hI, rfl⟩
  · refine y_run kX6_pixel rfl ?_
    refine y_cs kX6_pixel kX6_isPixel 2 rfl (by decide +kernel) (c_isPixel ⟨by omega, by omega⟩ ⟨by omega, by omega⟩) rfl rfl ?_
    rintro _ _ _ ⟨hr, rfl, rfl⟩
    obtain ⟨v1, rfl, v1a, v1b, v1c⟩ := is01p hr
    refine y_if_ne kX6_pixel rfl rfl (fun c2 => ?_) (fun c2 => ?_)
    · refine y_run kX6_pixel rfl ?_
      refine m_get kX6_pixel (0) hI hx ?_
      refine m_get kX6_pixel (8) hI hq0 ?_
      refine y_run kX6_pixel rfl ?_
      refine y_cs kX6_pixel kX2_cellOf 2 rfl (by decide +kernel) (c_cellOf) rfl rfl ?_
      rintro _ _ _ ⟨rfl, rfl, rfl⟩
      refine m_iac kX6_pixel (ce1) hI (tc h1) (fun v3 v3a => ?_)
      refine y_run kX6_pixel rfl ?_
      refine y_ic_ne kX6_pixel rfl rfl (fun c3 => ?_) (fun c3 => ?_)
      · refine y_run kX6_pixel rfl ?_
        refine y_cs kX6_pixel kX2_hasBox 1 rfl (by decide +kernel) (w_hasBox) rfl rfl ?_
        rintro _ _ _ ⟨⟨v4, rfl, v4a, v4b⟩, rfl, rfl⟩
        refine y_if_ne kX6_pixel rfl rfl (fun c4 => ?_) (fun c4 => ?_)
        · refine y_run kX6_pixel rfl ?_
          by_cases tz : r < 0 ∨ 2 < r
          · refine y_tout kX6_pixel rfl tz rfl ?_
            refine y_run kX6_pixel rfl ?_
            exact y_ir kX6_pixel rfl rfl ⟨g, _, rfl, SB.r b g, hc, hI, rfl⟩
          rcases (show r = 0 ∨ r = 1 ∨ r = 2 by omega) with rfl | rfl | rfl
          · refine y_tin kX6_pixel rfl rfl rfl ?_
            refine y_run kX6_pixel rfl ?_
            refine y_cs kX6_pixel kX2_boxOf 1 rfl (by decide +kernel) (c_boxOf) rfl rfl ?_
            rintro _ _ _ ⟨rfl, rfl, rfl⟩
            exact y_ir kX6_pixel rfl rfl ⟨g, _, rfl, SB.r b g, hc, hI, rfl⟩
          · refine y_tin kX6_pixel rfl rfl rfl ?_
            refine y_run kX6_pixel rfl ?_
            refine y_cs kX6_pixel kX2_faceOf 1 rfl (by decide +kernel) (w_Pface) rfl rfl ?_
            rintro _ _ _ ⟨⟨v1, rfl⟩, rfl, rfl⟩
            exact y_ir kX6_pixel rfl rfl ⟨g, _, rfl, SB.r b g, hc, hI, rfl⟩
          · refine y_tin kX6_pixel rfl rfl rfl ?_
            refine y_run kX6_pixel rfl ?_
            refine y_cs kX6_pixel kX2_paintOf 1 rfl (by decide +kernel) (w_Ppaint) rfl rfl ?_
            rintro _ _ _ ⟨⟨v1, rfl⟩, rfl, rfl⟩
            exact y_ir kX6_pixel rfl rfl ⟨g, _, rfl, SB.r b g, hc, hI, rfl⟩
        · refine y_run kX6_pixel rfl ?_
          exact y_ir kX6_pixel rfl rfl ⟨g, _, rfl, SB.r b g, hc, hI, rfl⟩
      · refine y_run kX6_pixel rfl ?_
        refine y_cs kX6_pixel kX2_laidOf 1 rfl (by decide +kernel) (w_Plaid) rfl rfl ?_
        rintro _ _ _ ⟨⟨v5, rfl⟩, rfl, rfl⟩
        exact y_ir kX6_pixel rfl rfl ⟨g, _, rfl, SB.r b g, hc, hI, rfl⟩
    · refine y_run kX6_pixel rfl ?_
      exact y_ir kX6_pixel rfl rfl ⟨g, _, rfl, SB.r b g, hc, hI, rfl⟩
theorem w_piece {b : Nat} {g : yH} {t : Int} {E K R T : Nat → Int} (hc : CB b g t E K R T) {p q : Int} (p1 : -2147483648 ≤ p) (p2 : p < 2147483648) (q1 : -2147483648 ≤ q) (q2 : q < 2147483648) (hI : MI b g h) : YM l G mX6_piece 1 0 0 [vr b, vi p, vi q] h n (PB b g n t E K R T) := by
  refine YM.of kX6_piece (Nat.le_of_ble_eq_true rfl) (L0 := [some (vr b), some (vi p), some (vi q), none]) rfl ?_
  obtain ⟨⟨o1, o2, dr, ho12, hx, d1, d2⟩, hp20, hp270, ⟨ce1, ce2, pw, la, hq⟩, hsc⟩ := id hc
  have hP1 : PJ b o1 g := by rcases ho12 with ⟨rfl, rfl⟩ | ⟨rfl, rfl⟩ <;> assumption
  have hP2 : PJ b o2 g := by rcases ho12 with ⟨rfl, rfl⟩ | ⟨rfl, rfl⟩ <;> assumption
  obtain ⟨S1, a1, k1, x1, hf1, a11, a12, x11, x12⟩ := hP1
  obtain ⟨S2, a2, k2, x2, hf2, a21, a22, x21, x22⟩ := hP2
  obtain ⟨ho1, hp1, hr1⟩ := id hf1
  obtain ⟨ho2, hp2, hr2⟩ := id hf2
  obtain ⟨h1, h2, hq0⟩ := id hq
  refine y_run kX6_piece rfl ?_
  refine m_get kX6_piece (0) hI hx ?_
  refine m_get kX6_piece (o1) hI hp1 ?_ (t0 ho1)
  refine y_cs kX6_piece kX6_isBelow 2 rfl (by decide +kernel) (c_isBelow _ _ ⟨by omega, by omega⟩ ⟨by omega, by omega⟩) rfl rfl ?_
  rintro _ _ _ ⟨rfl, rfl, rfl⟩
  refine y_bne kX6_piece rfl rfl (fun c1 => ?_) (fun c1 => ?_)
  · refine y_run kX6_piece rfl ?_
    refine m_get kX6_piece (0) hI hx ?_
    refine m_get kX6_piece (o1) hI hp1 ?_ (t0 ho1)
    refine y_run kX6_piece rfl ?_
    refine m_ia kX6_piece (o1 + 3) hI (t3 ho1) (fun v2 v2a v2b => ?_)
    refine y_run kX6_piece rfl ?_
    by_cases tz0 : q = 0
    · subst tz0
      refine y_lsw kX6_piece rfl rfl rfl rfl ?_
      refine y_run kX6_piece rfl ?_
      refine m_get kX6_piece (0) hI hx ?_
      refine m_get kX6_piece (o1) hI hp1 ?_ (t0 ho1)
      refine y_run kX6_piece rfl ?_
      refine m_ia kX6_piece (o1 + 2) hI (t2 ho1) (fun v1 v1a v1b => ?_)
      exact y_ir kX6_piece rfl rfl ⟨g, _, rfl, SB.r b g, hc, hI, rfl⟩
    by_cases tz1 : q = 1
    · subst tz1
      refine y_lsw kX6_piece rfl rfl rfl rfl ?_
      refine y_run kX6_piece rfl ?_
      exact y_ir kX6_piece rfl rfl ⟨g, _, rfl, SB.r b g, hc, hI, rfl⟩
    refine y_lsw (off := 37) kX6_piece rfl rfl (by simp [Op.lookupswitch.offset, Ne.symm tz0, Ne.symm tz1]) rfl ?_
    refine y_run kX6_piece rfl ?_
    refine YW.nr2 ?_
    refine y_cs kX6_piece kX6_isBelow 2 rfl (by decide +kernel) (c_isBelow _ _ ⟨(nrm_rng _).1, Int.lt_of_le_of_lt (nrm_rng _).2 (by omega)⟩ ⟨by omega, by omega⟩) rfl rfl ?_
    rintro _ _ _ ⟨rfl, rfl, rfl⟩
    have e1 : (0 ≤ nrm (q - 2) ∧ nrm (q - 2) < 6) → (2 ≤ q ∧ q < 8) := by
      by_cases z : -2147483648 ≤ q - 2
      · rw [nrm_id z (by omega)]; omega
      · intro y
        have := nrm_mod (q - 2)
        omega
    refine y_beq kX6_piece rfl rfl (fun c1 => ?_) (fun c1 => ?_)
    · refine y_run kX6_piece rfl ?_
      exact y_ir kX6_piece rfl rfl ⟨g, _, rfl, SB.r b g, hc, hI, rfl⟩
    · refine y_run kX6_piece rfl ?_
      refine m_get kX6_piece (0) hI hx ?_
      refine m_get kX6_piece (o1) hI hp1 ?_ (t0 ho1)
      refine y_run kX6_piece rfl ?_
      refine m_ia kX6_piece (o1 + 1) hI (t1 ho1) (fun v1 v1a v1b => ?_)
      refine y_run kX6_piece rfl ?_
      exact y_ir kX6_piece rfl rfl ⟨g, _, rfl, SB.r b g, hc, hI, rfl⟩
  · refine y_run kX6_piece rfl ?_
    exact y_ir kX6_piece rfl rfl ⟨g, _, rfl, SB.r b g, hc, hI, rfl⟩
end C85
end
section
section C86
variable {l : Launch} {G : xG} {h : yH} {n : Nat}
theorem w_tangled {b : Nat} {g : yH} {t : Int} {E K R T : Nat → Int} (hc : CB b g t E K R T) {p : Int} (p1 : -2147483648 ≤ p) (p2 : p < 2147483648) (hI : MI b g h) : YM l G mX6_tangled 4 0 0 [vr b, vi p] h n (PB b g n t E K R T) := by
  refine YM.of kX6_tangled (Nat.le_of_ble_eq_true rfl) (L0 := [some (vr b), some (vi p)]) rfl ?_
  obtain ⟨⟨o1, o2, dr, ho12, hx, d1, d2⟩, hp20, hp270, ⟨ce1, ce2, pw, la, hq⟩, hsc⟩ := id hc
  have hP2 : PJ b o2 g := by rcases ho12 with ⟨rfl, rfl⟩ | ⟨rfl, rfl⟩ <;> assumption
  obtain ⟨S2, a2, k2, x2, hf2, a21, a22, x21, x22⟩ := hP2
  obtain ⟨ho2, hp2, hr2⟩ := id hf2
  refine y_run kX6_tangled rfl ?_
  refine m_get kX6_tangled (0) hI hx ?_
  refine y_run kX6_tangled rfl ?_
  refine y_cv kX6_tangled kX5_has 1 rfl (hI.x (k := 1) rfl hsc.1.1) (by decide +kernel) (c_Shas (hI.sc hsc.1) ⟨by omega, by omega⟩) rfl rfl ?_
  rintro _ _ _ ⟨rfl, rfl, rfl⟩
  refine y_bne kX6_tangled rfl rfl (fun c1 => ?_) (fun c1 => ?_)
  · obtain ⟨⟨c2, c3⟩, _⟩ := c1
    refine y_run kX6_tangled rfl ?_
    refine m_get kX6_tangled (0) hI hx ?_
    refine y_run kX6_tangled rfl ?_
    refine m_get kX6_tangled (0) hI hx ?_
    refine y_cv kX6_tangled kX3_load 1 rfl (hI.x (k := o2) (t0 ho2) hp2) (by decide +kernel) (w_load hf2 hsc hI) rfl rfl ?_
    rintro _ h _ ⟨g1, S, a, c, x, rfl, hs, hf, hv, hI, rfl⟩
    obtain ⟨_, hp, hr⟩ := id hf
    have hx1 : g1 (b + 0) = some (bo b (b + o1) (b + o2) dr) := (hs _ (by omega) (by omega)).trans hx
    refine y_run kX6_tangled rfl ?_
    refine m_get kX6_tangled (0) hI hx1 ?_
    refine y_run kX6_tangled rfl ?_
    refine y_cv kX6_tangled kX3_findTangle 1 rfl (hI.x (k := o2) (t0 ho2) hp) (by decide +kernel) (w_findTangle hf (fun k hk => by have := hv.2.2.2.2.2 k hk; have := hv.2.2.1; have := hv.2.2.2.2.1; omega) (by omega) (by omega) hI) rfl rfl ?_
    rintro _ h _ ⟨rfl, hI, rfl⟩
    refine y_run kX6_tangled rfl ?_
    refine m_get kX6_tangled (0) hI hx1 ?_
    refine m_get kX6_tangled (o2) hI hp ?_ (t0 ho2)
    refine m_cvN kX6_tangled kX0_size 0 hI (nT ho2 (by omega) (by omega)) rfl (by decide +kernel) (w_Nsize hI (nT ho2 (by omega) (by omega))) rfl rfl ?_
    rintro _ h _ ⟨v1, rfl, v1a, v1b, hI, rfl⟩
    exact y_ir kX6_tangled rfl rfl ⟨g1, _, rfl, hs.sb ho2, hc.sp ho2 hs (PIv.pj hf hv), hI, rfl⟩
  · refine y_run kX6_tangled rfl ?_
    exact y_ir kX6_tangled rfl rfl ⟨g, _, rfl, SB.r b g, hc, hI, rfl⟩
theorem w_draw {b : Nat} {g : yH} {t : Int} {E K R T : Nat → Int} (hc : CB b g t E K R T) (hI : MI b g h) : YM l G mX6_draw 6 0 0 [vr b] h n (PB b g n t E K R T) := by
  refine YM.of kX6_draw (Nat.le_of_ble_eq_true rfl) (L0 := [some (vr b), none]) rfl ?_
  obtain ⟨⟨o1, o2, dr, ho12, hx, d1, d2⟩, hp20, hp270, ⟨ce1, ce2, pw, la, hq⟩, hsc⟩ := id hc
  have hP1 : PJ b o1 g := by rcases ho12 with ⟨rfl, rfl⟩ | ⟨rfl, rfl⟩ <;> assumption
  have hP2 : PJ b o2 g := by rcases ho12 with ⟨rfl, rfl⟩ | ⟨rfl, rfl⟩ <;> assumption
  obtain ⟨S2, a2, k2, x2, hf2, a21, a22, x21, x22⟩ := hP2
  obtain ⟨ho2, hp2, hr2⟩ := id hf2
  refine y_run kX6_draw rfl ?_
  refine m_get kX6_draw (0) hI hx ?_
  refine y_run kX6_draw rfl ?_
  refine m_get kX6_draw (0) hI hx ?_
  refine y_cv kX6_draw kX3_load 1 rfl (hI.x (k := o2) (t0 ho2) hp2) (by decide +kernel) (w_load hf2 hsc hI) rfl rfl ?_
  rintro _ h _ ⟨g1, S, a, c, x, rfl, hs, hf, hv, hI, rfl⟩
  obtain ⟨_, hp, hr⟩ := id hf
  have hx1 : g1 (b + 0) = some (bo b (b + o1) (b + o2) dr) := (hs _ (by omega) (by omega)).trans hx
  refine y_run kX6_draw rfl ?_
  refine m_get kX6_draw (0) hI hx1 ?_
  refine y_cv kX6_draw kX3_putInOrder 0 rfl (hI.x (k := o2) (t0 ho2) hp) (by decide +kernel) (w_putInOrder hf hv hI) rfl rfl ?_
  rintro _ h _ ⟨g2, S, a, c, x, v1, rfl, v1a, v1b, hs2, hf, hv, hI, rfl⟩
  replace hs := hs.t hs2
  obtain ⟨_, hp, hr⟩ := id hf
  have hx2 : g2 (b + 0) = some (bo b (b + o1) (b + o2) dr) := (hs _ (by omega) (by omega)).trans hx
  refine y_if_ne kX6_draw rfl rfl (fun c1 => ?_) (fun c1 => ?_)
  · refine y_run kX6_draw rfl ?_
    refine m_get kX6_draw (0) hI hx2 ?_
    refine y_run kX6_draw rfl ?_
    refine m_get kX6_draw (0) hI hx2 ?_
    refine m_put kX6_draw 0 hI hx2 (fun h hI => ?_)
    have hx3 : (yup g2 (b + 0) (bo b (b + o1) (b + o1) dr)) (b + 0) = some (bo b (b + o1) (b + o1) dr) := yup_eq _ _ _
    refine y_run kX6_draw rfl ?_
    refine m_put kX6_draw 0 (g := yup g2 (b + 0) (bo b (b + o1) (b + o1) dr)) hI hx3 (fun h hI => ?_)
    generalize hg4 : yup (yup g2 (b + 0) (bo b (b + o1) (b + o1) dr)) (b + 0) (bo b (b + o2) (b + o1) dr) = g4
    replace hI : MI b g4 h := by rw [← hg4]; exact hI
    have hx4 : g4 (b + 0) = some (bo b (b + o2) (b + o1) dr) := by rw [← hg4]; exact yup_eq _ _ _
    have h42 : ∀ q, q ≠ b → g4 q = g2 q := fun q hq => by rw [← hg4, yup_ne _ _ (by omega), yup_ne _ _ (by omega)]
    have hq4 : QF b g4 ce1 ce2 pw la := ⟨hq.1, hq.2.1, ((h42 _ (by omega)).trans (hs _ (by omega) (by omega))).trans hq.2.2⟩
    have hsc4 : SF b g4 t E K R T := (hsc.sp ho2 hs).on (fun q q1 q2 => h42 q (by omega))
    have hf4 : PF b o2 g4 S a c x := hf.on (fun q q1 q2 => h42 q (by omega))
    refine y_run kX6_draw rfl ?_
    refine m_get kX6_draw (0) hI hx4 ?_
    refine y_run kX6_draw rfl ?_
    refine m_get kX6_draw (0) hI hx4 ?_
    refine y_run kX6_draw rfl ?_
    refine m_get kX6_draw (0) hI hx4 ?_
    have ha1 : 0 ≤ a := hv.1
    have ha2 : a ≤ 96 := by have := hv.2.1; have := hv.2.2.1; omega
    refine y_cv kX6_draw kX2_show 2 rfl (hI.x (k := 8) rfl hq4.2.2) (by decide +kernel) (w_show hq4 hsc4 hf4 ha1 ha2 hI) rfl rfl ?_
    rintro _ h _ ⟨g5, c1', c2', pw', la', rfl, hs5, hq5, hI, rfl⟩
    have hx5 : g5 (b + 0) = some (bo b (b + o2) (b + o1) dr) := (hs5 _ (by omega)).trans hx4
    refine y_run kX6_draw rfl ?_
    refine m_get kX6_draw (0) hI hx5 ?_
    refine y_run kX6_draw rfl ?_
    refine YW.nr1 ?_
    refine m_put kX6_draw 0 hI hx5 (fun h hI => ?_)
    generalize hg6 : yup g5 (b + 0) (bo b (b + o2) (b + o1) (nrm (dr + 1))) = g6
    replace hI : MI b g6 h := by rw [← hg6]; exact hI
    have hx6 : g6 (b + 0) = some (bo b (b + o2) (b + o1) (nrm (dr + 1))) := by rw [← hg6]; exact yup_eq _ _ _
    have h62 : ∀ q, q ≠ b → q ≠ b + 8 → g6 q = g2 q := fun q hq hq8 => by rw [← hg6, yup_ne _ _ (by omega), hs5 _ hq8, h42 _ hq]
    have hf6 : PF b o2 g6 S a c x := hf.on (fun q q1 q2 => h62 q (by omega) (by omega))
    obtain ⟨_, hp6, hr6⟩ := id hf6
    refine y_run kX6_draw rfl ?_
    refine m_get kX6_draw (0) hI hx6 ?_
    refine m_get kX6_draw (o2) hI hp6 ?_ (t0 ho2)
    have hPo2 : PJ b o2 g6 := PIv.pj hf6 hv
    have hPo1 : PJ b o1 g6 := hP1.on (fun q q1 q2 => (h62 q (by omega) (by omega)).trans (hs q (by omega) (by omega)))
    refine y_ir kX6_draw rfl rfl ⟨g6, _, rfl, fun q a1 a2 a3 a4 a5 a6 => (h62 q a1 a2).trans (hs q (by omega) (by omega)), ⟨⟨o2, o1, nrm (dr + 1), by omega, hx6, (nrm_rng _).1, (nrm_rng _).2⟩, ?_, ?_, ⟨c1', c2', pw', la', hq5.1, hq5.2.1, ?_⟩, ?_⟩, hI, rfl⟩
    · rcases ho12 with ⟨rfl, rfl⟩ | ⟨rfl, rfl⟩ <;> assumption
    · rcases ho12 with ⟨rfl, rfl⟩ | ⟨rfl, rfl⟩ <;> assumption
    · rw [← hg6, yup_ne _ _ (by omega)]; exact hq5.2.2
    · exact (hsc.sp ho2 hs).on (fun q q1 q2 => h62 q (by omega) (by omega))
  · refine y_run kX6_draw rfl ?_
    exact y_ir kX6_draw rfl rfl ⟨g2, _, rfl, hs.sb ho2, hc.sp ho2 hs (PIv.pj hf hv), hI, rfl⟩
end C86
end
section
/-! THE CLAIM OUT OF ONE WALK OF THE LAW'S BODY (the skeleton's words); then the layer's entry -/
def R_law : String := "BoxStageLaw"
def lw_P (b : Addr) (xs : List Int32) (args : Array Value) (s : State) : Prop := args = #[.ref b] ∧ s.IntsAt b xs ∧ xs.length ≤ 4096 ∧ (Jvm.Cond.and given_1 narrow_1).before args s = true
def lw_Q (_ : Array Value) (s : State) (o : Outcome) (t : State) : Prop := o = .returned (some (.int 1)) ∧ Framed s o t [] 600000 7302250
def lw_Z (below : List Frame) (a : Array Value) (s : State) : State → Prop := fun t => ∃ o, t.status = .running ∧ Ended t below o ∧ lw_Q a s o t
/-- the law's own end, with 1 on the stack, nothing written that was there before, its room as the claim has it -/
theorem lw_ret {p : Program} {l : Launch} {e : Env} {s : State} {m : MethodId} {below : List Frame} {meth : Method} {c : Code} {b : Nat} (hx : p.tables.exec = Jvm.exec) (hb : c.code = code) (hr : meth.sig.returnType = ret) (hlocks : meth.locks = false) {pc : Nat} {H : Heap} {ls : Array Slot} (hdg : decode code pc = .ok (.ireturn, 1)) : W p l e room_1 s m #[Value.ref b] below meth c H [] 600000 7302250 (lw_Z below #[Value.ref b] s) (F0 m pc ls [.int 1]) := by
  intro T hT X
  obtain ⟨fs, hret, hrun, hended, hW, hframe⟩ := X.leave (v := some (.int 1)) (hlocks := hlocks) (fun h => by rw [hr] at h; cases h)
  have hmeth' : T.vm.method? m = some meth := X.method'
  refine ⟨T.setFrames fs, ?_, .returned (some (.int 1)), hrun, hended, rfl, ⟨_, rfl⟩, hW, hframe⟩
  jvm_step X.here [X.here.top, hx, hb, hdg, hmeth', hr, ret, narrow_b1]
  (try refine ⟨rfl, ?_⟩); (try refine ⟨rfl, ?_⟩)
  first | (intro acts; rw [hret _ acts rfl rfl rfl]) | rw [hret _ _ rfl rfl rfl]
  exact Steps.refl _
/-- what holds at the law's entry: the machine, the code, the tables' words (any of lw_tbl by 'hts w (by decide +kernel)'), the script of L ints xs at the cell b, what the Statement gives of the start (any of its parts by flat_of_before) -/
def lw_At (p : Program) (s : State) (m : MethodId) (meth : Method) (c : Code) (b L : Nat) (xs : Nat → Int32) : Prop :=
  p.tables.exec = Jvm.exec ∧ c.code = code ∧ meth.sig.returnType = ret ∧ c.maxLocals = 4 ∧ s.vm.findClass R_law = some m.cls ∧ (∀ w ∈ lw_tbl, w.before #[Value.ref b] s = true) ∧ va_X b L xs s s.heap ∧ b < s.heap.size ∧ meth.locks = false ∧ (Jvm.Cond.and given_1 narrow_1).before #[Value.ref b] s = true
theorem xG_cls {args : Array Value} {s : State} (hts : ∀ w ∈ xws, w.before args s = true) : ∃ D : va_G, ∀ (c : Nat) (q : vw_C), vwCl[c]? = some q → u_Kn s q.1 q.2.1 q.2.2 (D.1 c) (D.2 c) := by
  have h : ∀ c : Nat, ∃ (cC : ClassId) (iS : Nat → Nat), ∀ q : vw_C, vwCl[c]? = some q → u_Kn s q.1 q.2.1 q.2.2 cC iS := by
    intro c
    cases hc : vwCl[c]? with
    | none => exact ⟨0, fun _ => 0, fun q hq => by cases hq⟩
    | some q =>
      obtain ⟨C, T, N⟩ := q
      obtain ⟨cC, iS, hk⟩ := u_known hts (xcl_in hc) (hts _ (xcl_new hc).1)
      exact ⟨cC, iS, fun q hq => by cases hq; exact hk⟩
  exact ⟨(fun c => Classical.choose (h c), fun c => Classical.choose (Classical.choose_spec (h c))), fun c q hq => Classical.choose_spec (Classical.choose_spec (h c)) q hq⟩
theorem xG_arr {args : Array Value} {s : State} (hts : ∀ w ∈ lw_tbl, w.before args s = true) : ∃ f : Nat → ClassId, ∀ (k : Nat) (ty : FieldType), xTys[k]? = some ty → ArrOfT s (f k) ty ∧ va_RA s (f k) ty := by
  have h : ∀ k : Nat, ∃ c : ClassId, ∀ ty : FieldType, xTys[k]? = some ty → ArrOfT s c ty ∧ va_RA s c ty := by
    intro k
    match k with
    | 0 =>
      obtain ⟨c, k, comp, h1, h2, h3⟩ := Cond.arrayClass_spec (hts (.arrayClass .int) (by decide +kernel))
      exact ⟨c, fun ty e => by cases e; exact ⟨fun N z => ⟨(fun k h => by cases h), k, h2, comp, h3⟩, h1⟩⟩
    | 1 =>
      obtain ⟨c, k, comp, h1, h2, h3⟩ := Cond.arrayClass_spec (hts (.arrayClass .boolean) (by decide +kernel))
      exact ⟨c, fun ty e => by cases e; exact ⟨fun N z => ⟨(fun k h => by cases h), k, h2, comp, h3⟩, h1⟩⟩
    | 2 =>
      obtain ⟨comp, c, k, g1, g2, g3, g4, g5⟩ := Cond.arrayOver_spec (hts (.arrayOver (.object "BoxStage$Scene")) (by decide +kernel))
      exact ⟨c, fun ty e => by cases e; exact ⟨fun N z => ⟨(fun k h => by cases h), k, g3, comp, g4⟩, ⟨k, comp, g3, g4, g1, g5⟩⟩⟩
    | 3 =>
      obtain ⟨comp, c, k, g1, g2, g3, g4, g5⟩ := Cond.arrayOver_spec (hts (.arrayOver (.object "BoxStage$Numbers")) (by decide +kernel))
      exact ⟨c, fun ty e => by cases e; exact ⟨fun N z => ⟨(fun k h => by cases h), k, g3, comp, g4⟩, ⟨k, comp, g3, g4, g1, g5⟩⟩⟩
    | k + 4 => exact ⟨0, fun ty e => by simp [xTys] at e⟩
  exact ⟨fun k => Classical.choose (h k), fun k ty e => Classical.choose_spec (h k) ty e⟩
theorem xTl_of {G : xG} {k : Nat} {q : ClassId × FieldType} (h : (xTl G)[k]? = some q) : xTys[k]? = some q.2 ∧ q.1 = G.2.1 k := by
  unfold xTl at h
  rw [List.getElem?_map, List.getElem?_zipIdx] at h
  cases hk : xTys[k]? with
  | none => rw [hk] at h; cases h
  | some ty =>
    rw [hk] at h
    simp at h
    rw [← h]
    exact ⟨rfl, rfl⟩
theorem xK_of {args : Array Value} {s : State} (hts : ∀ w ∈ lw_tbl, w.before args s = true) : ∃ G : xG, xK G s := by
  obtain ⟨D, hD⟩ := xG_cls (args := args) (s := s) (fun w hw => hts w (List.mem_filter.mp hw).1)
  obtain ⟨f, hf⟩ := xG_arr hts
  refine ⟨(D, f, fun _ _ => True), ⟨hD, fun k q hq => ?_⟩, fun q hq => ?_, fun C hC => ?_⟩
  · obtain ⟨h1, h2⟩ := xTl_of hq
    have := hf k q.2 h1
    rw [h2]
    exact this
  · have hm : Cond.methodLinkNest q.1 q.2.1 q.2.2.1 q.2.2.2 ∈ lw_tbl := by
      have : ∀ q ∈ xNest, Cond.methodLinkNest q.1 q.2.1 q.2.2.1 q.2.2.2 ∈ lw_tbl := by decide +kernel
      exact this q hq
    exact va_Nw.of rfl (hts _ hm)
  · have hm : Cond.arrayOver (.object C) ∈ lw_tbl := by
      have : ∀ C ∈ xOver, Cond.arrayOver (.object C) ∈ lw_tbl := by decide +kernel
      exact this C hC
    exact va_AO.of (hts _ hm)
set_option maxHeartbeats 1000000 in
/-- from a walk of the law over the layer to the claim's start -/
theorem law_entry {p : Program} {e : Env} {s : State} {m : MethodId} {below : List Frame} {meth : Method} {c : Code} (l : Launch) {b L : Nat} {xs : Nat → Int32} (C0 : lw_At p s m meth c b L xs)
    (k : ∀ (G : xG) (n : Nat), YW l (gS G b L xs) mL_law 9 600000 7302250 (fun v _ _ => v = some (vi 1)) 0 [some (vr b), none, none, none] [] (fun _ => none) n) : W p l e room_1 s m #[Value.ref b] below meth c s.heap [] 0 0 (lw_Z below #[Value.ref b] s) (entryFrame m ([Value.ref b] : List Value).toArray 4) := by
  obtain ⟨hx, hb, hr, hml, hown, hts, hX, hbl, hlocks, hgv⟩ := C0
  have hws : ∀ w ∈ xws, w.before #[Value.ref b] s = true := fun w hw => hts w (List.mem_filter.mp hw).1
  obtain ⟨G, hK⟩ := xK_of hts
  have hl := lv_entry ([Value.ref b]) (n := 4) (Nat.le_of_ble_eq_true rfl)
  rw [lg_entry_eq]
  have K := k G s.heap.size p e room_1 s m #[Value.ref b] below meth c s.heap [] 0 0 _ (fun q => s.heap.size ≤ q) ⟨hx, hb, hml, hown, hws, hr, hlocks, fun e => absurd e (by decide +kernel), hK⟩ ⟨rfl, fun a e h => by have h' : (none : Option xE) = some e := h; cases h'⟩ va_S.rf (fun a e h => by have h' : (none : Option xE) = some e := h; cases h') ⟨fun q h => h, hX, hbl, Nat.not_le.mpr hbl⟩ (Nat.le_refl 9) (Nat.le_of_ble_eq_true rfl) (Nat.le_of_ble_eq_true rfl) (Nat.le_of_ble_eq_true rfl) ⟨hl.1, hl.2.1, fun i v hi => hl.2.2 (i, v) (xent_at (nL := 4) hi)⟩
  intro T hT X
  obtain ⟨t, st, o, h1, h2, ⟨v, h', n', ho, ⟨u, g, hv, -, hΦ⟩, -⟩, Lc, ⟨-, hW, hsame⟩, hfree⟩ := K T hT X
  subst hΦ
  subst hv
  refine ⟨t, st, o, h1, h2, ho, ⟨_, ho⟩, hW, ?_⟩
  exact State.sameButNew.drop_fresh (L := []) (J := Lc) hsame hfree
end
section
/-! THE CONSTRUCTORS: what a new object of each class holds; the cells that it makes follow its own -/
def nw0 : List xV := [vl 0, vl 0]
theorem nw0_ok : ∀ j, j < 2 → defaultValue (xty 0 j) = vp_V (nw0.map den) j
  | 0, _ => rfl
  | 1, _ => rfl
  | j + 2, hj => absurd hj (by omega)
def nw1 : List xV := [vi 0, vi 0, vi 0, vi 0, vi 0, vi 0]
theorem nw1_ok : ∀ j, j < 6 → defaultValue (xty 1 j) = vp_V (nw1.map den) j
  | 0, _ => rfl
  | 1, _ => rfl
  | 2, _ => rfl
  | 3, _ => rfl
  | 4, _ => rfl
  | 5, _ => rfl
  | j + 6, hj => absurd hj (by omega)
def nw2 : List xV := [vn, vn, vn, vn, vi 0, vi 0, vn, vn]
theorem nw2_ok : ∀ j, j < 8 → defaultValue (xty 2 j) = vp_V (nw2.map den) j
  | 0, _ => rfl
  | 1, _ => rfl
  | 2, _ => rfl
  | 3, _ => rfl
  | 4, _ => rfl
  | 5, _ => rfl
  | 6, _ => rfl
  | 7, _ => rfl
  | j + 8, hj => absurd hj (by omega)
def nw3 : List xV := [vn, vn, vn, vi 0, vi 0, vi 0, vn, vn, vn, vn, vn, vn]
theorem nw3_ok : ∀ j, j < 12 → defaultValue (xty 3 j) = vp_V (nw3.map den) j
  | 0, _ => rfl
  | 1, _ => rfl
  | 2, _ => rfl
  | 3, _ => rfl
  | 4, _ => rfl
  | 5, _ => rfl
  | 6, _ => rfl
  | 7, _ => rfl
  | 8, _ => rfl
  | 9, _ => rfl
  | 10, _ => rfl
  | 11, _ => rfl
  | j + 12, hj => absurd hj (by omega)
def nw4 : List xV := [vi 0, vi 0, vi 0, vi 0]
theorem nw4_ok : ∀ j, j < 4 → defaultValue (xty 4 j) = vp_V (nw4.map den) j
  | 0, _ => rfl
  | 1, _ => rfl
  | 2, _ => rfl
  | 3, _ => rfl
  | j + 4, hj => absurd hj (by omega)
def nw5 : List xV := [vi 0, vn, vn, vn, vn]
theorem nw5_ok : ∀ j, j < 5 → defaultValue (xty 5 j) = vp_V (nw5.map den) j
  | 0, _ => rfl
  | 1, _ => rfl
  | 2, _ => rfl
  | 3, _ => rfl
  | 4, _ => rfl
  | j + 5, hj => absurd hj (by omega)
def nw6 : List xV := [vn, vn, vn, vn, vn, vn, vn, vn, vn, vn, vn, vi 0]
theorem nw6_ok : ∀ j, j < 12 → defaultValue (xty 6 j) = vp_V (nw6.map den) j
  | 0, _ => rfl
  | 1, _ => rfl
  | 2, _ => rfl
  | 3, _ => rfl
  | 4, _ => rfl
  | 5, _ => rfl
  | 6, _ => rfl
  | 7, _ => rfl
  | 8, _ => rfl
  | 9, _ => rfl
  | 10, _ => rfl
  | 11, _ => rfl
  | j + 12, hj => absurd hj (by omega)
def nw7 : List xV := [vn, vn, vn, vn, vn, vn, vn, vn, vn, vn, vi 0, vi 0, vi 0, vi 0, vi 0, vi 0, vn, vn, vn, vn, vn, vi 0]
theorem nw7_ok : ∀ j, j < 22 → defaultValue (xty 7 j) = vp_V (nw7.map den) j
  | 0, _ => rfl
  | 1, _ => rfl
  | 2, _ => rfl
  | 3, _ => rfl
  | 4, _ => rfl
  | 5, _ => rfl
  | 6, _ => rfl
  | 7, _ => rfl
  | 8, _ => rfl
  | 9, _ => rfl
  | 10, _ => rfl
  | 11, _ => rfl
  | 12, _ => rfl
  | 13, _ => rfl
  | 14, _ => rfl
  | 15, _ => rfl
  | 16, _ => rfl
  | 17, _ => rfl
  | 18, _ => rfl
  | 19, _ => rfl
  | 20, _ => rfl
  | 21, _ => rfl
  | j + 22, hj => absurd hj (by omega)
section C71
variable {l : Launch} {G : xG} {h : yH} {n : Nat}
theorem n_Ninit {a : Nat} : YM l G mX0_init 1 0 0 [vr a] h n (fun r h' n' => r = none ∧ h' = h ∧ n' = n) := by
  refine YM.of kX0_init (Nat.le_of_ble_eq_true rfl) (L0 := [some (vr a)]) rfl ?_
  refine y_run kX0_init rfl ?_
  refine y_ob kX0_init rfl (by decide +kernel) ?_
  exact y_vr kX0_init rfl rfl ⟨rfl, rfl, rfl⟩
theorem n_Oinit {a : Nat} : YM l G mX1_init 1 0 0 [vr a] h n (fun r h' n' => r = none ∧ h' = h ∧ n' = n) := by
  refine YM.of kX1_init (Nat.le_of_ble_eq_true rfl) (L0 := [some (vr a)]) rfl ?_
  refine y_run kX1_init rfl ?_
  refine y_ob kX1_init rfl (by decide +kernel) ?_
  exact y_vr kX1_init rfl rfl ⟨rfl, rfl, rfl⟩
theorem n_Rinit {a : Nat} : YM l G mX4_init 1 0 0 [vr a] h n (fun r h' n' => r = none ∧ h' = h ∧ n' = n) := by
  refine YM.of kX4_init (Nat.le_of_ble_eq_true rfl) (L0 := [some (vr a)]) rfl ?_
  refine y_run kX4_init rfl ?_
  refine y_ob kX4_init rfl (by decide +kernel) ?_
  exact y_vr kX4_init rfl rfl ⟨rfl, rfl, rfl⟩
set_option maxHeartbeats 2000000 in
theorem c_Sinit {a : Nat} (ha : h a = some (ob 5 nw5)) (hn : n = a + 1) : YM l G mX5_init 1 4 310 [vr a] h n (fun r h' n' => r = none ∧ SC h' a 0 (fun _ => 0) (fun _ => 0) (flF (fun _ => 0) 21845 64) (fun _ => 0) ∧ (∀ q, q < a → h' q = h q) ∧ n' = a + 5) := by
  subst hn
  refine YM.of kX5_init (Nat.le_of_ble_eq_true rfl) (L0 := [some (vr a)]) rfl ?_
  refine y_run kX5_init rfl ?_
  refine y_ob kX5_init rfl (by decide +kernel) ?_
  refine y_run kX5_init rfl ?_
  refine y_put kX5_init rfl rfl ha rfl rfl rfl ?_
  refine y_run kX5_init rfl ?_
  refine y_newi kX5_init rfl (by decide +kernel) (N := 144) rfl (by omega) ?_
  refine y_putF kX5_init rfl rfl (by repeat (first | exact yup_eq _ _ _ | rw [yup_ne _ _ (by omega)])) rfl rfl rfl rfl rfl ?_
  refine y_run kX5_init rfl ?_
  refine y_newi kX5_init rfl (by decide +kernel) (N := 96) rfl (by omega) ?_
  refine y_putF kX5_init rfl rfl (by repeat (first | exact yup_eq _ _ _ | rw [yup_ne _ _ (by omega)])) rfl rfl rfl rfl rfl ?_
  refine y_run kX5_init rfl ?_
  refine y_newi kX5_init rfl (by decide +kernel) (N := 64) rfl (by omega) ?_
  refine y_putF kX5_init rfl rfl (by repeat (first | exact yup_eq _ _ _ | rw [yup_ne _ _ (by omega)])) rfl rfl rfl rfl rfl ?_
  refine y_run kX5_init rfl ?_
  refine y_newi kX5_init rfl (by decide +kernel) (N := 6) rfl (by omega) ?_
  refine y_putF kX5_init rfl rfl (by repeat (first | exact yup_eq _ _ _ | rw [yup_ne _ _ (by omega)])) rfl rfl rfl rfl rfl ?_
  refine y_run kX5_init rfl ?_
  refine y_get kX5_init rfl rfl (by repeat (first | exact yup_eq _ _ _ | rw [yup_ne _ _ (by omega)])) rfl ?_
  refine y_run kX5_init rfl ?_
  refine y_cs kX5_init kJ7_fill_53178 2 rfl (by decide +kernel) (c_fill (a := a + 3) (N := 64) (F := fun _ => 0) (v := 21845) (by repeat (first | exact yup_eq _ _ _ | rw [yup_ne _ _ (by omega)])) (by omega)) rfl rfl ?_
  rintro _ _ _ ⟨rfl, rfl, rfl⟩
  refine y_vr kX5_init rfl rfl ⟨rfl, ⟨(by repeat (first | exact yup_eq _ _ _ | rw [yup_ne _ _ (by omega)])), (by repeat (first | exact yup_eq _ _ _ | rw [yup_ne _ _ (by omega)])), (by repeat (first | exact yup_eq _ _ _ | rw [yup_ne _ _ (by omega)])), (by repeat (first | exact yup_eq _ _ _ | rw [yup_ne _ _ (by omega)])), (by repeat (first | exact yup_eq _ _ _ | rw [yup_ne _ _ (by omega)]))⟩, fun q hq => ?_, rfl⟩
  repeat rw [yup_ne _ _ (by omega)]
end C71
end
section
section C72
variable {l : Launch} {G : xG} {M : xM} {d kc ks : Nat} {Φ : Option xV → yH → Nat → Prop} {h : yH} {n : Nat} {pc : Nat} {L : List (Option xV)} {st : List xV}
theorem YW.ke {kc' ks' n' : Nat} (e1 : kc = kc') (e2 : ks = ks') (e3 : n = n') (k : YW l G M d kc' ks' Φ pc L st h n') : YW l G M d kc ks Φ pc L st h n := by subst e1 e2 e3; exact k
def QI (h : yH) (a : Nat) : Prop := h a = some (ob 2 [vr (a + 1), vr (a + 2), vr (a + 3), vr (a + 4), vi 0, vi 0, vr (a + 5), vr (a + 6)]) ∧ h (a + 1) = some (ai 8192 (fun _ => 0)) ∧ h (a + 2) = some (ai 8192 (fun _ => 0)) ∧ h (a + 3) = some (ai 24 (fun _ => 0)) ∧ (∃ D, h (a + 4) = some (ai 5 D) ∧ ∀ j, 0 ≤ D j ∧ D j ≤ 100) ∧ h (a + 5) = some (ob 4 nw4) ∧ h (a + 6) = some (ob 1 nw1)
theorem QI.on {a : Nat} {h' : yH} (q : QI h a) (e : ∀ k, k < 7 → h' (a + k) = h (a + k)) : QI h' a := by
  obtain ⟨q0, q1, q2, q3, ⟨D, q4, q5⟩, q6, q7⟩ := q
  exact ⟨(e 0 (by omega)).trans q0, (e 1 (by omega)).trans q1, (e 2 (by omega)).trans q2, (e 3 (by omega)).trans q3, ⟨D, (e 4 (by omega)).trans q4, q5⟩, (e 5 (by omega)).trans q6, (e 6 (by omega)).trans q7⟩
set_option maxHeartbeats 4000000 in
theorem c_Qinit {a : Nat} (ha : h a = some (ob 2 nw2)) (hn : n = a + 1) : YM l G mX2_init 2 6 16423 [vr a] h n (fun r h' n' => r = none ∧ QI h' a ∧ (∀ q, q < a → h' q = h q) ∧ n' = a + 7) := by
  subst hn
  refine YM.of kX2_init (Nat.le_of_ble_eq_true rfl) (L0 := [some (vr a)]) rfl ?_
  refine y_run kX2_init rfl ?_
  refine y_ob kX2_init rfl (by decide +kernel) ?_
  refine y_run kX2_init rfl ?_
  refine y_newi kX2_init rfl (by decide +kernel) (N := 8192) rfl (by omega) ?_
  refine y_put kX2_init rfl rfl ((yup_ne _ _ (by omega)).trans ha) rfl rfl rfl ?_
  refine y_run kX2_init rfl ?_
  refine y_newi kX2_init rfl (by decide +kernel) (N := 8192) rfl (by omega) ?_
  refine y_put kX2_init rfl rfl (by repeat (first | exact yup_eq _ _ _ | rw [yup_ne _ _ (by omega)])) rfl rfl rfl ?_
  refine y_run kX2_init rfl ?_
  refine y_newi kX2_init rfl (by decide +kernel) (N := 24) rfl (by omega) ?_
  refine y_putF kX2_init rfl rfl (by repeat (first | exact yup_eq _ _ _ | rw [yup_ne _ _ (by omega)])) rfl rfl rfl rfl rfl ?_
  refine y_run kX2_init rfl ?_
  refine y_newi kX2_init rfl (by decide +kernel) (N := 5) rfl (by omega) ?_
  refine y_run kX2_init rfl ?_
  refine y_is kX2_init rfl (by repeat (first | exact yup_eq _ _ _ | rw [yup_ne _ _ (by omega)])) (by omega) (by omega) ?_
  refine y_run kX2_init rfl ?_
  refine y_is kX2_init rfl (by repeat (first | exact yup_eq _ _ _ | rw [yup_ne _ _ (by omega)])) (by omega) (by omega) ?_
  refine y_run kX2_init rfl ?_
  refine y_is kX2_init rfl (by repeat (first | exact yup_eq _ _ _ | rw [yup_ne _ _ (by omega)])) (by omega) (by omega) ?_
  refine y_run kX2_init rfl ?_
  refine y_is kX2_init rfl (by repeat (first | exact yup_eq _ _ _ | rw [yup_ne _ _ (by omega)])) (by omega) (by omega) ?_
  refine y_run kX2_init rfl ?_
  refine y_is kX2_init rfl (by repeat (first | exact yup_eq _ _ _ | rw [yup_ne _ _ (by omega)])) (by omega) (by omega) ?_
  refine y_putF kX2_init rfl rfl (by repeat (first | exact yup_eq _ _ _ | rw [yup_ne _ _ (by omega)])) rfl rfl rfl rfl rfl ?_
  refine y_run kX2_init rfl ?_
  refine y_put kX2_init rfl rfl (by repeat (first | exact yup_eq _ _ _ | rw [yup_ne _ _ (by omega)])) rfl rfl rfl ?_
  refine y_run kX2_init rfl ?_
  refine y_put kX2_init rfl rfl (by repeat (first | exact yup_eq _ _ _ | rw [yup_ne _ _ (by omega)])) rfl rfl rfl ?_
  refine y_run kX2_init rfl ?_
  refine y_new kX2_init (ci := 4) rfl rfl (by decide +kernel) nw4_ok ?_
  refine y_run kX2_init rfl ?_
  refine y_ci kX2_init kX4_init 0 rfl (by decide +kernel) (n_Rinit (a := a + 5)) rfl rfl ?_
  rintro _ _ _ ⟨rfl, rfl, rfl⟩
  refine y_putF kX2_init rfl rfl (by repeat (first | exact yup_eq _ _ _ | rw [yup_ne _ _ (by omega)])) rfl rfl rfl rfl rfl ?_
  refine y_run kX2_init rfl ?_
  refine y_new kX2_init (ci := 1) rfl rfl (by decide +kernel) nw1_ok ?_
  refine y_run kX2_init rfl ?_
  refine y_ci kX2_init kX1_init 0 rfl (by decide +kernel) (n_Oinit (a := a + 6)) rfl rfl ?_
  rintro _ _ _ ⟨rfl, rfl, rfl⟩
  refine y_putF kX2_init rfl rfl (by repeat (first | exact yup_eq _ _ _ | rw [yup_ne _ _ (by omega)])) rfl rfl rfl rfl rfl ?_
  refine y_vr kX2_init rfl rfl ⟨rfl, ⟨(by repeat (first | exact yup_eq _ _ _ | rw [yup_ne _ _ (by omega)])), (by repeat (first | exact yup_eq _ _ _ | rw [yup_ne _ _ (by omega)])), (by repeat (first | exact yup_eq _ _ _ | rw [yup_ne _ _ (by omega)])), (by repeat (first | exact yup_eq _ _ _ | rw [yup_ne _ _ (by omega)])), ⟨_, (by repeat (first | exact yup_eq _ _ _ | rw [yup_ne _ _ (by omega)])), fun j => ?_⟩, (by repeat (first | exact yup_eq _ _ _ | rw [yup_ne _ _ (by omega)])), (by repeat (first | exact yup_eq _ _ _ | rw [yup_ne _ _ (by omega)]))⟩, fun q hq => ?_, rfl⟩
  · unfold upZ
    repeat' split
    all_goals (first | omega | (dsimp only; omega))
  · repeat rw [yup_ne _ _ (by omega)]
def PI0 (a : Nat) : yE := ob 3 [vr (a + 1), vr (a + 2), vr (a + 3), vi 0, vi 0, vi 24, vr (a + 4), vr (a + 5), vr (a + 6), vr (a + 7), vr (a + 8), vr (a + 9)]
/-- what its loop has made so far -/
def PIn (h : yH) (a i : Nat) : Prop := h a = some (PI0 a) ∧ (∃ F, h (a + 5) = some (aq 3 120 F) ∧ ∀ k, k < i → F k = some (a + (10 + 2 * k))) ∧ (∃ F, h (a + 6) = some (aq 3 120 F) ∧ ∀ k, k < i → F k = some (a + (11 + 2 * k))) ∧ ∀ k, 10 ≤ k → k < 10 + 2 * i → h (a + k) = some (ob 0 nw0)
set_option maxHeartbeats 2000000 in
theorem s_Pinit {a : Nat} : ∀ (m : Nat) (i : Nat) (h : yH), 120 - i < m → i ≤ 120 → PIn h a i → (∀ h', PIn h' a 120 → (∀ q, q < a + 10 → q ≠ a + 5 → q ≠ a + 6 → h' q = h q) → Φ none h' (a + 250)) → YW l G mX3_init 2 (240 - 2 * i) (480 - 4 * i) Φ 109 [some (vr a), some (vi (i : Int))] [] h (a + (10 + 2 * i)) := by
  intro m
  induction m with
  | zero => intro i h h1; exact absurd h1 (by omega)
  | succ m ih =>
    intro i h h1 h2 hP kk
    obtain ⟨p0, ⟨F1, p1, p2⟩, ⟨F2, p3, p4⟩, p5⟩ := hP
    refine y_run kX3_init rfl ?_
    refine y_ic_ge kX3_init rfl rfl (fun c => ?_) (fun c => ?_)
    · have hi : i = 120 := by omega
      subst hi
      exact y_vr kX3_init rfl rfl (kk h ⟨p0, ⟨F1, p1, p2⟩, ⟨F2, p3, p4⟩, p5⟩ (fun q _ _ _ => rfl))
    · refine y_run kX3_init rfl ?_
      refine y_get kX3_init rfl rfl p0 rfl ?_
      refine y_run kX3_init rfl ?_
      refine y_new kX3_init (ci := 0) rfl rfl (by decide +kernel) nw0_ok ?_
      refine y_run kX3_init rfl ?_
      refine y_ci kX3_init kX0_init 0 rfl (by decide +kernel) (n_Ninit (a := a + (10 + 2 * i))) rfl rfl ?_
      rintro _ _ _ ⟨rfl, rfl, rfl⟩
      refine y_qs kX3_init rfl ((yup_ne _ _ (by omega)).trans p1) (yup_eq _ _ _) rfl rfl (by omega) (by omega) ?_
      refine y_run kX3_init rfl ?_
      refine y_get kX3_init rfl rfl ((yup_ne _ _ (by omega)).trans ((yup_ne _ _ (by omega)).trans p0)) rfl ?_
      refine y_run kX3_init rfl ?_
      refine y_new kX3_init (ci := 0) rfl rfl (by decide +kernel) nw0_ok ?_
      refine y_run kX3_init rfl ?_
      refine y_ci kX3_init kX0_init 0 rfl (by decide +kernel) (n_Ninit (a := a + (10 + 2 * i) + 1)) rfl rfl ?_
      rintro _ _ _ ⟨rfl, rfl, rfl⟩
      refine y_qs kX3_init rfl ((yup_ne _ _ (by omega)).trans ((yup_ne _ _ (by omega)).trans ((yup_ne _ _ (by omega)).trans p3))) (yup_eq _ _ _) rfl rfl (by omega) (by omega) ?_
      refine y_run kX3_init rfl ?_
      refine YW.ke (kc' := 240 - 2 * (i + 1)) (ks' := 480 - 4 * (i + 1)) (n' := a + (10 + 2 * (i + 1))) (by omega) (by omega) (by omega) ?_
      refine YW.Le (L' := [some (vr a), some (vi ((i + 1 : Nat) : Int))]) (congrArg (fun z : Int => [some (vr a), some (vi z)]) (show (i : Int) + 1 = ((i + 1 : Nat) : Int) by omega)) ?_
      refine ih (i + 1) _ (by omega) (by omega) ⟨?_, ⟨va_up F1 (i : Int).toNat (some (a + (10 + 2 * i))), ?_, fun k hk => ?_⟩, ⟨va_up F2 (i : Int).toNat (some (a + (10 + 2 * i) + 1)), ?_, fun k hk => ?_⟩, fun k k1 k2 => ?_⟩ (fun h' hP' hf => kk h' hP' (fun q q1 q2 q3 => ?_))
      · rw [yup_ne _ _ (by omega), yup_ne _ _ (by omega), yup_ne _ _ (by omega), yup_ne _ _ (by omega)]; exact p0
      · rw [yup_ne _ _ (by omega), yup_ne _ _ (by omega)]; exact yup_eq _ _ _
      · unfold va_up
        by_cases c : k = i
        · subst c; simp
        · rw [if_neg (by omega)]; exact p2 k (by omega)
      · exact yup_eq _ _ _
      · unfold va_up
        by_cases c : k = i
        · subst c; simp; omega
        · rw [if_neg (by omega)]; exact p4 k (by omega)
      · rw [yup_ne _ _ (by omega)]
        by_cases c1 : k = 11 + 2 * i
        · subst c1
          rw [show a + (11 + 2 * i) = a + (10 + 2 * i) + 1 by omega]
          exact yup_eq _ _ _
        · rw [yup_ne _ _ (by omega), yup_ne _ _ (by omega)]
          by_cases c2 : k = 10 + 2 * i
          · subst c2; exact yup_eq _ _ _
          · rw [yup_ne _ _ (by omega)]; exact p5 k k1 (by omega)
      · rw [hf q q1 q2 q3, yup_ne _ _ (by omega), yup_ne _ _ (by omega), yup_ne _ _ (by omega), yup_ne _ _ (by omega)]
def PI (h : yH) (a : Nat) : Prop := PIn h a 120 ∧ h (a + 1) = some (ai 720 (fun _ => 0)) ∧ h (a + 2) = some (ai 120 (fun _ => 0)) ∧ h (a + 3) = some (ai 96 (fun _ => 0)) ∧ h (a + 4) = some (ob 0 nw0) ∧ h (a + 7) = some (ob 0 nw0) ∧ h (a + 8) = some (ob 0 nw0) ∧ h (a + 9) = some (ob 0 nw0)
theorem PI.on {a : Nat} {h' : yH} (q : PI h a) (e : ∀ k, k < 250 → h' (a + k) = h (a + k)) : PI h' a := by
  obtain ⟨⟨q0, ⟨F1, q1, q2⟩, ⟨F2, q3, q4⟩, q5⟩, r1, r2, r3, r4, r7, r8, r9⟩ := q
  exact ⟨⟨(e 0 (by omega)).trans q0, ⟨F1, (e 5 (by omega)).trans q1, q2⟩, ⟨F2, (e 6 (by omega)).trans q3, q4⟩, fun k k1 k2 => (e k (by omega)).trans (q5 k k1 k2)⟩, (e 1 (by omega)).trans r1, (e 2 (by omega)).trans r2, (e 3 (by omega)).trans r3, (e 4 (by omega)).trans r4, (e 7 (by omega)).trans r7, (e 8 (by omega)).trans r8, (e 9 (by omega)).trans r9⟩
set_option maxHeartbeats 4000000 in
theorem c_Pinit {a : Nat} (ha : h a = some (ob 3 nw3)) (hn : n = a + 1) : YM l G mX3_init 2 249 1664 [vr a] h n (fun r h' n' => r = none ∧ PI h' a ∧ (∀ q, q < a → h' q = h q) ∧ n' = a + 250) := by
  subst hn
  refine YM.of kX3_init (Nat.le_of_ble_eq_true rfl) (L0 := [some (vr a), none]) rfl ?_
  refine y_run kX3_init rfl ?_
  refine y_ob kX3_init rfl (by decide +kernel) ?_
  refine y_run kX3_init rfl ?_
  refine y_newi kX3_init rfl (by decide +kernel) (N := 720) rfl (by omega) ?_
  refine y_putF kX3_init rfl rfl ((yup_ne _ _ (by omega)).trans ha) rfl rfl rfl rfl rfl ?_
  refine y_run kX3_init rfl ?_
  refine y_newi kX3_init rfl (by decide +kernel) (N := 120) rfl (by omega) ?_
  refine y_putF kX3_init rfl rfl (by repeat (first | exact yup_eq _ _ _ | rw [yup_ne _ _ (by omega)])) rfl rfl rfl rfl rfl ?_
  refine y_run kX3_init rfl ?_
  refine y_newi kX3_init rfl (by decide +kernel) (N := 96) rfl (by omega) ?_
  refine y_putF kX3_init rfl rfl (by repeat (first | exact yup_eq _ _ _ | rw [yup_ne _ _ (by omega)])) rfl rfl rfl rfl rfl ?_
  refine y_run kX3_init rfl ?_
  refine y_put kX3_init rfl rfl (by repeat (first | exact yup_eq _ _ _ | rw [yup_ne _ _ (by omega)])) rfl rfl rfl ?_
  refine y_run kX3_init rfl ?_
  refine y_put kX3_init rfl rfl (by repeat (first | exact yup_eq _ _ _ | rw [yup_ne _ _ (by omega)])) rfl rfl rfl ?_
  refine y_run kX3_init rfl ?_
  refine y_put kX3_init rfl rfl (by repeat (first | exact yup_eq _ _ _ | rw [yup_ne _ _ (by omega)])) rfl rfl rfl ?_
  refine y_run kX3_init rfl ?_
  refine y_new kX3_init (ci := 0) rfl rfl (by decide +kernel) nw0_ok ?_
  refine y_run kX3_init rfl ?_
  refine y_ci kX3_init kX0_init 0 rfl (by decide +kernel) (n_Ninit (a := a + 4)) rfl rfl ?_
  rintro _ _ _ ⟨rfl, rfl, rfl⟩
  refine y_putF kX3_init rfl rfl (by repeat (first | exact yup_eq _ _ _ | rw [yup_ne _ _ (by omega)])) rfl rfl rfl rfl rfl ?_
  refine y_run kX3_init rfl ?_
  refine y_newq kX3_init (t := 3) (N := 120) rfl rfl (by decide +kernel) (by decide) rfl (by omega) ?_
  refine y_putF kX3_init rfl rfl (by repeat (first | exact yup_eq _ _ _ | rw [yup_ne _ _ (by omega)])) rfl rfl rfl rfl rfl ?_
  refine y_run kX3_init rfl ?_
  refine y_newq kX3_init (t := 3) (N := 120) rfl rfl (by decide +kernel) (by decide) rfl (by omega) ?_
  refine y_putF kX3_init rfl rfl (by repeat (first | exact yup_eq _ _ _ | rw [yup_ne _ _ (by omega)])) rfl rfl rfl rfl rfl ?_
  refine y_run kX3_init rfl ?_
  refine y_new kX3_init (ci := 0) rfl rfl (by decide +kernel) nw0_ok ?_
  refine y_run kX3_init rfl ?_
  refine y_ci kX3_init kX0_init 0 rfl (by decide +kernel) (n_Ninit (a := a + 7)) rfl rfl ?_
  rintro _ _ _ ⟨rfl, rfl, rfl⟩
  refine y_putF kX3_init rfl rfl (by repeat (first | exact yup_eq _ _ _ | rw [yup_ne _ _ (by omega)])) rfl rfl rfl rfl rfl ?_
  refine y_run kX3_init rfl ?_
  refine y_new kX3_init (ci := 0) rfl rfl (by decide +kernel) nw0_ok ?_
  refine y_run kX3_init rfl ?_
  refine y_ci kX3_init kX0_init 0 rfl (by decide +kernel) (n_Ninit (a := a + 8)) rfl rfl ?_
  rintro _ _ _ ⟨rfl, rfl, rfl⟩
  refine y_putF kX3_init rfl rfl (by repeat (first | exact yup_eq _ _ _ | rw [yup_ne _ _ (by omega)])) rfl rfl rfl rfl rfl ?_
  refine y_run kX3_init rfl ?_
  refine y_new kX3_init (ci := 0) rfl rfl (by decide +kernel) nw0_ok ?_
  refine y_run kX3_init rfl ?_
  refine y_ci kX3_init kX0_init 0 rfl (by decide +kernel) (n_Ninit (a := a + 9)) rfl rfl ?_
  rintro _ _ _ ⟨rfl, rfl, rfl⟩
  refine y_putF kX3_init rfl rfl (by repeat (first | exact yup_eq _ _ _ | rw [yup_ne _ _ (by omega)])) rfl rfl rfl rfl rfl ?_
  refine y_run kX3_init rfl ?_
  refine YW.ke (kc' := 240 - 2 * 0) (ks' := 480 - 4 * 0) (n' := a + (10 + 2 * 0)) (by omega) (by omega) (by omega) ?_
  refine s_Pinit 121 0 _ (by omega) (by omega) ⟨(by repeat (first | exact yup_eq _ _ _ | rw [yup_ne _ _ (by omega)])), ⟨_, (by repeat (first | exact yup_eq _ _ _ | rw [yup_ne _ _ (by omega)])), fun k hk => absurd hk (by omega)⟩, ⟨_, (by repeat (first | exact yup_eq _ _ _ | rw [yup_ne _ _ (by omega)])), fun k hk => absurd hk (by omega)⟩, fun k k1 k2 => absurd k2 (by omega)⟩ (fun h' hP hf => ⟨rfl, ⟨hP, ?_, ?_, ?_, ?_, ?_, ?_, ?_⟩, fun q hq => ?_, rfl⟩)
  all_goals rw [hf _ (by omega) (by omega) (by omega)]
  all_goals (repeat (first | exact yup_eq _ _ _ | rw [yup_ne _ _ (by omega)]))
end C72
end
section
section C73
variable {l : Launch} {G : xG} {d kc ks : Nat} {Φ : Option xV → yH → Nat → Prop} {h : yH} {n : Nat}
theorem s_Minit1 {c : Nat} {u1 : Option xV} : ∀ (m : Nat) (i : Nat) (F : Nat → Int) (h : yH), 64 - i < m → i ≤ 64 → h c = some (mo c 0 0 0 0 0 0 0) → h (c + 2) = some (ai 64 F) → (∀ j, j < i → F j = 21845) → (∀ j, F j = 0 ∨ F j = 21845) → (∀ h' F', h' (c + 2) = some (ai 64 F') → (∀ j, j < 64 → F' j = 21845) → (∀ j, F' j = 0 ∨ F' j = 21845) → (∀ q, q ≠ c + 2 → h' q = h q) → YW l G mX7_init d kc ks Φ 156 [some (vr c), some (vi ((64 : Nat) : Int))] [] h' n) → YW l G mX7_init d kc ks Φ 135 [some (vr c), some (vi (i : Int))] [] h n := by
  intro m
  induction m with
  | zero => intro i F h h1; exact absurd h1 (by omega)
  | succ m ih =>
    intro i F h h1 h2 hm hF f1 f2 kk
    refine y_run kX7_init rfl ?_
    refine y_ic_ge kX7_init rfl rfl (fun c => ?_) (fun c => ?_)
    · have hi : i = 64 := by omega
      subst hi
      exact kk h F hF f1 f2 (fun _ _ => rfl)
    · refine y_run kX7_init rfl ?_
      refine y_get kX7_init rfl rfl hm rfl ?_
      refine y_run kX7_init rfl ?_
      refine y_is kX7_init rfl hF (by omega) (by omega) ?_
      refine y_run kX7_init rfl ?_
      refine YW.Le (congrArg (fun z : Int => [some (vr _), some (vi z)]) (show (i : Int) + 1 = ((i + 1 : Nat) : Int) by omega)) ?_
      refine ih (i + 1) _ _ (by omega) (by omega) ((yup_ne _ _ (by omega)).trans hm) (yup_eq _ _ _) (fun j hj => ?_) (fun j => ?_) (fun h' F' g1 g2 g3 g4 => kk h' F' g1 g2 g3 (fun q hq => (g4 q hq).trans (yup_ne _ _ hq)))
      · unfold upZ
        by_cases e : j = (i : Int).toNat
        · rw [if_pos e]
        · rw [if_neg e]; exact f1 j (by omega)
      · unfold upZ
        split
        · exact Or.inr rfl
        · exact f2 j
theorem s_Minit2 {c : Nat} : ∀ (m : Nat) (i : Nat) (F F2 : Nat → Int) (h : yH), 8192 - i < m → i ≤ 8192 → h c = some (mo c 0 0 0 0 0 0 0) → h (c + 11) = some (ai 8192 F) → h (c + 12) = some (ai 8192 F2) → (∀ j, F j = 0 ∨ F j = -1) → (∀ j, F2 j = 0 ∨ F2 j = -1) → (∀ h' F' F2', h' (c + 11) = some (ai 8192 F') → h' (c + 12) = some (ai 8192 F2') → (∀ j, F' j = 0 ∨ F' j = -1) → (∀ j, F2' j = 0 ∨ F2' j = -1) → (∀ q, q ≠ c + 11 → q ≠ c + 12 → h' q = h q) → Φ none h' n) → YW l G mX7_init d kc ks Φ 158 [some (vr c), some (vi (i : Int))] [] h n := by
  intro m
  induction m with
  | zero => intro i F F2 h h1; exact absurd h1 (by omega)
  | succ m ih =>
    intro i F F2 h h1 h2 hm hF hF2 f1 f2 kk
    refine y_run kX7_init rfl ?_
    refine y_ic_ge kX7_init rfl rfl (fun c => ?_) (fun c => ?_)
    · exact y_vr kX7_init rfl rfl (kk h F F2 hF hF2 f1 f2 (fun _ _ _ => rfl))
    · refine y_run kX7_init rfl ?_
      refine y_get kX7_init rfl rfl hm rfl ?_
      refine y_run kX7_init rfl ?_
      refine y_is kX7_init rfl hF (by omega) (by omega) ?_
      refine y_run kX7_init rfl ?_
      refine y_get kX7_init rfl rfl ((yup_ne _ _ (by omega)).trans hm) rfl ?_
      refine y_run kX7_init rfl ?_
      refine y_is kX7_init rfl ((yup_ne _ _ (by omega)).trans hF2) (by omega) (by omega) ?_
      refine y_run kX7_init rfl ?_
      refine YW.Le (congrArg (fun z : Int => [some (vr _), some (vi z)]) (show (i : Int) + 1 = ((i + 1 : Nat) : Int) by omega)) ?_
      refine ih (i + 1) _ _ _ (by omega) (by omega) ((yup_ne _ _ (by omega)).trans ((yup_ne _ _ (by omega)).trans hm)) ((yup_ne _ _ (by omega)).trans (yup_eq _ _ _)) (yup_eq _ _ _) (fun j => ?_) (fun j => ?_) (fun h' F' F2' g1 g2 g3 g4 g5 => kk h' F' F2' g1 g2 g3 g4 (fun q q1 q2 => (g5 q q1 q2).trans ((yup_ne _ _ q2).trans (yup_ne _ _ q1))))
      · unfold upZ
        split
        · exact Or.inr rfl
        · exact f1 j
      · unfold upZ
        split
        · exact Or.inr rfl
        · exact f2 j
def MN (h : yH) (c : Nat) : Prop := h c = some (mo c 0 0 0 0 0 0 0) ∧ h (c + 1) = some (ai 264 (fun _ => 0)) ∧ (∃ J, h (c + 2) = some (ai 64 J) ∧ (∀ j, j < 64 → J j = 21845) ∧ ∀ j, J j = 0 ∨ J j = 21845) ∧ h (c + 3) = some (ai 1312 (fun _ => 0)) ∧ h (c + 4) = some (az 4 (fun _ => 0)) ∧ (∀ k e, mTb k = some e → okc e (h (c + k))) ∧ h (c + 14) = some (ai 6 (fun _ => 0)) ∧ h (c + 15) = some (ai 24 (fun _ => 0))
theorem mTb_5 {h : yH} {c : Nat} (h5 : h (c + 5) = some (ai 1024 (fun _ => 0))) (h6 : h (c + 6) = some (az 16384 (fun _ => 0))) (h7 : h (c + 7) = some (az 16384 (fun _ => 0))) (h8 : h (c + 8) = some (ai 128 (fun _ => 0))) (h9 : h (c + 9) = some (ai 96 (fun _ => 0))) (h10 : h (c + 10) = some (ai 768 (fun _ => 0))) {F F2 : Nat → Int} (h11 : h (c + 11) = some (ai 8192 F)) (h12 : h (c + 12) = some (ai 8192 F2)) (f1 : ∀ j, F j = 0 ∨ F j = -1) (f2 : ∀ j, F2 j = 0 ∨ F2 j = -1) (h13 : h (c + 13) = some (ai 8192 (fun _ => 0))) : ∀ k e, mTb k = some e → okc e (h (c + k))
  | 0, e, q => by cases q
  | 1, e, q => by cases q
  | 2, e, q => by cases q
  | 3, e, q => by cases q
  | 4, e, q => by cases q
  | 5, e, q => by cases q; exact ⟨_, h5, fun _ => by omega⟩
  | 6, e, q => by cases q; exact ⟨_, h6, fun _ => Or.inl rfl⟩
  | 7, e, q => by cases q; exact ⟨_, h7, fun _ => Or.inl rfl⟩
  | 8, e, q => by cases q; exact ⟨_, h8, fun _ => by omega⟩
  | 9, e, q => by cases q; exact ⟨_, h9, fun _ => by omega⟩
  | 10, e, q => by cases q; exact ⟨_, h10, fun _ => by omega⟩
  | 11, e, q => by cases q; exact ⟨_, h11, fun j => by have := f1 j; omega⟩
  | 12, e, q => by cases q; exact ⟨_, h12, fun j => by have := f2 j; omega⟩
  | 13, e, q => by cases q; exact ⟨_, h13, fun _ => by omega⟩
  | k + 14, e, q => by cases q
set_option maxHeartbeats 8000000 in
theorem c_Minit {c : Nat} (ha : h c = some (ob 7 nw7)) (hn : n = c + 1) : YM l G mX7_init 1 15 61034 [vr c] h n (fun r h' n' => r = none ∧ MN h' c ∧ (∀ q, q < c → h' q = h q) ∧ n' = c + 16) := by
  subst hn
  refine YM.of kX7_init (Nat.le_of_ble_eq_true rfl) (L0 := [some (vr c), none]) rfl ?_
  refine y_run kX7_init rfl ?_
  refine y_ob kX7_init rfl (by decide +kernel) ?_
  refine y_run kX7_init rfl ?_
  refine y_newi kX7_init rfl (by decide +kernel) (N := 264) rfl (by omega) ?_
  refine y_putF kX7_init rfl rfl ((yup_ne _ _ (by omega)).trans ha) rfl rfl rfl rfl rfl ?_
  refine y_run kX7_init rfl ?_
  refine y_newi kX7_init rfl (by decide +kernel) (N := 64) rfl (by omega) ?_
  refine y_putF kX7_init rfl rfl (by repeat (first | exact yup_eq _ _ _ | rw [yup_ne _ _ (by omega)])) rfl rfl rfl rfl rfl ?_
  refine y_run kX7_init rfl ?_
  refine y_newi kX7_init rfl (by decide +kernel) (N := 1312) rfl (by omega) ?_
  refine y_putF kX7_init rfl rfl (by repeat (first | exact yup_eq _ _ _ | rw [yup_ne _ _ (by omega)])) rfl rfl rfl rfl rfl ?_
  refine y_run kX7_init rfl ?_
  refine y_newz kX7_init rfl (by decide +kernel) (N := 4) rfl (by omega) ?_
  refine y_putF kX7_init rfl rfl (by repeat (first | exact yup_eq _ _ _ | rw [yup_ne _ _ (by omega)])) rfl rfl rfl rfl rfl ?_
  refine y_run kX7_init rfl ?_
  refine y_newi kX7_init rfl (by decide +kernel) (N := 1024) rfl (by omega) ?_
  refine y_putF kX7_init rfl rfl (by repeat (first | exact yup_eq _ _ _ | rw [yup_ne _ _ (by omega)])) rfl rfl rfl rfl rfl ?_
  refine y_run kX7_init rfl ?_
  refine y_newz kX7_init rfl (by decide +kernel) (N := 16384) rfl (by omega) ?_
  refine y_putF kX7_init rfl rfl (by repeat (first | exact yup_eq _ _ _ | rw [yup_ne _ _ (by omega)])) rfl rfl rfl rfl rfl ?_
  refine y_run kX7_init rfl ?_
  refine y_newz kX7_init rfl (by decide +kernel) (N := 16384) rfl (by omega) ?_
  refine y_putF kX7_init rfl rfl (by repeat (first | exact yup_eq _ _ _ | rw [yup_ne _ _ (by omega)])) rfl rfl rfl rfl rfl ?_
  refine y_run kX7_init rfl ?_
  refine y_newi kX7_init rfl (by decide +kernel) (N := 128) rfl (by omega) ?_
  refine y_putF kX7_init rfl rfl (by repeat (first | exact yup_eq _ _ _ | rw [yup_ne _ _ (by omega)])) rfl rfl rfl rfl rfl ?_
  refine y_run kX7_init rfl ?_
  refine y_newi kX7_init rfl (by decide +kernel) (N := 96) rfl (by omega) ?_
  refine y_putF kX7_init rfl rfl (by repeat (first | exact yup_eq _ _ _ | rw [yup_ne _ _ (by omega)])) rfl rfl rfl rfl rfl ?_
  refine y_run kX7_init rfl ?_
  refine y_newi kX7_init rfl (by decide +kernel) (N := 768) rfl (by omega) ?_
  refine y_putF kX7_init rfl rfl (by repeat (first | exact yup_eq _ _ _ | rw [yup_ne _ _ (by omega)])) rfl rfl rfl rfl rfl ?_
  refine y_run kX7_init rfl ?_
  refine y_newi kX7_init rfl (by decide +kernel) (N := 8192) rfl (by omega) ?_
  refine y_putF kX7_init rfl rfl (by repeat (first | exact yup_eq _ _ _ | rw [yup_ne _ _ (by omega)])) rfl rfl rfl rfl rfl ?_
  refine y_run kX7_init rfl ?_
  refine y_newi kX7_init rfl (by decide +kernel) (N := 8192) rfl (by omega) ?_
  refine y_putF kX7_init rfl rfl (by repeat (first | exact yup_eq _ _ _ | rw [yup_ne _ _ (by omega)])) rfl rfl rfl rfl rfl ?_
  refine y_run kX7_init rfl ?_
  refine y_newi kX7_init rfl (by decide +kernel) (N := 8192) rfl (by omega) ?_
  refine y_putF kX7_init rfl rfl (by repeat (first | exact yup_eq _ _ _ | rw [yup_ne _ _ (by omega)])) rfl rfl rfl rfl rfl ?_
  refine y_run kX7_init rfl ?_
  refine y_newi kX7_init rfl (by decide +kernel) (N := 6) rfl (by omega) ?_
  refine y_putF kX7_init rfl rfl (by repeat (first | exact yup_eq _ _ _ | rw [yup_ne _ _ (by omega)])) rfl rfl rfl rfl rfl ?_
  refine y_run kX7_init rfl ?_
  refine y_newi kX7_init rfl (by decide +kernel) (N := 24) rfl (by omega) ?_
  refine y_putF kX7_init rfl rfl (by repeat (first | exact yup_eq _ _ _ | rw [yup_ne _ _ (by omega)])) rfl rfl rfl rfl rfl ?_
  refine y_run kX7_init rfl ?_
  refine s_Minit1 (u1 := none) 65 0 (fun _ => 0) _ (by omega) (by omega) (by repeat (first | exact yup_eq _ _ _ | rw [yup_ne _ _ (by omega)])) (by repeat (first | exact yup_eq _ _ _ | rw [yup_ne _ _ (by omega)])) (fun j hj => absurd hj (by omega)) (fun _ => Or.inl rfl) (fun g J g1 g2 g3 g4 => ?_)
  refine y_run kX7_init rfl ?_
  refine s_Minit2 8193 0 (fun _ => 0) (fun _ => 0) _ (by omega) (by omega) ?_ ?_ ?_ (fun _ => Or.inl rfl) (fun _ => Or.inl rfl) (fun g' F F2 k1 k2 k3 k4 k5 => ⟨rfl, ⟨?_, ?_, ⟨J, ?_, g2, g3⟩, ?_, ?_, mTb_5 ?_ ?_ ?_ ?_ ?_ ?_ k1 k2 k3 k4 ?_, ?_, ?_⟩, fun q hq => ?_, rfl⟩)
  all_goals (try rw [k5 _ (by omega) (by omega)])
  all_goals (first | exact g1 | rw [g4 _ (by omega)])
  all_goals (repeat (first | exact yup_eq _ _ _ | rw [yup_ne _ _ (by omega)]))
end C73
end
section
section C74
variable {l : Launch} {G : xG} {M : xM} {d kc ks : Nat} {Φ : Option xV → yH → Nat → Prop} {h : yH} {n : Nat} {pc : Nat} {L : List (Option xV)} {st : List xV}
theorem YW.gen {a : Nat} {e : yE} (k : ∀ g : yH, g a = some e → (∀ q, q ≠ a → g q = h q) → YW l G M d kc ks Φ pc L st g n) : YW l G M d kc ks Φ pc L st (yup h a e) n := k _ (yup_eq _ _ _) (fun q hq => yup_ne _ _ hq)
theorem SC.cp {h h' : yH} {a : Nat} {t : Int} {E K R T : Nat → Int} (q : SC h a t E K R T) (e : ∀ k, k < 5 → h' (a + k) = h (a + k)) : SC h' a t E K R T := ⟨(e 0 (by omega)).trans q.1, (e 1 (by omega)).trans q.2.1, (e 2 (by omega)).trans q.2.2.1, (e 3 (by omega)).trans q.2.2.2.1, (e 4 (by omega)).trans q.2.2.2.2⟩
def KP (h : yH) (b i : Nat) : Prop := (∃ F, h (b + 6) = some (aq 2 4 F) ∧ ∀ k, k < i → F k = some (b + (520 + 5 * k))) ∧ ∀ k, k < i → SC h (b + (520 + 5 * k)) 0 (fun _ => 0) (fun _ => 0) (flF (fun _ => 0) 21845 64) (fun _ => 0)
set_option maxHeartbeats 2000000 in
theorem s_Binit {b : Nat} : ∀ (m : Nat) (i : Nat) (h : yH), 4 - i < m → i ≤ 4 → h b = some (bo b (b + 20) (b + 270) 0) → KP h b i → (∀ h', KP h' b 4 → (∀ q, q < b + 520 → q ≠ b + 6 → h' q = h q) → Φ none h' (b + 540)) → YW l G mX6_init 3 (20 - 5 * i) (1260 - 315 * i) Φ 119 [some (vr b), some (vi (i : Int))] [] h (b + (520 + 5 * i)) := by
  intro m
  induction m with
  | zero => intro i h h1; exact absurd h1 (by omega)
  | succ m ih =>
    intro i h h1 h2 hx hP kk
    refine y_run kX6_init rfl ?_
    refine y_ic_ge kX6_init rfl rfl (fun c => ?_) (fun c => ?_)
    · have hi : i = 4 := by omega
      subst hi
      exact y_vr kX6_init rfl rfl (kk h hP (fun q _ _ => rfl))
    · obtain ⟨⟨F, p1, p2⟩, p3⟩ := hP
      refine y_run kX6_init rfl ?_
      refine y_get kX6_init rfl rfl hx rfl ?_
      refine y_run kX6_init rfl ?_
      refine y_new kX6_init (ci := 5) rfl rfl (by decide +kernel) nw5_ok ?_
      refine y_run kX6_init rfl ?_
      refine y_ci kX6_init kX5_init 0 rfl (by decide +kernel) (c_Sinit (a := b + (520 + 5 * i)) (yup_eq _ _ _) rfl) rfl rfl ?_
      rintro _ t _ ⟨rfl, hS, hf, rfl⟩
      have hf' : ∀ q, q < b + (520 + 5 * i) → t q = h q := fun q hq => (hf q hq).trans (yup_ne _ _ (by omega))
      refine y_qs kX6_init rfl ((hf' _ (by omega)).trans p1) hS.1 rfl rfl (by omega) (by omega) ?_
      refine YW.gen (fun g x1 e1 => ?_)
      refine y_run kX6_init rfl ?_
      refine YW.ke (kc' := 20 - 5 * (i + 1)) (ks' := 1260 - 315 * (i + 1)) (n' := b + (520 + 5 * (i + 1))) (by omega) (by omega) (by omega) ?_
      refine YW.Le (L' := [some (vr b), some (vi ((i + 1 : Nat) : Int))]) (congrArg (fun z : Int => [some (vr b), some (vi z)]) (show (i : Int) + 1 = ((i + 1 : Nat) : Int) by omega)) ?_
      refine ih (i + 1) g (by omega) (by omega) ((e1 b (by omega)).trans ((hf' b (by omega)).trans hx)) ⟨⟨_, x1, fun k hk => ?_⟩, fun k hk => ?_⟩ (fun h' hP' hf2 => kk h' hP' (fun q q1 q2 => (hf2 q q1 q2).trans ((e1 q q2).trans (hf' q (by omega)))))
      · unfold va_up
        by_cases c : k = i
        · subst c; simp
        · rw [if_neg (by omega)]; exact p2 k (by omega)
      · by_cases c : k = i
        · subst c
          exact hS.cp (fun j hj => e1 _ (by omega))
        · exact (p3 k (by omega)).cp (fun j hj => (e1 _ (by omega)).trans (hf' _ (by omega)))
def NEW (h : yH) (b : Nat) : Prop := h b = some (bo b (b + 20) (b + 270) 0) ∧ SC h (b + 1) 0 (fun _ => 0) (fun _ => 0) (flF (fun _ => 0) 21845 64) (fun _ => 0) ∧ KP h b 4 ∧ h (b + 7) = some (az 4 (fun _ => 0)) ∧ QI h (b + 8) ∧ h (b + 15) = some (ob 4 nw4) ∧ h (b + 16) = some (ob 1 nw1) ∧ h (b + 17) = some (ob 1 nw1) ∧ h (b + 18) = some (ai 24 (fun _ => 0)) ∧ h (b + 19) = some (ai 24 (fun _ => 0)) ∧ PI h (b + 20) ∧ PI h (b + 270)
set_option maxHeartbeats 8000000 in
theorem c_Binit {b : Nat} (ha : h b = some (ob 6 nw6)) (hn : n = b + 1) : YM l G mX6_init 3 539 21430 [vr b] h n (fun r h' n' => r = none ∧ NEW h' b ∧ (∀ q, q < b → h' q = h q) ∧ n' = b + 540) := by
  subst hn
  refine YM.of kX6_init (Nat.le_of_ble_eq_true rfl) (L0 := [some (vr b), none]) rfl ?_
  refine y_run kX6_init rfl ?_
  refine y_ob kX6_init rfl (by decide +kernel) ?_
  refine y_run kX6_init rfl ?_
  refine y_new kX6_init (ci := 5) rfl rfl (by decide +kernel) nw5_ok ?_
  refine y_run kX6_init rfl ?_
  refine y_ci kX6_init kX5_init 0 rfl (by decide +kernel) (c_Sinit (a := b + 1) (yup_eq _ _ _) rfl) rfl rfl ?_
  rintro _ t1 _ ⟨rfl, w1, v1, rfl⟩
  refine y_putF kX6_init rfl rfl ((v1 b (by omega)).trans ((yup_ne _ _ (by omega)).trans ha)) rfl rfl rfl rfl rfl ?_
  refine YW.gen (fun g1 x1 e1 => ?_)
  have f1 : ∀ q, q < b + 1 → q ≠ b → g1 q = h q := fun q q1 q2 => (e1 q q2).trans ((v1 q q1).trans (yup_ne _ _ (by omega)))
  refine YW.ke (n' := b + 6) rfl rfl (by omega) ?_
  refine y_run kX6_init rfl ?_
  refine y_newq kX6_init (t := 2) (N := 4) rfl rfl (by decide +kernel) (by decide) rfl (by omega) ?_
  refine y_putF kX6_init rfl rfl ((yup_ne _ _ (by omega)).trans x1) rfl rfl rfl rfl rfl ?_
  refine YW.gen (fun g2 x2 e2 => ?_)
  have f2 : ∀ q, q < b + 6 → q ≠ b → g2 q = g1 q := fun q q1 q2 => (e2 q q2).trans (yup_ne _ _ (by omega))
  have w2 : g2 (b + 6) = some (aq 2 4 (fun _ => none)) := (e2 _ (by omega)).trans (yup_eq _ _ _)
  refine YW.ke (n' := b + 7) rfl rfl (by omega) ?_
  refine y_run kX6_init rfl ?_
  refine y_newz kX6_init rfl (by decide +kernel) (N := 4) rfl (by omega) ?_
  refine y_putF kX6_init rfl rfl ((yup_ne _ _ (by omega)).trans x2) rfl rfl rfl rfl rfl ?_
  refine YW.gen (fun g3 x3 e3 => ?_)
  have f3 : ∀ q, q < b + 7 → q ≠ b → g3 q = g2 q := fun q q1 q2 => (e3 q q2).trans (yup_ne _ _ (by omega))
  have w3 : g3 (b + 7) = some (az 4 (fun _ => 0)) := (e3 _ (by omega)).trans (yup_eq _ _ _)
  refine YW.ke (n' := b + 8) rfl rfl (by omega) ?_
  refine y_run kX6_init rfl ?_
  refine y_new kX6_init (ci := 2) rfl rfl (by decide +kernel) nw2_ok ?_
  refine y_run kX6_init rfl ?_
  refine y_ci kX6_init kX2_init 0 rfl (by decide +kernel) (c_Qinit (a := b + 8) (yup_eq _ _ _) rfl) rfl rfl ?_
  rintro _ t4 _ ⟨rfl, w4, v4, rfl⟩
  refine y_putF kX6_init rfl rfl ((v4 b (by omega)).trans ((yup_ne _ _ (by omega)).trans x3)) rfl rfl rfl rfl rfl ?_
  refine YW.gen (fun g4 x4 e4 => ?_)
  have f4 : ∀ q, q < b + 8 → q ≠ b → g4 q = g3 q := fun q q1 q2 => (e4 q q2).trans ((v4 q q1).trans (yup_ne _ _ (by omega)))
  refine YW.ke (n' := b + 15) rfl rfl (by omega) ?_
  refine y_run kX6_init rfl ?_
  refine y_new kX6_init (ci := 4) rfl rfl (by decide +kernel) nw4_ok ?_
  refine y_run kX6_init rfl ?_
  refine y_ci kX6_init kX4_init 0 rfl (by decide +kernel) (n_Rinit (a := b + 15)) rfl rfl ?_
  rintro _ _ _ ⟨rfl, rfl, rfl⟩
  refine y_putF kX6_init rfl rfl ((yup_ne _ _ (by omega)).trans x4) rfl rfl rfl rfl rfl ?_
  refine YW.gen (fun g5 x5 e5 => ?_)
  have f5 : ∀ q, q < b + 15 → q ≠ b → g5 q = g4 q := fun q q1 q2 => (e5 q q2).trans (yup_ne _ _ (by omega))
  have w5 : g5 (b + 15) = some (ob 4 nw4) := (e5 _ (by omega)).trans (yup_eq _ _ _)
  refine YW.ke (n' := b + 16) rfl rfl (by omega) ?_
  refine y_run kX6_init rfl ?_
  refine y_new kX6_init (ci := 1) rfl rfl (by decide +kernel) nw1_ok ?_
  refine y_run kX6_init rfl ?_
  refine y_ci kX6_init kX1_init 0 rfl (by decide +kernel) (n_Oinit (a := b + 16)) rfl rfl ?_
  rintro _ _ _ ⟨rfl, rfl, rfl⟩
  refine y_putF kX6_init rfl rfl ((yup_ne _ _ (by omega)).trans x5) rfl rfl rfl rfl rfl ?_
  refine YW.gen (fun g6 x6 e6 => ?_)
  have f6 : ∀ q, q < b + 16 → q ≠ b → g6 q = g5 q := fun q q1 q2 => (e6 q q2).trans (yup_ne _ _ (by omega))
  have w6 : g6 (b + 16) = some (ob 1 nw1) := (e6 _ (by omega)).trans (yup_eq _ _ _)
  refine YW.ke (n' := b + 17) rfl rfl (by omega) ?_
  refine y_run kX6_init rfl ?_
  refine y_new kX6_init (ci := 1) rfl rfl (by decide +kernel) nw1_ok ?_
  refine y_run kX6_init rfl ?_
  refine y_ci kX6_init kX1_init 0 rfl (by decide +kernel) (n_Oinit (a := b + 17)) rfl rfl ?_
  rintro _ _ _ ⟨rfl, rfl, rfl⟩
  refine y_putF kX6_init rfl rfl ((yup_ne _ _ (by omega)).trans x6) rfl rfl rfl rfl rfl ?_
  refine YW.gen (fun g7 x7 e7 => ?_)
  have f7 : ∀ q, q < b + 17 → q ≠ b → g7 q = g6 q := fun q q1 q2 => (e7 q q2).trans (yup_ne _ _ (by omega))
  have w7 : g7 (b + 17) = some (ob 1 nw1) := (e7 _ (by omega)).trans (yup_eq _ _ _)
  refine YW.ke (n' := b + 18) rfl rfl (by omega) ?_
  refine y_run kX6_init rfl ?_
  refine y_newi kX6_init rfl (by decide +kernel) (N := 24) rfl (by omega) ?_
  refine y_putF kX6_init rfl rfl ((yup_ne _ _ (by omega)).trans x7) rfl rfl rfl rfl rfl ?_
  refine YW.gen (fun g8 x8 e8 => ?_)
  have f8 : ∀ q, q < b + 18 → q ≠ b → g8 q = g7 q := fun q q1 q2 => (e8 q q2).trans (yup_ne _ _ (by omega))
  have w8 : g8 (b + 18) = some (ai 24 (fun _ => 0)) := (e8 _ (by omega)).trans (yup_eq _ _ _)
  refine YW.ke (n' := b + 19) rfl rfl (by omega) ?_
  refine y_run kX6_init rfl ?_
  refine y_newi kX6_init rfl (by decide +kernel) (N := 24) rfl (by omega) ?_
  refine y_putF kX6_init rfl rfl ((yup_ne _ _ (by omega)).trans x8) rfl rfl rfl rfl rfl ?_
  refine YW.gen (fun g9 x9 e9 => ?_)
  have f9 : ∀ q, q < b + 19 → q ≠ b → g9 q = g8 q := fun q q1 q2 => (e9 q q2).trans (yup_ne _ _ (by omega))
  have w9 : g9 (b + 19) = some (ai 24 (fun _ => 0)) := (e9 _ (by omega)).trans (yup_eq _ _ _)
  refine YW.ke (n' := b + 20) rfl rfl (by omega) ?_
  refine y_run kX6_init rfl ?_
  refine y_new kX6_init (ci := 3) rfl rfl (by decide +kernel) nw3_ok ?_
  refine y_run kX6_init rfl ?_
  refine y_ci kX6_init kX3_init 0 rfl (by decide +kernel) (c_Pinit (a := b + 20) (yup_eq _ _ _) rfl) rfl rfl ?_
  rintro _ t10 _ ⟨rfl, w10, v10, rfl⟩
  refine y_put kX6_init rfl rfl ((v10 b (by omega)).trans ((yup_ne _ _ (by omega)).trans x9)) rfl rfl rfl ?_
  refine YW.gen (fun g10 x10 e10 => ?_)
  have f10 : ∀ q, q < b + 20 → q ≠ b → g10 q = g9 q := fun q q1 q2 => (e10 q q2).trans ((v10 q q1).trans (yup_ne _ _ (by omega)))
  refine YW.ke (n' := b + 270) rfl rfl (by omega) ?_
  refine y_run kX6_init rfl ?_
  refine y_new kX6_init (ci := 3) rfl rfl (by decide +kernel) nw3_ok ?_
  refine y_run kX6_init rfl ?_
  refine y_ci kX6_init kX3_init 0 rfl (by decide +kernel) (c_Pinit (a := b + 270) (yup_eq _ _ _) rfl) rfl rfl ?_
  rintro _ t11 _ ⟨rfl, w11, v11, rfl⟩
  refine y_put kX6_init rfl rfl ((v11 b (by omega)).trans ((yup_ne _ _ (by omega)).trans x10)) rfl rfl rfl ?_
  refine YW.gen (fun g11 x11 e11 => ?_)
  have f11 : ∀ q, q < b + 270 → q ≠ b → g11 q = g10 q := fun q q1 q2 => (e11 q q2).trans ((v11 q q1).trans (yup_ne _ _ (by omega)))
  refine YW.ke (n' := b + 520) rfl rfl (by omega) ?_
  refine y_run kX6_init rfl ?_
  refine y_put kX6_init rfl rfl x11 rfl rfl rfl ?_
  refine YW.gen (fun g12 x12 e12 => ?_)
  refine y_run kX6_init rfl ?_
  refine YW.ke (kc' := 20 - 5 * 0) (ks' := 1260 - 315 * 0) (n' := b + (520 + 5 * 0)) (by omega) (by omega) (by omega) ?_
  have D11 : ∀ q, q ≠ b → g12 q = g11 q := e12
  have D10 : ∀ q, q < b + 270 → q ≠ b → g12 q = g10 q := fun q q1 q2 => (D11 q q2).trans (f11 q q1 q2)
  have D9 : ∀ q, q < b + 20 → q ≠ b → g12 q = g9 q := fun q q1 q2 => (D10 q (by omega) q2).trans (f10 q q1 q2)
  have D8 : ∀ q, q < b + 19 → q ≠ b → g12 q = g8 q := fun q q1 q2 => (D9 q (by omega) q2).trans (f9 q q1 q2)
  have D7 : ∀ q, q < b + 18 → q ≠ b → g12 q = g7 q := fun q q1 q2 => (D8 q (by omega) q2).trans (f8 q q1 q2)
  have D6 : ∀ q, q < b + 17 → q ≠ b → g12 q = g6 q := fun q q1 q2 => (D7 q (by omega) q2).trans (f7 q q1 q2)
  have D5 : ∀ q, q < b + 16 → q ≠ b → g12 q = g5 q := fun q q1 q2 => (D6 q (by omega) q2).trans (f6 q q1 q2)
  have D4 : ∀ q, q < b + 15 → q ≠ b → g12 q = g4 q := fun q q1 q2 => (D5 q (by omega) q2).trans (f5 q q1 q2)
  have D3 : ∀ q, q < b + 8 → q ≠ b → g12 q = g3 q := fun q q1 q2 => (D4 q (by omega) q2).trans (f4 q q1 q2)
  have D2 : ∀ q, q < b + 7 → q ≠ b → g12 q = g2 q := fun q q1 q2 => (D3 q (by omega) q2).trans (f3 q q1 q2)
  have D1 : ∀ q, q < b + 6 → q ≠ b → g12 q = g1 q := fun q q1 q2 => (D2 q (by omega) q2).trans (f2 q q1 q2)
  have D0 : ∀ q, q < b → g12 q = h q := fun q q1 => (D1 q (by omega) (by omega)).trans (f1 q (by omega) (by omega))
  refine s_Binit 5 0 g12 (by omega) (by omega) x12 ⟨⟨_, (D2 _ (by omega) (by omega)).trans w2, fun k hk => absurd hk (by omega)⟩, fun k hk => absurd hk (by omega)⟩ (fun h' hP hf => ⟨rfl, ⟨(hf b (by omega) (by omega)).trans x12, w1.cp (fun k hk => ?_), hP, ?_, w4.on (fun k hk => ?_), ?_, ?_, ?_, ?_, ?_, w10.on (fun k hk => ?_), w11.on (fun k hk => ?_)⟩, fun q hq => (hf q (by omega) (by omega)).trans (D0 q hq), rfl⟩)
  all_goals rw [hf _ (by omega) (by omega)]
  · exact (D1 _ (by omega) (by omega)).trans (e1 _ (by omega))
  · exact (D3 _ (by omega) (by omega)).trans w3
  · exact (D4 _ (by omega) (by omega)).trans (e4 _ (by omega))
  · exact (D5 _ (by omega) (by omega)).trans w5
  · exact (D6 _ (by omega) (by omega)).trans w6
  · exact (D7 _ (by omega) (by omega)).trans w7
  · exact (D8 _ (by omega) (by omega)).trans w8
  · exact (D9 _ (by omega) (by omega)).trans w9
  · exact (D10 _ (by omega) (by omega)).trans (e10 _ (by omega))
  · exact (D11 _ (by omega)).trans (e11 _ (by omega))
end C74
end
section
/-! WHAT HOLDS BETWEEN TWO CALLS: both sides hold the same scene, and the same kept ones -/
def okS (t : Int) (E K R : Nat → Int) : Prop := okE t E ∧ (∀ v k : Int, 0 ≤ v → v < 24 → 1 ≤ k → k < 4 → 0 ≤ K (v * 4 + k).toNat ∧ K (v * 4 + k).toNat < 8) ∧ (∀ v : Int, 0 ≤ v → v < 24 → 0 ≤ K (v * 4).toNat ∧ K (v * 4).toNat < 16) ∧ ∀ j, -2147483648 ≤ R j ∧ R j ≤ 2147483647
def bB (B : Nat → Int) : Prop := ∀ j, 0 ≤ B j ∧ B j ≤ 32
def bJ (J : Nat → Int) : Prop := ∀ j, -2147483648 ≤ J j ∧ J j ≤ 2147483647
def bT (T : Nat → Int) : Prop := ∀ j, -1 ≤ T j ∧ T j ≤ 33
def bH (H : Nat → Int) : Prop := ∀ j, -1 ≤ H j ∧ H j ≤ 32
def CC (b : Nat) (h : yH) : Prop := (∃ o1 o2 dr, CX b h o1 o2 dr) ∧ PJ b 20 h ∧ PJ b 270 h ∧ QJ b h
def CS (b : Nat) (h : yH) (t : Int) (E K R : Nat → Int) : Prop := ∃ T, SC h (b + 1) t E K R T ∧ bT T
def CK (b : Nat) (h : yH) (Z tk : Nat → Int) (Ek Kk Rk : Nat → Nat → Int) : Prop := (∃ F, h (b + 6) = some (aq 2 4 F) ∧ ∀ k, k < 4 → F k = some (b + (520 + 5 * k))) ∧ h (b + 7) = some (az 4 Z) ∧ (∀ j, Z j = 0 ∨ Z j = 1) ∧ ∀ k, k < 4 → ∃ T, SC h (b + (520 + 5 * k)) (tk k) (Ek k) (Kk k) (Rk k) T
def RS (b : Nat) (h : yH) (B J : Nat → Int) : Prop := (∃ i0 i1 i2 i3 i4 i5 i6, h (b + 540) = some (mo (b + 540) i0 i1 i2 i3 i4 i5 i6) ∧ 0 ≤ i0 ∧ i0 ≤ 96 ∧ -2147483648 ≤ i5 ∧ i5 ≤ 2147483647) ∧ h (b + 541) = some (ai 264 B) ∧ h (b + 542) = some (ai 64 J) ∧ bB B ∧ bJ J ∧ (∃ T, h (b + 554) = some (ai 6 T) ∧ bT T) ∧ ∃ H, h (b + 555) = some (ai 24 H) ∧ bH H
def RK (b : Nat) (h : yH) (Z Kp : Nat → Int) : Prop := h (b + 543) = some (ai 1312 Kp) ∧ h (b + 544) = some (az 4 Z)
def KR (Z tk : Nat → Int) (Ek Kk Rk : Nat → Nat → Int) (Kp : Nat → Int) : Prop := ∀ k, k < 4 → okS (tk k) (Ek k) (Kk k) (Rk k) ∧ (Z k = 1 → ∃ Bk Jk, bB Bk ∧ bJ Jk ∧ REL (tk k) (Ek k) (Kk k) (Rk k) Bk Jk ∧ (∀ j, j < 264 → Kp (328 * k + j) = Bk j) ∧ ∀ j, j < 64 → Kp (328 * k + 264 + j) = Jk j)
/-- the cells, by what they hold -/
def ST (b : Nat) (h : yH) (t : Int) (E K R : Nat → Int) (Z tk : Nat → Int) (Ek Kk Rk : Nat → Nat → Int) (B J Zm Kp : Nat → Int) : Prop := CC b h ∧ CS b h t E K R ∧ CK b h Z tk Ek Kk Rk ∧ RS b h B J ∧ RK b h Zm Kp ∧ MI b h h
def INV (b : Nat) (h : yH) : Prop := ∃ t E K R Z tk Ek Kk Rk B J Kp, ST b h t E K R Z tk Ek Kk Rk B J Z Kp ∧ okS t E K R ∧ REL t E K R B J ∧ KR Z tk Ek Kk Rk Kp
theorem MI.kn {b : Nat} {g h : yH} (hI : MI b g h) {k : Nat} (hk : rTb k = none) : h (b + k) = g (b + k) := hI.2 (b + k) (fun j hj => by rw [show j = k by omega]; exact hk)
theorem rTb_lo {k : Nat} (hk : k < 9) : rTb k = none := by
  rcases (show k = 0 ∨ k = 1 ∨ k = 2 ∨ k = 3 ∨ k = 4 ∨ k = 5 ∨ k = 6 ∨ k = 7 ∨ k = 8 by omega) with rfl | rfl | rfl | rfl | rfl | rfl | rfl | rfl | rfl <;> rfl
theorem rTb_kp {k : Nat} (h1 : 520 ≤ k) (h2 : k < 540) : rTb k = none := by unfold rTb; rw [if_neg (by omega), if_neg (by omega), if_neg (by omega), if_pos h2]
theorem rTb_mo {k : Nat} (h1 : 540 ≤ k) : rTb k = mTb (k - 540) := by unfold rTb; rw [if_neg (by omega), if_neg (by omega), if_neg (by omega), if_neg (by omega)]
theorem rTb_m5 {k : Nat} (h1 : 540 ≤ k) (h2 : k < 545 ∨ 554 ≤ k) : rTb k = none := by
  rw [rTb_mo h1]
  rcases (show k - 540 = 0 ∨ k - 540 = 1 ∨ k - 540 = 2 ∨ k - 540 = 3 ∨ k - 540 = 4 ∨ 14 ≤ k - 540 by omega) with e | e | e | e | e | e
  · rw [e]; rfl
  · rw [e]; rfl
  · rw [e]; rfl
  · rw [e]; rfl
  · rw [e]; rfl
  · obtain ⟨j, e⟩ : ∃ j, k - 540 = j + 14 := ⟨k - 540 - 14, by omega⟩
    rw [e]; rfl
section C75
variable {b : Nat} {h h' : yH} {t : Int} {E K R Z tk B J Zm Kp : Nat → Int} {Ek Kk Rk : Nat → Nat → Int}
theorem PJ.on2 {o : Nat} (hp : PJ b o h) (e : ∀ k, 20 ≤ k → k < 520 → rTb k = none → h' (b + k) = h (b + k)) : PJ b o h' := by
  obtain ⟨S, a, c, x, ⟨f1, f2, ⟨lo, hi, f3, f4⟩, ⟨F, f5, f6⟩, F', f7, f8⟩, hr⟩ := hp
  have r0 : rTb (o + 0) = none := by rw [rTb_p f1 (by omega)]; rfl
  have r4 : rTb (o + 4) = none := by rw [rTb_p f1 (by omega)]; rfl
  have r5 : rTb (o + 5) = none := by rw [rTb_p f1 (by omega)]; rfl
  have r6 : rTb (o + 6) = none := by rw [rTb_p f1 (by omega)]; rfl
  exact ⟨S, a, c, x, ⟨f1, (e (o + 0) (by omega) (by omega) r0).trans f2, ⟨lo, hi, (e _ (by omega) (by omega) r4).trans f3, f4⟩, ⟨F, (e _ (by omega) (by omega) r5).trans f5, f6⟩, F', (e _ (by omega) (by omega) r6).trans f7, f8⟩, hr⟩
theorem CC.on (hc : CC b h) (e : ∀ k, k = 0 ∨ k = 8 ∨ (20 ≤ k ∧ k < 520) → rTb k = none → h' (b + k) = h (b + k)) : CC b h' := by
  obtain ⟨⟨o1, o2, dr, c1⟩, c2, c3, c4⟩ := hc
  exact ⟨⟨o1, o2, dr, c1.on (e 0 (by omega) rfl)⟩, c2.on2 (fun k k1 k2 k3 => e k (by omega) k3), c3.on2 (fun k k1 k2 k3 => e k (by omega) k3), c4.on (e 8 (by omega) rfl)⟩
theorem CS.on (hc : CS b h t E K R) (e : ∀ k, 1 ≤ k → k < 6 → h' (b + k) = h (b + k)) : CS b h' t E K R := by
  obtain ⟨T, c1, c2⟩ := hc
  exact ⟨T, c1.cp (fun k hk => by rw [show b + 1 + k = b + (1 + k) by omega]; exact e _ (by omega) (by omega)), c2⟩
theorem CK.on (hc : CK b h Z tk Ek Kk Rk) (e : ∀ k, k = 6 ∨ k = 7 ∨ (520 ≤ k ∧ k < 540) → h' (b + k) = h (b + k)) : CK b h' Z tk Ek Kk Rk := by
  obtain ⟨⟨F, c1, c2⟩, c3, c4, c5⟩ := hc
  refine ⟨⟨F, (e 6 (by omega)).trans c1, c2⟩, (e 7 (by omega)).trans c3, c4, fun k hk => ?_⟩
  obtain ⟨T, q⟩ := c5 k hk
  exact ⟨T, q.cp (fun j hj => by rw [show b + (520 + 5 * k) + j = b + (520 + 5 * k + j) by omega]; exact e _ (by omega))⟩
theorem RS.on (hc : RS b h B J) (e : ∀ k, k = 540 ∨ k = 541 ∨ k = 542 ∨ k = 554 ∨ k = 555 → h' (b + k) = h (b + k)) : RS b h' B J := by
  obtain ⟨⟨i0, i1, i2, i3, i4, i5, i6, c1, c2⟩, c3, c4, c5, c6, ⟨T, c7, c8⟩, H, c9, c10⟩ := hc
  exact ⟨⟨i0, i1, i2, i3, i4, i5, i6, (e 540 (by omega)).trans c1, c2⟩, (e 541 (by omega)).trans c3, (e 542 (by omega)).trans c4, c5, c6, ⟨T, (e 554 (by omega)).trans c7, c8⟩, H, (e 555 (by omega)).trans c9, c10⟩
theorem RK.on (hc : RK b h Zm Kp) (e : ∀ k, k = 543 ∨ k = 544 → h' (b + k) = h (b + k)) : RK b h' Zm Kp := ⟨(e 543 (by omega)).trans hc.1, (e 544 (by omega)).trans hc.2⟩
theorem ST.cb (hs : ST b h t E K R Z tk Ek Kk Rk B J Zm Kp) (ho : okS t E K R) : ∃ T, CB b h t E K R T ∧ bT T := by
  obtain ⟨⟨c1, c2, c3, c4⟩, ⟨T, s1, s2⟩, -⟩ := hs
  exact ⟨T, ⟨c1, c2, c3, c4, s1, ho.1.1, ho.2.1, ho.2.2.1, ho.2.2.2⟩, s2⟩
theorem ST.hx (hs : ST b h t E K R Z tk Ek Kk Rk B J Zm Kp) : ∃ o1 o2 dr, h b = some (bo b o1 o2 dr) := by
  obtain ⟨⟨⟨o1, o2, dr, c1⟩, -⟩, -⟩ := hs
  exact ⟨_, _, _, c1.2.1⟩
theorem ST.hm (hs : ST b h t E K R Z tk Ek Kk Rk B J Zm Kp) : ∃ i0 i1 i2 i3 i4 i5 i6, h (b + 540) = some (mo (b + 540) i0 i1 i2 i3 i4 i5 i6) := by
  obtain ⟨-, -, -, ⟨⟨i0, i1, i2, i3, i4, i5, i6, c1, -⟩, -⟩, -⟩ := hs
  exact ⟨_, _, _, _, _, _, _, c1⟩
theorem ST.rf (hs : ST b h t E K R Z tk Ek Kk Rk B J Zm Kp) {t0 : Int} {E0 K0 R0 : Nat → Int} (ho : okS t0 E0 K0 R0) (hr : REL t0 E0 K0 R0 B J) : ∃ i0 i1 i2 i3 i4 i5 i6, RF b h B J i0 i1 i2 i3 i4 i5 i6 := by
  obtain ⟨-, -, -, ⟨⟨i0, i1, i2, i3, i4, i5, i6, c1, c2, c3, c4, c5⟩, c6, c7, c8, c9, -⟩, -⟩ := hs
  refine ⟨i0, i1, i2, i3, i4, i5, i6, c1, c6, c7, c8, fun v k v1 v2 k1 k2 => ?_, fun v v1 v2 => ?_, c9, c2, c3, c4, c5⟩
  · rw [← hr.2.2.1 v k v1 v2 (by omega) k2]; exact (ho.2.1 v k v1 v2 k1 k2).2
  · have e := hr.2.2.1 v 0 v1 v2 (by omega) (by omega)
    rw [Int.add_zero, Int.add_zero] at e
    rw [← e]; exact (ho.2.2.1 v v1 v2).2
theorem REL.okB (hr : REL t E K R B J) (hb : bB B) (ho : okE t E) : okB B := by
  refine ⟨hb, fun v hv x x0 x1 => ?_⟩
  have e1 := hr.2.1 v (2 * x) hv.1.1 hv.1.2 (by omega) (by omega)
  have e2 := hr.2.1 v (2 * x + 1) hv.1.1 hv.1.2 (by omega) (by omega)
  rw [show 11 * v + 1 + (2 * x + 1) = 11 * v + 2 + 2 * x by omega, show v * 6 + (2 * x + 1) = v * 6 + 2 * x + 1 by omega] at e2
  rw [← e1, ← e2]
  exact ho.2 v ((hr.r_isT v).mpr hv) x x0 x1
theorem REL.cg (hr : REL t E K R B J) {E' K' R' B' J' : Nat → Int} (h1 : ∀ j, j < 144 → E' j = E j) (h2 : ∀ j, j < 96 → K' j = K j) (h3 : ∀ j, j < 64 → R' j = R j) (h4 : ∀ j, j < 264 → B' j = B j) (h5 : ∀ j, j < 64 → J' j = J j) : REL t E' K' R' B' J' := by
  refine ⟨fun v v0 v1 => ?_, fun v k v0 v1 k0 k1 => ?_, fun v k v0 v1 k0 k1 => ?_, fun j hj => ?_⟩
  · rw [h4 _ (by omega)]; exact hr.1 v v0 v1
  · rw [h1 _ (by omega), h4 _ (by omega)]; exact hr.2.1 v k v0 v1 k0 k1
  · rw [h2 _ (by omega), h4 _ (by omega)]; exact hr.2.2.1 v k v0 v1 k0 k1
  · rw [h3 j hj, h5 j hj]; exact hr.2.2.2 j hj
theorem okS.cg (ho : okS t E K R) {E' K' R' : Nat → Int} (hE : ∀ j, 0 ≤ E' j ∧ E' j ≤ 32) (hR : ∀ j, -2147483648 ≤ R' j ∧ R' j ≤ 2147483647) (h1 : ∀ j, j < 144 → E' j = E j) (h2 : ∀ j, j < 96 → K' j = K j) : okS t E' K' R' := by
  refine ⟨⟨hE, fun v hv x x0 x1 => ?_⟩, fun v k v0 v1 k0 k1 => ?_, fun v v0 v1 => ?_, hR⟩
  · have q := hv.1
    rw [h1 _ (by omega), h1 _ (by omega)]; exact ho.1.2 v hv x x0 x1
  · rw [h2 _ (by omega)]; exact ho.2.1 v k v0 v1 k0 k1
  · rw [h2 _ (by omega)]; exact ho.2.2.1 v v0 v1
/-- a call that changes nothing that is known, but the stage's own cells -/
theorem ST.wc (hs : ST b h t E K R Z tk Ek Kk Rk B J Zm Kp) {g : yH} {T : Nat → Int} (hb : SB b h g) (hc : CB b g t E K R T) (hT : bT T) (hI : MI b g h') : ST b h' t E K R Z tk Ek Kk Rk B J Zm Kp := by
  obtain ⟨-, -, s3, s4, s5, s6⟩ := hs
  obtain ⟨c1, c2, c3, c4, c5⟩ := hc
  have cc : CC b g := ⟨c1, c2, c3, c4⟩
  refine ⟨cc.on (fun k _ k2 => hI.kn k2), CS.on (h := g) ⟨T, c5.1, hT⟩ (fun k k1 k2 => hI.kn (rTb_lo (by omega))), s3.on (fun k hk => ?_), s4.on (fun k hk => ?_), s5.on (fun k hk => ?_), hI.self⟩
  · rw [hI.kn (by rcases hk with rfl | rfl | hk; (exact rTb_lo (by omega)); (exact rTb_lo (by omega)); exact rTb_kp hk.1 hk.2)]
    exact hb _ (by omega) (by omega) (by omega) (by omega) (by omega) (by omega)
  · rw [hI.kn (rTb_m5 (by omega) (by omega))]
    exact hb _ (by omega) (by omega) (by omega) (by omega) (by omega) (by omega)
  · rw [hI.kn (rTb_m5 (by omega) (by omega))]
    exact hb _ (by omega) (by omega) (by omega) (by omega) (by omega) (by omega)
theorem ST.wm (hs : ST b h t E K R Z tk Ek Kk Rk B J Zm Kp) {g : yH} {i0 i1 i2 i3 i4 i5 i6 : Int} (hb : SM b h g) (hf : RF b g B J i0 i1 i2 i3 i4 i5 i6) (hI : MI b g h') : ST b h' t E K R Z tk Ek Kk Rk B J Zm Kp := by
  obtain ⟨s1, s2, s3, ⟨-, r1, r2, r3, r4, ⟨T, r5, r6⟩, H, r7, r8⟩, s5, s6⟩ := hs
  have e : ∀ k, k ≠ 540 → rTb k = none → h' (b + k) = h (b + k) := fun k k1 k2 => (hI.kn k2).trans (hb _ (by omega))
  refine ⟨s1.on (fun k k1 k2 => e k (by omega) k2), s2.on (fun k k1 k2 => e k (by omega) (rTb_lo (by omega))), s3.on (fun k hk => e k (by omega) (by rcases hk with rfl | rfl | hk; (exact rTb_lo (by omega)); (exact rTb_lo (by omega)); exact rTb_kp hk.1 hk.2)), ⟨⟨i0, i1, i2, i3, i4, i5, i6, (hI.kn (rTb_m5 (by omega) (by omega))).trans hf.1, hf.2.2.2.2.2.2.2⟩, (e _ (by omega) (rTb_m5 (by omega) (by omega))).trans r1, (e _ (by omega) (rTb_m5 (by omega) (by omega))).trans r2, r3, r4, ⟨T, (e _ (by omega) (rTb_m5 (by omega) (by omega))).trans r5, r6⟩, H, (e _ (by omega) (rTb_m5 (by omega) (by omega))).trans r7, r8⟩, s5.on (fun k hk => e k (by omega) (rTb_m5 (by omega) (by omega))), hI.self⟩
/-- the scene of the class has changed -/
theorem ST.sc (hs : ST b h t E K R Z tk Ek Kk Rk B J Zm Kp) {t' : Int} {E' K' R' T' : Nat → Int} (hS : SC h' (b + 1) t' E' K' R' T') (hT : bT T') (hf : ∀ q, q < b + 1 ∨ b + 6 ≤ q → h' q = h q) : ST b h' t' E' K' R' Z tk Ek Kk Rk B J Zm Kp := by
  obtain ⟨s1, s2, s3, s4, s5, s6⟩ := hs
  refine ⟨s1.on (fun k hk _ => hf _ (by omega)), ⟨T', hS, hT⟩, s3.on (fun k hk => hf _ (by omega)), s4.on (fun k hk => hf _ (by omega)), s5.on (fun k hk => hf _ (by omega)), s6.on (fun k c hk => hf _ ?_)⟩
  have : ¬ k < 9 := fun q => by rw [rTb_lo q] at hk; cases hk
  omega
/-- the rows of the reference have changed -/
theorem ST.rs (hs : ST b h t E K R Z tk Ek Kk Rk B J Zm Kp) {B' J' T' H' : Nat → Int} (h1 : h' (b + 541) = some (ai 264 B')) (b1 : bB B') (h2 : h' (b + 542) = some (ai 64 J')) (b2 : bJ J') (h3 : h' (b + 554) = some (ai 6 T')) (b3 : bT T') (h4 : h' (b + 555) = some (ai 24 H')) (b4 : bH H') (hf : ∀ q, q ≠ b + 541 → q ≠ b + 542 → q ≠ b + 554 → q ≠ b + 555 → h' q = h q) : ST b h' t E K R Z tk Ek Kk Rk B' J' Zm Kp := by
  obtain ⟨s1, s2, s3, ⟨⟨i0, i1, i2, i3, i4, i5, i6, r1, r2⟩, -⟩, s5, s6⟩ := hs
  refine ⟨s1.on (fun k hk _ => hf _ (by omega) (by omega) (by omega) (by omega)), s2.on (fun k k1 k2 => hf _ (by omega) (by omega) (by omega) (by omega)), s3.on (fun k hk => hf _ (by omega) (by omega) (by omega) (by omega)), ⟨⟨i0, i1, i2, i3, i4, i5, i6, (hf _ (by omega) (by omega) (by omega) (by omega)).trans r1, r2⟩, h1, h2, b1, b2, ⟨T', h3, b3⟩, H', h4, b4⟩, s5.on (fun k hk => hf _ (by omega) (by omega) (by omega) (by omega)), s6.on (fun k c hk => ?_)⟩
  have q : ∀ j, 540 ≤ j → (j < 545 ∨ 554 ≤ j) → k ≠ j := fun j j1 j2 e => by rw [e, rTb_m5 j1 j2] at hk; cases hk
  have q1 := q 541 (by omega) (by omega)
  have q2 := q 542 (by omega) (by omega)
  have q3 := q 554 (by omega) (by omega)
  have q4 := q 555 (by omega) (by omega)
  exact hf _ (by omega) (by omega) (by omega) (by omega)
end C75
/-- a pair of calls: first the class's, then the reference's, with the same arguments; C holds of their answers -/
def PR (l : Launch) (G : xG) (Mx Mm : xM) (dx dm : Nat) (av : List xV) (b : Nat) (h : yH) (n : Nat) (C : Int → Int → Prop) : Prop := YM l G Mx dx 0 0 (vr b :: av) h n (fun r h1 n1 => n1 = n ∧ ∃ z, r = some (vi z) ∧ (∃ fs, h1 (b + 540) = some (ob 7 fs)) ∧ YM l G Mm dm 0 0 (vr (b + 540) :: av) h1 n (fun r2 h2 n2 => n2 = n ∧ INV b h2 ∧ ∃ z2, r2 = some (vi z2) ∧ C z z2))
theorem INV.hx {b : Nat} {h : yH} (hi : INV b h) : ∃ fs, h b = some (ob 6 fs) := by
  obtain ⟨t, E, K, R, Z, tk, Ek, Kk, Rk, B, J, Kp, hs, -⟩ := hi
  obtain ⟨o1, o2, dr, e⟩ := hs.hx
  exact ⟨_, e⟩
end
section
/-! the pairs whose answers no one compares here: they return, and what holds between two calls holds again -/
section C76
variable {l : Launch} {G : xG} {h : yH} {n b : Nat}
theorem PR.weak (hi : INV b h) {Mx Mm : xM} {dx dm : Nat} {av : List xV} {lo hi' : Int} (hx : ∀ (t : Int) (E K R T : Nat → Int), CB b h t E K R T → MI b h h → YM l G Mx dx 0 0 (vr b :: av) h n (PB b h n t E K R T)) (hm : ∀ (h1 : yH) (B J : Nat → Int) (i0 i1 i2 i3 i4 i5 i6 : Int), RF b h1 B J i0 i1 i2 i3 i4 i5 i6 → MI b h1 h1 → YM l G Mm dm 0 0 (vr (b + 540) :: av) h1 n (PZ b h1 n lo hi')) : PR l G Mx Mm dx dm av b h n (fun _ _ => True) := by
  obtain ⟨t, E, K, R, Z, tk, Ek, Kk, Rk, B, J, Kp, hs, ho, hr, hk⟩ := hi
  obtain ⟨T, hc, hT⟩ := hs.cb ho
  refine (hx t E K R T hc hs.2.2.2.2.2).imp (fun r h1 n1 q => ?_)
  obtain ⟨g, z, rfl, q1, q2, q3, rfl⟩ := q
  have hs1 := hs.wc q1 q2 hT q3
  obtain ⟨i0, i1, i2, i3, i4, i5, i6, hf⟩ := hs1.rf ho hr
  refine ⟨rfl, z, rfl, ⟨_, hf.1⟩, (hm h1 B J i0 i1 i2 i3 i4 i5 i6 hf hs1.2.2.2.2.2).imp (fun r2 h2 n2 w => ?_)⟩
  obtain ⟨z2, rfl, -, -, w1, rfl⟩ := w
  exact ⟨rfl, ⟨t, E, K, R, Z, tk, Ek, Kk, Rk, B, J, Kp, hs1.wm (fun _ _ => rfl) hf w1, ho, hr, hk⟩, z2, rfl, trivial⟩
theorem PR.weakD (hi : INV b h) {Mx Mm : xM} {dx dm : Nat} {av : List xV} {lo hi' : Int} (hx : ∀ (t : Int) (E K R T : Nat → Int), CB b h t E K R T → MI b h h → YM l G Mx dx 0 0 (vr b :: av) h n (PB b h n t E K R T)) (hm : ∀ (h1 : yH) (B J : Nat → Int) (i0 i1 i2 i3 i4 i5 i6 : Int), RF b h1 B J i0 i1 i2 i3 i4 i5 i6 → MI b h1 h1 → YM l G Mm dm 0 0 (vr (b + 540) :: av) h1 n (PGz b h1 n B J lo hi')) : PR l G Mx Mm dx dm av b h n (fun _ _ => True) := by
  obtain ⟨t, E, K, R, Z, tk, Ek, Kk, Rk, B, J, Kp, hs, ho, hr, hk⟩ := hi
  obtain ⟨T, hc, hT⟩ := hs.cb ho
  refine (hx t E K R T hc hs.2.2.2.2.2).imp (fun r h1 n1 q => ?_)
  obtain ⟨g, z, rfl, q1, q2, q3, rfl⟩ := q
  have hs1 := hs.wc q1 q2 hT q3
  obtain ⟨i0, i1, i2, i3, i4, i5, i6, hf⟩ := hs1.rf ho hr
  refine ⟨rfl, z, rfl, ⟨_, hf.1⟩, (hm h1 B J i0 i1 i2 i3 i4 i5 i6 hf hs1.2.2.2.2.2).imp (fun r2 h2 n2 w => ?_)⟩
  obtain ⟨g', k0, k1, k2, k3, k4, k5, k6, ⟨z2, rfl⟩, w1, w2, -, -, w3, rfl⟩ := w
  exact ⟨rfl, ⟨t, E, K, R, Z, tk, Ek, Kk, Rk, B, J, Kp, hs1.wm w1 w2 w3, ho, hr, hk⟩, z2, rfl, trivial⟩
theorem pr_draw (hi : INV b h) : PR l G mX6_draw mX7_draw 6 4 [] b h n (fun _ _ => True) := PR.weakD hi (fun _ _ _ _ _ hc hI => w_draw hc hI) (fun _ _ _ _ _ _ _ _ _ _ hf hI => w_mdraw hf hI)
theorem pr_piece (hi : INV b h) {p q : Int} (hp : inI p) (hq : inI q) : PR l G mX6_piece mX7_piece 1 1 [vi p, vi q] b h n (fun _ _ => True) := PR.weak hi (fun _ _ _ _ _ hc hI => w_piece hc hp.1 hp.2 hq.1 hq.2 hI) (fun _ _ _ _ _ _ _ _ _ _ hf hI => w_mpiece hf hp.1 hp.2 hq.1 hq.2 hI)
theorem pr_pixel (hi : INV b h) {p q r : Int} (hp : inI p) (hq : inI q) (hr : inI r) : PR l G mX6_pixel mX7_pixel 1 2 [vi p, vi q, vi r] b h n (fun _ _ => True) := PR.weak hi (fun _ _ _ _ _ hc hI => w_pixel hc hp.1 hp.2 hq.1 hq.2 hr.1 hr.2 hI) (fun _ _ _ _ _ _ _ _ _ _ hf hI => w_mpixel hf hp.1 hp.2 hq.1 hq.2 hr.1 hr.2 hI)
theorem pr_seen (hi : INV b h) {p : Int} (hp : inI p) : PR l G mX6_seen mX7_seen 1 0 [vi p] b h n (fun _ _ => True) := PR.weak hi (fun _ _ _ _ _ hc hI => w_seen hc hp.1 hp.2 hI) (fun _ _ _ _ _ _ _ _ _ _ hf hI => w_mseen hf hp.1 hp.2 hI)
theorem pr_changed (hi : INV b h) {p : Int} (hp : inI p) : PR l G mX6_changed mX7_changed 1 1 [vi p] b h n (fun _ _ => True) := PR.weak hi (fun _ _ _ _ _ hc hI => w_changed hc hp.1 hp.2 hI) (fun _ _ _ _ _ _ _ _ _ _ hf hI => w_mchanged hf hp.1 hp.2 hI)
theorem pr_count (hi : INV b h) {p : Int} (hp : inI p) : PR l G mX6_count mX7_count 2 2 [vi p] b h n (fun _ _ => True) := PR.weak hi (fun _ _ _ _ _ hc hI => w_count hc hp.1 hp.2 hI) (fun _ _ _ _ _ _ _ _ _ _ hf hI => w_mcount hf hp.1 hp.2 hI)
theorem pr_covers (hi : INV b h) {p q : Int} (hp : inI p) (hq : inI q) : PR l G mX6_covers mX7_covers 3 3 [vi p, vi q] b h n (fun _ _ => True) := PR.weak hi (fun _ _ _ _ _ hc hI => w_covers hc hp.1 hp.2 hq.1 hq.2 hI) (fun _ _ _ _ _ _ _ _ _ _ hf hI => w_mcovers hf hp.1 hp.2 hq.1 hq.2 hI)
theorem pr_tangled (hi : INV b h) {p : Int} (hp : inI p) : PR l G mX6_tangled mX7_tangled 4 4 [vi p] b h n (fun _ _ => True) := PR.weak hi (fun _ _ _ _ _ hc hI => w_tangled hc hp.1 hp.2 hI) (fun _ _ _ _ _ _ _ _ _ _ hf hI => w_mtangled hf hp.1 hp.2 hI)
theorem pr_under (hi : INV b h) {p q r : Int} (hp : inI p) (hq : inI q) (hr : inI r) : PR l G mX6_under mX7_under 3 3 [vi p, vi q, vi r] b h n (fun _ _ => True) := PR.weak hi (fun _ _ _ _ _ hc hI => w_under hc hp.1 hp.2 hq.1 hq.2 hr.1 hr.2 hI) (fun _ _ _ _ _ _ _ _ _ _ hf hI => w_munder hf hp.1 hp.2 hq.1 hq.2 hr.1 hr.2 hI)
end C76
end
section
/-! the pairs whose answers agree -/
section C77
variable {l : Launch} {G : xG} {h h' : yH} {n b : Nat} {t : Int} {E K R Z tk B J Zm Kp : Nat → Int} {Ek Kk Rk : Nat → Nat → Int}
theorem ST.rr (hs : ST b h t E K R Z tk Ek Kk Rk B J Zm Kp) : ∃ i0 i1 i2 i3 i4 i5 i6 T H, h (b + 540) = some (mo (b + 540) i0 i1 i2 i3 i4 i5 i6) ∧ h (b + 540 + 1) = some (ai 264 B) ∧ h (b + 540 + 2) = some (ai 64 J) ∧ bB B ∧ bJ J ∧ h (b + 540 + 14) = some (ai 6 T) ∧ bT T ∧ h (b + 540 + 15) = some (ai 24 H) ∧ bH H := by
  obtain ⟨-, -, -, ⟨⟨i0, i1, i2, i3, i4, i5, i6, c1, -⟩, c3, c4, c5, c6, ⟨T, c7, c8⟩, H, c9, c10⟩, -⟩ := hs
  exact ⟨i0, i1, i2, i3, i4, i5, i6, T, H, c1, c3, c4, c5, c6, c7, c8, c9, c10⟩
theorem ST.uB (hs : ST b h t E K R Z tk Ek Kk Rk B J Zm Kp) {B' : Nat → Int} (b1 : bB B') : ST b (yup h (b + 540 + 1) (ai 264 B')) t E K R Z tk Ek Kk Rk B' J Zm Kp := by
  obtain ⟨i0, i1, i2, i3, i4, i5, i6, T, H, r1, r2, r3, r4, r5, r6, r7, r8, r9⟩ := hs.rr
  exact hs.rs (yup_eq _ _ _) b1 ((yup_ne _ _ (by omega)).trans r3) r5 ((yup_ne _ _ (by omega)).trans r6) r7 ((yup_ne _ _ (by omega)).trans r8) r9 (fun q q1 _ _ _ => yup_ne _ _ q1)
theorem ST.uJ (hs : ST b h t E K R Z tk Ek Kk Rk B J Zm Kp) {J' : Nat → Int} (b1 : bJ J') : ST b (yup h (b + 540 + 2) (ai 64 J')) t E K R Z tk Ek Kk Rk B J' Zm Kp := by
  obtain ⟨i0, i1, i2, i3, i4, i5, i6, T, H, r1, r2, r3, r4, r5, r6, r7, r8, r9⟩ := hs.rr
  exact hs.rs ((yup_ne _ _ (by omega)).trans r2) r4 (yup_eq _ _ _) b1 ((yup_ne _ _ (by omega)).trans r6) r7 ((yup_ne _ _ (by omega)).trans r8) r9 (fun q _ q1 _ _ => yup_ne _ _ q1)
theorem ST.uT (hs : ST b h t E K R Z tk Ek Kk Rk B J Zm Kp) {T' : Nat → Int} (b1 : bT T') : ST b (yup h (b + 540 + 14) (ai 6 T')) t E K R Z tk Ek Kk Rk B J Zm Kp := by
  obtain ⟨i0, i1, i2, i3, i4, i5, i6, T, H, r1, r2, r3, r4, r5, r6, r7, r8, r9⟩ := hs.rr
  exact hs.rs ((yup_ne _ _ (by omega)).trans r2) r4 ((yup_ne _ _ (by omega)).trans r3) r5 (yup_eq _ _ _) b1 ((yup_ne _ _ (by omega)).trans r8) r9 (fun q _ _ q1 _ => yup_ne _ _ q1)
theorem bB.smm (hb : bB B) : ∀ j, sm (B j) := fun j => by have := hb j; unfold sm; omega
theorem bB.up (hb : bB B) (k : Nat) {x : Int} (h1 : 0 ≤ x) (h2 : x ≤ 32) : bB (upZ B k x) := upZ_all (P := fun x => 0 ≤ x ∧ x ≤ 32) hb k ⟨h1, h2⟩
/-- fewer boxes are there -/
theorem okE.less (ho : okE t E) {t' : Int} (hl : ∀ v, isT t' v → isT t v) : okE t' E := ⟨ho.1, fun v hv => ho.2 v (hl v hv)⟩
theorem pr_lift (hi : INV b h) {v : Int} (hv : inI v) : PR l G mX6_lift mX7_lift 2 2 [vi v] b h n (fun z z2 => z = z2) := by
  obtain ⟨t, E, K, R, Z, tk, Ek, Kk, Rk, B, J, Kp, hs, ho, hr, hk⟩ := hi
  obtain ⟨o1, o2, dr, hx⟩ := hs.hx
  obtain ⟨T, sc, hT⟩ := hs.2.1
  refine (c_lift hx sc hv).imp (fun r h1 n1 q => ?_)
  obtain ⟨q, rfl⟩ := q
  rcases q with ⟨q1, rfl, rfl⟩ | ⟨q1, rfl, q2, q3⟩
  · obtain ⟨i0, i1, i2, i3, i4, i5, i6, T', H, r1, r2, r3, r4, r5, r6, r7, r8, r9⟩ := hs.rr
    refine ⟨rfl, _, rfl, ⟨_, r1⟩, (c_mlift r1 r2 r4.smm hv).imp (fun r2 h2 n2 w => ?_)⟩
    obtain ⟨w, rfl⟩ := w
    rcases w with ⟨w1, rfl, rfl⟩ | ⟨w1, -⟩
    · exact ⟨rfl, ⟨t, E, K, R, Z, tk, Ek, Kk, Rk, B, J, Kp, hs, ho, hr, hk⟩, _, rfl, rfl⟩
    · exact absurd ((hr.r_isT v).mpr w1) q1
  · have hs1 := hs.sc q2 hT (fun q hq => q3 q (by omega))
    obtain ⟨i0, i1, i2, i3, i4, i5, i6, T', H, r1, r2, r3, r4, r5, r6, r7, r8, r9⟩ := hs1.rr
    refine ⟨rfl, _, rfl, ⟨_, r1⟩, (c_mlift r1 r2 r4.smm hv).imp (fun r2 h2 n2 w => ?_)⟩
    obtain ⟨w, rfl⟩ := w
    rcases w with ⟨w1, -⟩ | ⟨w1, rfl, rfl⟩
    · exact absurd ((hr.r_isT v).mp q1) w1
    · refine ⟨rfl, ⟨_, E, K, R, Z, tk, Ek, Kk, Rk, _, J, Kp, hs1.uB (r4.up _ (by omega) (by omega)), ⟨ho.1.less (fun v' hv' => ?_), ho.2⟩, hr.r_lift q1.1.1 q1.1.2, hk⟩, _, rfl, rfl⟩
      have q := hv'.2
      rw [tbt_and, Bool.and_eq_true] at q
      exact ⟨hv'.1, q.1⟩
theorem pr_paint (hi : INV b h) {v c p q u : Int} (hv : inI v) (hc : inI c) (hp : inI p) (hq : inI q) (hu : inI u) : PR l G mX6_paint mX7_paint 2 2 [vi v, vi c, vi p, vi q, vi u] b h n (fun z z2 => z = z2) := by
  obtain ⟨t, E, K, R, Z, tk, Ek, Kk, Rk, B, J, Kp, hs, ho, hr, hk⟩ := hi
  obtain ⟨o1, o2, dr, hx⟩ := hs.hx
  obtain ⟨T, sc, hT⟩ := hs.2.1
  refine (c_paint hx sc hv hc hp hq hu).imp (fun r h1 n1 q => ?_)
  obtain ⟨q, rfl⟩ := q
  rcases q with ⟨q1, rfl, rfl⟩ | ⟨q1, rfl, q2, q3⟩
  · obtain ⟨i0, i1, i2, i3, i4, i5, i6, T', H, r1, r2, r3, r4, r5, r6, r7, r8, r9⟩ := hs.rr
    refine ⟨rfl, _, rfl, ⟨_, r1⟩, (c_mpaint r1 r2 r4.smm hv hc hp hq hu).imp (fun r2 h2 n2 w => ?_)⟩
    obtain ⟨w, rfl⟩ := w
    rcases w with ⟨w1, rfl, rfl⟩ | ⟨w1, -⟩
    · exact ⟨rfl, ⟨t, E, K, R, Z, tk, Ek, Kk, Rk, B, J, Kp, hs, ho, hr, hk⟩, _, rfl, rfl⟩
    · exact absurd ⟨(hr.r_isT v).mpr w1.1, w1.2⟩ q1
  · have hs1 := hs.sc q2 hT (fun q hq => q3 q (by omega))
    obtain ⟨i0, i1, i2, i3, i4, i5, i6, T', H, r1, r2, r3, r4, r5, r6, r7, r8, r9⟩ := hs1.rr
    refine ⟨rfl, _, rfl, ⟨_, r1⟩, (c_mpaint r1 r2 r4.smm hv hc hp hq hu).imp (fun r2 h2 n2 w => ?_)⟩
    obtain ⟨w, rfl⟩ := w
    rcases w with ⟨w1, -⟩ | ⟨w1, rfl, rfl⟩
    · exact absurd ⟨(hr.r_isT v).mp q1.1, q1.2⟩ w1
    · obtain ⟨p1, p2, p3, p4, p5⟩ := q1
      refine ⟨rfl, ⟨_, E, _, R, Z, tk, Ek, Kk, Rk, _, J, Kp, hs1.uB ((((r4.up _ (by omega) (by omega)).up _ (by omega) (by omega)).up _ (by omega) (by omega)).up _ (by omega) (by omega)), ⟨ho.1, fun v' k v0 v1 k0 k1 => ?_, fun v' v0 v1 => ?_, ho.2.2.2⟩, hr.r_paint p1.1.1 p1.1.2, hk⟩, _, rfl, rfl⟩
      · have o := ho.2.1 v' k v0 v1 k0 k1
        unfold lkS upZ
        repeat' split
        all_goals first | omega | exact o
      · have o := ho.2.2.1 v' v0 v1
        have p6 := p1.1
        unfold lkS upZ
        rw [if_neg (by omega), if_neg (by omega), if_neg (by omega)]
        split
        · omega
        · exact o
theorem pr_ink (hi : INV b h) {p r w : Int} (hp : inI p) (hr0 : inI r) : PR l G mX6_ink mX7_ink 1 1 [vi p, vi r, vi w] b h n (fun z z2 => z = z2) := by
  obtain ⟨t, E, K, R, Z, tk, Ek, Kk, Rk, B, J, Kp, hs, ho, hr, hk⟩ := hi
  obtain ⟨o1, o2, dr, hx⟩ := hs.hx
  obtain ⟨T, sc, hT⟩ := hs.2.1
  refine (c_ink hx sc hp hr0).imp (fun r h1 n1 q => ?_)
  obtain ⟨q, rfl⟩ := q
  rcases q with ⟨q1, rfl, rfl⟩ | ⟨q1, rfl, q2, q3⟩
  · obtain ⟨i0, i1, i2, i3, i4, i5, i6, T', H, r1, r2, r3, r4, r5, r6, r7, r8, r9⟩ := hs.rr
    refine ⟨rfl, _, rfl, ⟨_, r1⟩, (c_mink r1 r3 hp hr0).imp (fun r2 h2 n2 w => ?_)⟩
    obtain ⟨w, rfl⟩ := w
    rcases w with ⟨w1, rfl, rfl⟩ | ⟨w1, -⟩
    · exact ⟨rfl, ⟨t, E, K, R, Z, tk, Ek, Kk, Rk, B, J, Kp, hs, ho, hr, hk⟩, _, rfl, rfl⟩
    · exact absurd w1 q1
  · have hs1 := hs.sc q2 hT (fun q hq => q3 q (by omega))
    obtain ⟨i0, i1, i2, i3, i4, i5, i6, T', H, r1, r2, r3, r4, r5, r6, r7, r8, r9⟩ := hs1.rr
    refine ⟨rfl, _, rfl, ⟨_, r1⟩, (c_mink r1 r3 hp hr0).imp (fun r2 h2 n2 w => ?_)⟩
    obtain ⟨w, rfl⟩ := w
    rcases w with ⟨w1, -⟩ | ⟨w1, rfl, rfl⟩
    · exact absurd q1 w1
    · exact ⟨rfl, ⟨_, E, K, _, Z, tk, Ek, Kk, Rk, B, _, Kp, hs1.uJ (upZ_all (P := fun x => -2147483648 ≤ x ∧ x ≤ 2147483647) r5 _ (by omega)), ⟨ho.1, ho.2.1, ho.2.2.1, upZ_all (P := fun x => -2147483648 ≤ x ∧ x ≤ 2147483647) ho.2.2.2 _ (by omega)⟩, hr.r_ink q1.1.1 q1.1.2 q1.2.1 q1.2.2, hk⟩, _, rfl, rfl⟩
theorem pr_box (hi : INV b h) {v wh : Int} (hv : inI v) (hw : inI wh) : PR l G mX6_box mX7_box 2 2 [vi v, vi wh] b h n (fun z z2 => z = z2) := by
  obtain ⟨t, E, K, R, Z, tk, Ek, Kk, Rk, B, J, Kp, hs, ho, hr, hk⟩ := hi
  obtain ⟨o1, o2, dr, hx⟩ := hs.hx
  obtain ⟨T, sc, hT⟩ := hs.2.1
  refine (c_box hx sc hv hw).imp (fun r h1 n1 q => ?_)
  obtain ⟨q, rfl, rfl⟩ := q
  obtain ⟨i0, i1, i2, i3, i4, i5, i6, T', H, r1, r2, r3, r4, r5, r6, r7, r8, r9⟩ := hs.rr
  have hq : ∃ z, r = some (vi z) ∧ ((mT B v ∧ (0 ≤ wh ∧ wh < 10) ∧ z = B (11 * v + 1 + wh).toNat) ∨ (¬ (mT B v ∧ (0 ≤ wh ∧ wh < 10)) ∧ z = -1)) := by
    rcases q with ⟨q1, q2⟩ | ⟨q1, q2⟩
    · have m1 := (hr.r_isT v).mp q1
      rcases q2 with ⟨p1, p2, p3⟩ | ⟨p1, p2, p3⟩ | ⟨p1, p2⟩
      · exact ⟨_, p3, Or.inl ⟨m1, ⟨p1, by omega⟩, hr.2.1 v wh q1.1.1 q1.1.2 p1 p2⟩⟩
      · have e := hr.2.2.1 v (wh - 6) q1.1.1 q1.1.2 (by omega) (by omega)
        rw [show v * 4 + (wh - 6) = v * 4 + wh - 6 by omega, show 11 * v + 7 + (wh - 6) = 11 * v + 1 + wh by omega] at e
        exact ⟨_, p3, Or.inl ⟨m1, ⟨by omega, p2⟩, e⟩⟩
      · exact ⟨_, p2, Or.inr ⟨fun z => p1 z.2, rfl⟩⟩
    · exact ⟨_, q2, Or.inr ⟨fun z => q1 ((hr.r_isT v).mpr z.1), rfl⟩⟩
  obtain ⟨z, rfl, hz⟩ := hq
  refine ⟨rfl, z, rfl, ⟨_, r1⟩, (c_mbox r1 r2 r4.smm hv hw).imp (fun r2 h2 n2 w => ?_)⟩
  obtain ⟨w, rfl, rfl⟩ := w
  have fin : INV b h2 := ⟨t, E, K, R, Z, tk, Ek, Kk, Rk, B, J, Kp, hs, ho, hr, hk⟩
  rcases w with ⟨w1, w2, rfl⟩ | ⟨w1, rfl⟩
  · rcases hz with ⟨z1, z2, z3⟩ | ⟨z1, z2⟩
    · exact ⟨rfl, fin, _, rfl, z3⟩
    · exact absurd ⟨w1, w2⟩ z1
  · rcases hz with ⟨z1, z2, z3⟩ | ⟨z1, z2⟩
    · exact absurd ⟨z1, z2⟩ w1
    · exact ⟨rfl, fin, _, rfl, z2⟩
theorem pr_slide (hi : INV b h) {v x M : Int} (hv : inI v) (hx0 : inI x) (hM : inI M) : PR l G mX6_slide mX7_slide 4 4 [vi v, vi x, vi M] b h n (fun z z2 => z = z2) := by
  obtain ⟨t, E, K, R, Z, tk, Ek, Kk, Rk, B, J, Kp, hs, ho, hr, hk⟩ := hi
  obtain ⟨o1, o2, dr, hx⟩ := hs.hx
  obtain ⟨T, sc, hT⟩ := hs.2.1
  refine (c_slide hx sc hv hx0 hM ho.1.1 hT (fun v hv x h1 h2 => by have := ho.1.2 v hv x h1 h2; omega)).imp (fun r h1 n1 q => ?_)
  obtain ⟨q, rfl⟩ := q
  rcases q with ⟨q1, rfl, rfl⟩ | ⟨q1, w, T1, rfl, q2, q3, q4, q5⟩
  · obtain ⟨i0, i1, i2, i3, i4, i5, i6, T', H, r1, r2, r3, r4, r5, r6, r7, r8, r9⟩ := hs.rr
    have hB := hr.okB r4 ho.1
    refine ⟨rfl, _, rfl, ⟨_, r1⟩, (c_mslide r1 r2 r6 r4 r7 (fun v hv x h1 h2 => by have := hB.2 v hv x h1 h2; omega) hv hx0 hM).imp (fun r2 h2 n2 w => ?_)⟩
    obtain ⟨w, rfl⟩ := w
    rcases w with ⟨w1, rfl, rfl⟩ | ⟨w1, -⟩
    · exact ⟨rfl, ⟨t, E, K, R, Z, tk, Ek, Kk, Rk, B, J, Kp, hs, ho, hr, hk⟩, _, rfl, rfl⟩
    · exact absurd ⟨(hr.r_isT v).mpr w1.1, w1.2⟩ q1
  · have hs1 := hs.sc q3 q4 q5
    obtain ⟨i0, i1, i2, i3, i4, i5, i6, T', H, r1, r2, r3, r4, r5, r6, r7, r8, r9⟩ := hs1.rr
    have hB := hr.okB r4 ho.1
    refine ⟨rfl, _, rfl, ⟨_, r1⟩, (c_mslide r1 r2 r6 r4 r7 (fun v hv x h1 h2 => by have := hB.2 v hv x h1 h2; omega) hv hx0 hM).imp (fun r2 h2 n2 y => ?_)⟩
    obtain ⟨y, rfl⟩ := y
    rcases y with ⟨w1, -⟩ | ⟨w1, w', T2, rfl, y1, y2, y3, y4, y5⟩
    · exact absurd ⟨(hr.r_isT v).mp q1.1, q1.2⟩ w1
    · obtain ⟨p1, p2, p3⟩ := q1
      have ax : sAx x = x % 3 := by unfold sAx; split <;> omega
      have a0 : 0 ≤ x % 3 := by omega
      have a1 : x % 3 < 3 := by omega
      rw [ax] at q2 hs1
      have e := went_uniq q2 ((hr.r_went p1.1.1 p1.1.2 a0 a1).mpr y1)
      subst e
      refine ⟨rfl, ⟨t, _, K, R, Z, tk, Ek, Kk, Rk, _, J, Kp, hs1.rs y2 (okB_sh hB w1.1 a0 a1 y1).1 ((y5 _ (by omega) (by omega)).trans r3) r5 y3 y4 ((y5 _ (by omega) (by omega)).trans r8) r9 (fun q k1 _ k3 _ => y5 q k1 k3), ⟨okE_sh ho.1 p1 a0 a1 q2, ho.2⟩, hr.r_sh p1.1.1 p1.1.2 a0 a1, hk⟩, _, rfl, rfl⟩
end C77
end
section
section C78
variable {l : Launch} {G : xG} {h h' : yH} {n b : Nat} {t : Int} {E K R Z tk B J Zm Kp : Nat → Int} {Ek Kk Rk : Nat → Nat → Int}
theorem tr6_bd {T : Nat → Int} {x y z dx dy dz : Int} (h1 : lies x dx) (h2 : lies y dy) (h3 : lies z dz) (j : Nat) (hj : j < 6) : 0 ≤ tr6 T x y z dx dy dz j ∧ tr6 T x y z dx dy dz j ≤ 32 := by
  unfold lies at h1 h2 h3
  unfold tr6 upZ
  repeat' split
  all_goals omega
theorem tr6_T {T : Nat → Int} (hT : bT T) {x y z dx dy dz : Int} (h1 : lies x dx) (h2 : lies y dy) (h3 : lies z dz) : bT (tr6 T x y z dx dy dz) := by
  intro j
  by_cases c : j < 6
  · have := tr6_bd (T := T) h1 h2 h3 j c
    omega
  · have e : tr6 T x y z dx dy dz j = T j := by
      unfold tr6
      rw [upZ_ne _ _ (by omega), upZ_ne _ _ (by omega), upZ_ne _ _ (by omega), upZ_ne _ _ (by omega), upZ_ne _ _ (by omega), upZ_ne _ _ (by omega)]
    rw [e]
    exact hT j
theorem tr6_w {T : Nat → Int} {x y z dx dy dz : Int} (h1 : lies x dx) (h2 : lies y dy) (h3 : lies z dz) (k : Int) (k0 : 0 ≤ k) (k1 : k < 3) : tr6 T x y z dx dy dz (2 * k).toNat < tr6 T x y z dx dy dz (2 * k + 1).toNat := by
  unfold lies at h1 h2 h3
  rcases (show k = 0 ∨ k = 1 ∨ k = 2 by omega) with rfl | rfl | rfl
  · show tr6 T x y z dx dy dz 0 < tr6 T x y z dx dy dz 1
    have e0 : tr6 T x y z dx dy dz 0 = x := rfl
    have e1 : tr6 T x y z dx dy dz 1 = x + dx := rfl
    omega
  · show tr6 T x y z dx dy dz 2 < tr6 T x y z dx dy dz 3
    have e0 : tr6 T x y z dx dy dz 2 = y := rfl
    have e1 : tr6 T x y z dx dy dz 3 = y + dy := rfl
    omega
  · show tr6 T x y z dx dy dz 4 < tr6 T x y z dx dy dz 5
    have e0 : tr6 T x y z dx dy dz 4 = z := rfl
    have e1 : tr6 T x y z dx dy dz 5 = z + dz := rfl
    omega
/-- box v has the ends of the trial -/
theorem okE.place (ho : okE t E) {T : Nat → Int} {v x y z dx dy dz : Int} (v0 : 0 ≤ v) (v1 : v < 24) (h1 : lies x dx) (h2 : lies y dy) (h3 : lies z dz) {t' : Int} (ht : ∀ u, u ≠ v → isT t' u → isT t u) : okE t' (cpZ (tr6 T x y z dx dy dz) E 0 (v * 6).toNat 6) := by
  refine ⟨fun j => ?_, fun u hu k k0 k1 => ?_⟩
  · unfold cpZ
    split
    · exact tr6_bd h1 h2 h3 _ (by omega)
    · exact ho.1 j
  · have u1 := hu.1
    unfold cpZ
    by_cases c : u = v
    · subst c
      rw [if_pos (by omega), if_pos (by omega), show 0 + ((u * 6 + 2 * k).toNat - (u * 6).toNat) = (2 * k).toNat by omega, show 0 + ((u * 6 + 2 * k + 1).toNat - (u * 6).toNat) = (2 * k + 1).toNat by omega]
      exact tr6_w h1 h2 h3 k k0 k1
    · rw [if_neg (by omega), if_neg (by omega)]
      exact ho.2 u (ht u c hu) k k0 k1
theorem bB.place (hb : bB B) {T : Nat → Int} {v x y z dx dy dz : Int} (v0 : 0 ≤ v) (h1 : lies x dx) (h2 : lies y dy) (h3 : lies z dz) : bB (bcp B (tr6 T x y z dx dy dz) v 6) := by
  intro j
  unfold bcp
  split
  · exact tr6_bd h1 h2 h3 _ (by omega)
  · exact hb j
theorem pr_place (hi : INV b h) {v x y z dx dy dz : Int} (hv : inI v) (h1 : inI x) (h2 : inI y) (h3 : inI z) (h4 : inI dx) (h5 : inI dy) (h6 : inI dz) : PR l G mX6_place mX7_place 3 3 [vi v, vi x, vi y, vi z, vi dx, vi dy, vi dz] b h n (fun z z2 => z = z2) := by
  obtain ⟨t, E, K, R, Z, tk, Ek, Kk, Rk, B, J, Kp, hs, ho, hr, hk⟩ := hi
  obtain ⟨o1, o2, dr, hx⟩ := hs.hx
  obtain ⟨T, sc, hT⟩ := hs.2.1
  refine (c_place hx sc hv h1 h2 h3 h4 h5 h6 ho.1.1 hT).imp (fun r g1 n1 q => ?_)
  obtain ⟨q, hf, rfl⟩ := q
  rcases q with ⟨q1, rfl, rfl⟩ | ⟨q1, g, q2, q⟩
  · obtain ⟨i0, i1, i2, i3, i4, i5, i6, T', H, r1, r2, r3, r4, r5, r6, r7, r8, r9⟩ := hs.rr
    refine ⟨rfl, _, rfl, ⟨_, r1⟩, (c_mplace r1 r2 r4.smm r6 r7 hv h1 h2 h3 h4 h5 h6).imp (fun r2 g2 n2 w => ?_)⟩
    obtain ⟨w, rfl⟩ := w
    rcases w with ⟨w1, rfl, rfl⟩ | ⟨w1, -⟩
    · exact ⟨rfl, ⟨t, E, K, R, Z, tk, Ek, Kk, Rk, B, J, Kp, hs, ho, hr, hk⟩, _, rfl, rfl⟩
    · exact absurd w1 q1
  · obtain ⟨⟨v0, v1⟩, l1, l2, l3⟩ := q1
    have uq : ∀ (T' : Nat → Int) (g' : Int), least24 (mway B (tr6 T' x y z dx dy dz) v) g' → g = g' := fun T' g' w => least24_uniq (fun u u0 u1 => hr.r_way (fun j hj => tr6_eq T T' x y z dx dy dz j hj) v u0 u1) q2 w
    rcases q with ⟨q3, rfl, q4⟩ | ⟨q3, rfl, q4⟩
    · have hs1 := hs.sc q4 (tr6_T hT l1 l2 l3) hf
      obtain ⟨i0, i1, i2, i3, i4, i5, i6, T', H, r1, r2, r3, r4, r5, r6, r7, r8, r9⟩ := hs1.rr
      refine ⟨rfl, _, rfl, ⟨_, r1⟩, (c_mplace r1 r2 r4.smm r6 r7 hv h1 h2 h3 h4 h5 h6).imp (fun r2 g2 n2 w => ?_)⟩
      obtain ⟨w, rfl⟩ := w
      rcases w with ⟨w1, -⟩ | ⟨-, g', w2, w⟩
      · exact absurd ⟨⟨v0, v1⟩, l1, l2, l3⟩ w1
      · have e := uq T' g' w2
        subst e
        rcases w with ⟨-, rfl, rfl⟩ | ⟨w3, -⟩
        · exact ⟨rfl, ⟨t, E, K, R, Z, tk, Ek, Kk, Rk, B, J, Kp, hs1.uT (tr6_T r7 l1 l2 l3), ho, hr, hk⟩, _, rfl, rfl⟩
        · exact absurd w3 q3
    · have hs1 := hs.sc q4 (tr6_T hT l1 l2 l3) hf
      obtain ⟨i0, i1, i2, i3, i4, i5, i6, T', H, r1, r2, r3, r4, r5, r6, r7, r8, r9⟩ := hs1.rr
      refine ⟨rfl, _, rfl, ⟨_, r1⟩, (c_mplace r1 r2 r4.smm r6 r7 hv h1 h2 h3 h4 h5 h6).imp (fun r2 g2 n2 w => ?_)⟩
      obtain ⟨w, rfl⟩ := w
      rcases w with ⟨w1, -⟩ | ⟨-, g', w2, w⟩
      · exact absurd ⟨⟨v0, v1⟩, l1, l2, l3⟩ w1
      · have e := uq T' g' w2
        subst e
        have te := fun j (hj : j < 6) => tr6_eq T T' x y z dx dy dz j hj
        rcases w with ⟨w3, -⟩ | ⟨-, rfl, w⟩
        · exact absurd q3 w3
        · rcases w with ⟨w4, rfl⟩ | ⟨w4, rfl⟩
          · have hb : tbt t v.toNat = true := ((hr.r_isT v).mpr w4).2
            rw [if_pos hb, if_pos hb] at hs1
            exact ⟨rfl, ⟨t, _, K, R, Z, tk, Ek, Kk, Rk, _, J, Kp, (hs1.uT (tr6_T r7 l1 l2 l3)).uB ((r4.up _ (by omega) (by omega)).place v0 l1 l2 l3), ⟨ho.1.place v0 v1 l1 l2 l3 (fun u _ hu => hu), ho.2⟩, hr.r_place1 te v0 v1 hb, hk⟩, _, rfl, rfl⟩
          · have hb : ¬ tbt t v.toNat = true := fun q => w4 ((hr.r_isT v).mp ⟨⟨v0, v1⟩, q⟩)
            rw [if_neg hb, if_neg hb] at hs1
            refine ⟨rfl, ⟨_, _, _, R, Z, tk, Ek, Kk, Rk, _, J, Kp, (hs1.uT (tr6_T r7 l1 l2 l3)).uB (bB.place (bB.up (fun j => ?_) _ (by omega) (by omega)) v0 l1 l2 l3), ⟨ho.1.place v0 v1 l1 l2 l3 (fun u hu hu2 => ?_), fun u k u0 u1 k0 k1 => ?_, fun u u0 u1 => ?_, ho.2.2.2⟩, hr.r_place0 te v0 v1, hk⟩, _, rfl, rfl⟩
            · unfold bz
              split
              · omega
              · exact r4 j
            · have q := hu2.2
              have u3 := hu2.1
              rw [tbt_or, tbt_bit v0 (by omega), show decide (u.toNat = v.toNat) = false from decide_eq_false (by omega), Bool.or_false] at q
              exact ⟨hu2.1, q⟩
            · have o := ho.2.1 u k u0 u1 k0 k1
              unfold lk0 upZ
              repeat' split
              all_goals first | omega | exact o
            · have o := ho.2.2.1 u u0 u1
              unfold lk0 upZ
              repeat' split
              all_goals first | omega | exact o
/-- drop: the row of heights changes, too -/
theorem ST.sd (hs : ST b h t E K R Z tk Ek Kk Rk B J Zm Kp) {t' : Int} {E' K' R' T' H' : Nat → Int} (hS : SC h' (b + 1) t' E' K' R' T') (hT : bT T') (hH : h' (b + 19) = some (ai 24 H')) (hHb : bH H') (hf : ∀ q, q < b + 1 ∨ b + 6 ≤ q → q ≠ b + 19 → h' q = h q) : ST b h' t' E' K' R' Z tk Ek Kk Rk B J Zm Kp := by
  obtain ⟨s1, s2, s3, s4, s5, s6⟩ := hs
  refine ⟨s1.on (fun k hk _ => hf _ (by omega) (by omega)), ⟨T', hS, hT⟩, s3.on (fun k hk => hf _ (by omega) (by omega)), s4.on (fun k hk => hf _ (by omega) (by omega)), s5.on (fun k hk => hf _ (by omega) (by omega)), fun k c hk => ?_, fun _ _ => rfl⟩
  by_cases e : k = 19
  · subst e
    have : c = (0, 24, -1, 32) := by
      have : rTb 19 = some (0, 24, -1, 32) := rfl
      rw [this] at hk
      exact (Option.some.inj hk).symm
    subst this
    exact ⟨H', hH, hHb⟩
  · have : ¬ k < 9 := fun q => by rw [rTb_lo q] at hk; cases hk
    rw [hf _ (by omega) (by omega)]
    exact s6.1 k c hk
theorem pr_drop (hi : INV b h) : PR l G mX6_drop mX7_drop 4 5 [] b h n (fun z z2 => z = z2) := by
  obtain ⟨t, E, K, R, Z, tk, Ek, Kk, Rk, B, J, Kp, hs, ho, hr, hk⟩ := hi
  obtain ⟨o1, o2, dr, hx⟩ := hs.hx
  obtain ⟨T, sc, hT⟩ := hs.2.1
  obtain ⟨H, hH, hHb⟩ := hs.2.2.2.2.2.i (k := 19) (N := 24) (lo := -1) (hi := 32) rfl
  refine (c_drop hx sc hH hHb ho.1 hT).imp (fun r g1 n1 q => ?_)
  obtain ⟨T1, H1, rfl, q1, q2, q3, q4, q5, q6, rfl⟩ := q
  have hs1 := hs.sd q3 q2 q4 q5 q6
  obtain ⟨i0, i1, i2, i3, i4, i5, i6, T', H', r1, r2, r3, r4, r5, r6, r7, r8, r9⟩ := hs1.rr
  have hB := hr.okB r4 ho.1
  refine ⟨rfl, _, rfl, ⟨_, r1⟩, (c_mdrop r1 r2 r6 r8 r9 hB r7).imp (fun r2 g2 n2 w => ?_)⟩
  obtain ⟨T2, H2, rfl, w1, -, w2, w3, w4, w5, w6, w7, rfl⟩ := w
  obtain ⟨d1, d2⟩ := hr.r_drop
  exact ⟨rfl, ⟨t, _, K, R, Z, tk, Ek, Kk, Rk, _, J, Kp, hs1.rs w3 w1.1 ((w7 _ (by omega) (by omega) (by omega)).trans r3) r5 w4 w2 w5 w6 (fun q k1 _ k3 k4 => w7 q k1 k3 k4), ⟨q1, ho.2⟩, d1, hk⟩, _, rfl, d2⟩
end C78
end
section
section C79
variable {l : Launch} {G : xG} {h h' : yH} {n b : Nat} {t : Int} {E K R Z tk B J Zm Kp : Nat → Int} {Ek Kk Rk : Nat → Nat → Int}
def upF (F : Nat → Nat → Int) (k : Nat) (X : Nat → Int) : Nat → Nat → Int := fun i => if i = k then X else F i
theorem upF_eq (F : Nat → Nat → Int) (k : Nat) (X : Nat → Int) : upF F k X k = X := by unfold upF; rw [if_pos rfl]
theorem upF_ne (F : Nat → Nat → Int) {k i : Nat} (X : Nat → Int) (hi : i ≠ k) : upF F k X i = F i := by unfold upF; rw [if_neg hi]
/-- a place of the class's kept scenes has changed -/
theorem ST.ck (hs : ST b h t E K R Z tk Ek Kk Rk B J Zm Kp) {k : Nat} (hk : k < 4) {t' : Int} {E' K' R' T' : Nat → Int} (hS : SC h' (b + (520 + 5 * k)) t' E' K' R' T') (hZ : h' (b + 7) = some (az 4 (upZ Z k 1))) (hf : ∀ q, q ≠ b + 7 → q < b + (520 + 5 * k) ∨ b + (520 + 5 * k) + 5 ≤ q → h' q = h q) : ST b h' t E K R (upZ Z k 1) (upZ tk k t') (upF Ek k E') (upF Kk k K') (upF Rk k R') B J Zm Kp := by
  obtain ⟨s1, s2, ⟨⟨F, c1, c2⟩, c3, c4, c5⟩, s4, s5, s6⟩ := hs
  refine ⟨s1.on (fun j hj _ => hf _ (by omega) (by omega)), s2.on (fun j j1 j2 => hf _ (by omega) (by omega)), ⟨⟨F, (hf _ (by omega) (by omega)).trans c1, c2⟩, hZ, upZ_all (P := fun x => x = 0 ∨ x = 1) c4 _ (Or.inr rfl), fun i hi => ?_⟩, s4.on (fun j hj => hf _ (by omega) (by omega)), s5.on (fun j hj => hf _ (by omega) (by omega)), s6.on (fun j c hj => hf _ ?_ ?_)⟩
  · by_cases c : i = k
    · subst c
      rw [upZ_eq, upF_eq, upF_eq, upF_eq]
      exact ⟨T', hS⟩
    · obtain ⟨T, q⟩ := c5 i hi
      rw [upZ_ne _ _ c, upF_ne _ _ c, upF_ne _ _ c, upF_ne _ _ c]
      exact ⟨T, q.cp (fun j hj => hf _ (by omega) (by omega))⟩
  · have : j ≠ 7 := fun e => by rw [e] at hj; cases hj
    omega
  · have : ¬ (520 ≤ j ∧ j < 540) := fun e => by rw [rTb_kp e.1 e.2] at hj; cases hj
    omega
theorem ST.uK (hs : ST b h t E K R Z tk Ek Kk Rk B J Zm Kp) (Kp' Zm' : Nat → Int) : ST b (yup (yup h (b + 540 + 3) (ai 1312 Kp')) (b + 540 + 4) (az 4 Zm')) t E K R Z tk Ek Kk Rk B J Zm' Kp' := by
  obtain ⟨s1, s2, s3, s4, s5, s6⟩ := hs
  have hf : ∀ q, q ≠ b + 543 → q ≠ b + 544 → yup (yup h (b + 540 + 3) (ai 1312 Kp')) (b + 540 + 4) (az 4 Zm') q = h q := fun q q1 q2 => (yup_ne _ _ (by omega)).trans (yup_ne _ _ (by omega))
  refine ⟨s1.on (fun j hj _ => hf _ (by omega) (by omega)), s2.on (fun j j1 j2 => hf _ (by omega) (by omega)), s3.on (fun j hj => hf _ (by omega) (by omega)), s4.on (fun j hj => hf _ (by omega) (by omega)), ⟨(yup_ne _ _ (by omega)).trans (yup_eq _ _ _), yup_eq _ _ _⟩, s6.on (fun j c hj => hf _ ?_ ?_)⟩
  · have : j ≠ 543 := fun e => by rw [e] at hj; cases hj
    omega
  · have : j ≠ 544 := fun e => by rw [e] at hj; cases hj
    omega
theorem cpZ_lt {f g : Nat → Int} {N j : Nat} (hj : j < N) : cpZ f g 0 0 N j = f j := by
  unfold cpZ
  rw [if_pos (by omega)]
  congr 1
  omega
theorem cpZ_all {P : Int → Prop} {f g : Nat → Int} (hf : ∀ j, P (f j)) (hg : ∀ j, P (g j)) (a c N : Nat) : ∀ j, P (cpZ f g a c N j) := fun j => by
  unfold cpZ
  split
  · exact hf _
  · exact hg _
theorem pr_keep (hi : INV b h) {p : Int} (hp : inI p) : PR l G mX6_keep mX7_keep 2 2 [vi p] b h n (fun z z2 => z = z2) := by
  obtain ⟨t, E, K, R, Z, tk, Ek, Kk, Rk, B, J, Kp, hs, ho, hr, hk⟩ := hi
  obtain ⟨o1, o2, dr, hx⟩ := hs.hx
  obtain ⟨T, sc, hT⟩ := hs.2.1
  obtain ⟨⟨F, c1, c2⟩, c3, c4, c5⟩ := hs.2.2.1
  obtain ⟨Tk, hTk⟩ : ∃ Tk, 0 ≤ p → p < 4 → SC h (b + (520 + 5 * p.toNat)) (tk p.toNat) (Ek p.toNat) (Kk p.toNat) (Rk p.toNat) Tk := by
    by_cases c : 0 ≤ p ∧ p < 4
    · obtain ⟨Tk, q⟩ := c5 p.toNat (by omega)
      exact ⟨Tk, fun _ _ => q⟩
    · exact ⟨fun _ => 0, fun a1 a2 => absurd ⟨a1, a2⟩ c⟩
  refine (c_keep hx sc c1 c3 hp (fun a1 a2 => c2 p.toNat (by omega)) hTk (by omega)).imp (fun r h1 n1 q => ?_)
  obtain ⟨q, rfl⟩ := q
  rcases q with ⟨q1, rfl, rfl⟩ | ⟨q1, rfl, q2, q3, q4⟩
  · obtain ⟨i0, i1, i2, i3, i4, i5, i6, T', H, r1, r2, r3, r4, r5, r6, r7, r8, r9⟩ := hs.rr
    refine ⟨rfl, _, rfl, ⟨_, r1⟩, (c_mkeep r1 r2 r3 hs.2.2.2.2.1.1 hs.2.2.2.2.1.2 hp).imp (fun r2 h2 n2 w => ?_)⟩
    obtain ⟨w, rfl⟩ := w
    rcases w with ⟨w1, rfl, rfl⟩ | ⟨w1, -⟩
    · exact ⟨rfl, ⟨t, E, K, R, Z, tk, Ek, Kk, Rk, B, J, Kp, hs, ho, hr, hk⟩, _, rfl, rfl⟩
    · exact absurd w1 q1
  · have hs1 := hs.ck (k := p.toNat) (by omega) q2 q3 q4
    obtain ⟨i0, i1, i2, i3, i4, i5, i6, T', H, r1, r2, r3, r4, r5, r6, r7, r8, r9⟩ := hs1.rr
    refine ⟨rfl, _, rfl, ⟨_, r1⟩, (c_mkeep r1 r2 r3 hs1.2.2.2.2.1.1 hs1.2.2.2.2.1.2 hp).imp (fun r2 h2 n2 w => ?_)⟩
    obtain ⟨w, rfl⟩ := w
    rcases w with ⟨w1, -⟩ | ⟨w1, rfl, rfl⟩
    · exact absurd q1 w1
    · refine ⟨rfl, ⟨t, E, K, R, _, _, _, _, _, B, J, _, hs1.uK _ _, ho, hr, fun i hi => ?_⟩, _, rfl, rfl⟩
      obtain ⟨k1, k2⟩ := hk i hi
      by_cases c : i = p.toNat
      · subst c
        rw [upZ_eq, upF_eq, upF_eq, upF_eq, upZ_eq]
        refine ⟨ho.cg (cpZ_all (P := fun x => 0 ≤ x ∧ x ≤ 32) ho.1.1 k1.1.1 _ _ _) (cpZ_all (P := fun x => -2147483648 ≤ x ∧ x ≤ 2147483647) ho.2.2.2 k1.2.2.2 _ _ _) (fun j hj => cpZ_lt hj) (fun j hj => cpZ_lt hj), fun _ => ⟨B, J, r4, r5, hr.cg (fun j hj => cpZ_lt hj) (fun j hj => cpZ_lt hj) (fun j hj => cpZ_lt hj) (fun _ _ => rfl) (fun _ _ => rfl), fun j hj => ?_, fun j hj => ?_⟩⟩
        · unfold cpZ
          rw [if_neg (by omega), if_pos (by omega)]
          congr 1
          omega
        · unfold cpZ
          rw [if_pos (by omega)]
          congr 1
          omega
      · rw [upZ_ne _ _ c, upF_ne _ _ c, upF_ne _ _ c, upF_ne _ _ c, upZ_ne _ _ c]
        refine ⟨k1, fun z => ?_⟩
        obtain ⟨Bk, Jk, b1, b2, b3, b4, b5⟩ := k2 z
        refine ⟨Bk, Jk, b1, b2, b3, fun j hj => ?_, fun j hj => ?_⟩
        · unfold cpZ
          rw [if_neg (by omega), if_neg (by omega)]
          exact b4 j hj
        · unfold cpZ
          rw [if_neg (by omega), if_neg (by omega)]
          exact b5 j hj
theorem pr_back (hi : INV b h) {p : Int} (hp : inI p) : PR l G mX6_back mX7_back 2 2 [vi p] b h n (fun z z2 => z = z2) := by
  obtain ⟨t, E, K, R, Z, tk, Ek, Kk, Rk, B, J, Kp, hs, ho, hr, hk⟩ := hi
  obtain ⟨o1, o2, dr, hx⟩ := hs.hx
  obtain ⟨T, sc, hT⟩ := hs.2.1
  obtain ⟨⟨F, c1, c2⟩, c3, c4, c5⟩ := hs.2.2.1
  obtain ⟨Tk, hTk⟩ : ∃ Tk, 0 ≤ p → p < 4 → SC h (b + (520 + 5 * p.toNat)) (tk p.toNat) (Ek p.toNat) (Kk p.toNat) (Rk p.toNat) Tk := by
    by_cases c : 0 ≤ p ∧ p < 4
    · obtain ⟨Tk, q⟩ := c5 p.toNat (by omega)
      exact ⟨Tk, fun _ _ => q⟩
    · exact ⟨fun _ => 0, fun a1 a2 => absurd ⟨a1, a2⟩ c⟩
  refine (c_back hx sc c1 c3 hp c4 (fun a1 a2 => c2 p.toNat (by omega)) hTk (by omega)).imp (fun r h1 n1 q => ?_)
  obtain ⟨q, rfl⟩ := q
  rcases q with ⟨q1, rfl, rfl⟩ | ⟨q1, rfl, q2, q3⟩
  · obtain ⟨i0, i1, i2, i3, i4, i5, i6, T', H, r1, r2, r3, r4, r5, r6, r7, r8, r9⟩ := hs.rr
    refine ⟨rfl, _, rfl, ⟨_, r1⟩, (c_mback r1 r2 r3 hs.2.2.2.2.1.1 hs.2.2.2.2.1.2 c4 hp).imp (fun r2 h2 n2 w => ?_)⟩
    obtain ⟨w, rfl⟩ := w
    rcases w with ⟨w1, rfl, rfl⟩ | ⟨w1, -⟩
    · exact ⟨rfl, ⟨t, E, K, R, Z, tk, Ek, Kk, Rk, B, J, Kp, hs, ho, hr, hk⟩, _, rfl, rfl⟩
    · exact absurd w1 q1
  · have hs1 := hs.sc q2 hT q3
    obtain ⟨i0, i1, i2, i3, i4, i5, i6, T', H, r1, r2, r3, r4, r5, r6, r7, r8, r9⟩ := hs1.rr
    refine ⟨rfl, _, rfl, ⟨_, r1⟩, (c_mback r1 r2 r3 hs1.2.2.2.2.1.1 hs1.2.2.2.2.1.2 c4 hp).imp (fun r2 h2 n2 w => ?_)⟩
    obtain ⟨w, rfl⟩ := w
    rcases w with ⟨w1, -⟩ | ⟨w1, rfl, rfl⟩
    · exact absurd q1 w1
    · obtain ⟨k1, k2⟩ := hk p.toNat (by omega)
      obtain ⟨Bk, Jk, b1, b2, b3, b4, b5⟩ := k2 q1.2
      have eB : ∀ j, j < 264 → cpZ Kp B (328 * p).toNat 0 264 j = Bk j := fun j hj => by
        unfold cpZ
        rw [if_pos (by omega), ← b4 j hj]
        congr 1
        omega
      have eJ : ∀ j, j < 64 → cpZ Kp J (328 * p + 264).toNat 0 64 j = Jk j := fun j hj => by
        unfold cpZ
        rw [if_pos (by omega), ← b5 j hj]
        congr 1
        omega
      have bb : bB (cpZ Kp B (328 * p).toNat 0 264) := fun j => by
        by_cases c : j < 264
        · rw [eB j c]; exact b1 j
        · unfold cpZ
          rw [if_neg (by omega)]
          exact r4 j
      have bj : bJ (cpZ Kp J (328 * p + 264).toNat 0 64) := fun j => by
        by_cases c : j < 64
        · rw [eJ j c]; exact b2 j
        · unfold cpZ
          rw [if_neg (by omega)]
          exact r5 j
      exact ⟨rfl, ⟨_, _, _, _, Z, tk, Ek, Kk, Rk, _, _, Kp, (hs1.uB bb).uJ bj, k1.cg (cpZ_all (P := fun x => 0 ≤ x ∧ x ≤ 32) k1.1.1 ho.1.1 _ _ _) (cpZ_all (P := fun x => -2147483648 ≤ x ∧ x ≤ 2147483647) k1.2.2.2 ho.2.2.2 _ _ _) (fun j hj => cpZ_lt hj) (fun j hj => cpZ_lt hj), b3.cg (fun j hj => cpZ_lt hj) (fun j hj => cpZ_lt hj) (fun j hj => cpZ_lt hj) eB eJ, hk⟩, _, rfl, rfl⟩
end C79
end
section
/-! behind both constructors: what holds between two calls holds -/
section C80
variable {h h' : yH} {b : Nat}
theorem NEW.on (hn : NEW h b) (e : ∀ q, q < b + 540 → h' q = h q) : NEW h' b := by
  obtain ⟨n0, n1, ⟨⟨F, k1, k2⟩, k3⟩, n3, n4, n5, n6, n7, n8, n9, n10, n11⟩ := hn
  exact ⟨(e _ (by omega)).trans n0, n1.cp (fun k hk => e _ (by omega)), ⟨⟨F, (e _ (by omega)).trans k1, k2⟩, fun k hk => (k3 k hk).cp (fun j hj => e _ (by omega))⟩, (e _ (by omega)).trans n3, n4.on (fun k hk => e _ (by omega)), (e _ (by omega)).trans n5, (e _ (by omega)).trans n6, (e _ (by omega)).trans n7, (e _ (by omega)).trans n8, (e _ (by omega)).trans n9, n10.on (fun k hk => e _ (by omega)), n11.on (fun k hk => e _ (by omega))⟩
theorem pTb_ok {a : Nat} (hp : PI h a) : ∀ j c, j < 250 → pTb j = some c → okc c (h (a + j)) := by
  obtain ⟨⟨q0, ⟨F1, q1, q2⟩, ⟨F2, q3, q4⟩, q5⟩, r1, r2, r3, r4, r7, r8, r9⟩ := hp
  intro j c hj hc
  by_cases j7 : 7 ≤ j
  · rw [pTb_n j7] at hc
    cases hc
    refine ⟨0, 0, ?_⟩
    rcases (show j = 7 ∨ j = 8 ∨ j = 9 ∨ 10 ≤ j by omega) with rfl | rfl | rfl | q
    · exact r7
    · exact r8
    · exact r9
    · exact q5 j q (by omega)
  · rcases (show j = 0 ∨ j = 1 ∨ j = 2 ∨ j = 3 ∨ j = 4 ∨ j = 5 ∨ j = 6 by omega) with rfl | rfl | rfl | rfl | rfl | rfl | rfl
    · cases hc
    · cases hc; exact ⟨_, r1, fun _ => by omega⟩
    · cases hc; exact ⟨_, r2, fun _ => by omega⟩
    · cases hc; exact ⟨_, r3, fun _ => by omega⟩
    · cases hc
    · cases hc
    · cases hc
theorem fTb_ok (hn : NEW h b) : ∀ k c, k < 20 → fTb k = some c → okc c (h (b + k)) := by
  obtain ⟨n0, n1, -, n3, ⟨p0, p1, p2, p3, ⟨D, p4, p5⟩, p6, p7⟩, n5, n6, n7, n8, n9, -, -⟩ := hn
  intro k c hk hc
  rcases (show k < 9 ∨ k = 9 ∨ k = 10 ∨ k = 11 ∨ k = 12 ∨ k = 13 ∨ k = 14 ∨ k = 15 ∨ k = 16 ∨ k = 17 ∨ k = 18 ∨ k = 19 by omega) with q | rfl | rfl | rfl | rfl | rfl | rfl | rfl | rfl | rfl | rfl | rfl
  · have : rTb k = none := rTb_lo q
    unfold rTb at this
    rw [if_pos hk, hc] at this
    cases this
  · cases hc; exact ⟨_, p1, fun _ => by omega⟩
  · cases hc; exact ⟨_, p2, fun _ => by omega⟩
  · cases hc; exact ⟨_, p3, fun _ => by omega⟩
  · cases hc; exact ⟨_, p4, fun j => by have := p5 j; omega⟩
  · cases hc; exact ⟨0, 0, 0, 0, p6, by omega, by omega, by omega, by omega, by omega⟩
  · cases hc; exact ⟨0, 0, 0, 0, 0, 0, p7, by omega, by omega, by omega, by omega, by omega, by omega, by omega⟩
  · cases hc; exact ⟨0, 0, 0, 0, n5, by omega, by omega, by omega, by omega, by omega⟩
  · cases hc; exact ⟨0, 0, 0, 0, 0, 0, n6, by omega, by omega, by omega, by omega, by omega, by omega, by omega⟩
  · cases hc; exact ⟨0, 0, 0, 0, 0, 0, n7, by omega, by omega, by omega, by omega, by omega, by omega, by omega⟩
  · cases hc; exact ⟨_, n8, fun _ => by omega⟩
  · cases hc; exact ⟨_, n9, fun _ => by omega⟩
theorem MI_new (hn : NEW h b) (hm : MN h (b + 540)) : MI b h h := by
  refine ⟨fun k c hk => ?_, fun _ _ => rfl⟩
  by_cases c1 : k < 20
  · unfold rTb at hk
    rw [if_pos c1] at hk
    exact fTb_ok hn k c c1 hk
  · by_cases c2 : k < 270
    · unfold rTb at hk
      rw [if_neg c1, if_pos c2] at hk
      have := pTb_ok hn.2.2.2.2.2.2.2.2.2.2.1 (k - 20) c (by omega) hk
      rw [show b + 20 + (k - 20) = b + k by omega] at this
      exact this
    · by_cases c3 : k < 520
      · unfold rTb at hk
        rw [if_neg c1, if_neg c2, if_pos c3] at hk
        have := pTb_ok hn.2.2.2.2.2.2.2.2.2.2.2 (k - 270) c (by omega) hk
        rw [show b + 270 + (k - 270) = b + k by omega] at this
        exact this
      · by_cases c4 : k < 540
        · rw [rTb_kp (by omega) c4] at hk; cases hk
        · rw [rTb_mo (by omega)] at hk
          have := hm.2.2.2.2.2.1 (k - 540) c hk
          rw [show b + 540 + (k - 540) = b + k by omega] at this
          exact this
theorem PJ_new {o : Nat} (ho : o = 20 ∨ o = 270) (hp : PI h (b + o)) : PJ b o h := by
  obtain ⟨⟨q0, ⟨F1, q1, q2⟩, ⟨F2, q3, q4⟩, q5⟩, r1, r2, r3, r4, r7, r8, r9⟩ := hp
  refine ⟨fun _ => false, 0, 0, 24, ⟨ho, ?_, ⟨0, 0, ?_, fun k _ => ⟨gb_0 k, gb_0 k⟩⟩, ⟨F1, ?_, fun k hk => ?_⟩, F2, ?_, fun k hk => ?_⟩, by omega, by omega, by omega, by omega⟩
  · rw [q0]
    unfold PI0 pO
    rw [show b + o + 1 = b + (o + 1) by omega, show b + o + 2 = b + (o + 2) by omega, show b + o + 3 = b + (o + 3) by omega, show b + o + 4 = b + (o + 4) by omega, show b + o + 5 = b + (o + 5) by omega, show b + o + 6 = b + (o + 6) by omega, show b + o + 7 = b + (o + 7) by omega, show b + o + 8 = b + (o + 8) by omega, show b + o + 9 = b + (o + 9) by omega]
  · rw [show b + (o + 4) = b + o + 4 by omega]; exact r4
  · rw [show b + (o + 5) = b + o + 5 by omega]; exact q1
  · rw [q2 k hk]; congr 1; omega
  · rw [show b + (o + 6) = b + o + 6 by omega]; exact q3
  · rw [q4 k hk]; congr 1; omega
theorem tbt_z (k : Nat) : tbt 0 k = false := by show (0#32).getLsbD k = false; simp
theorem INV_new (hn : NEW h b) (hm : MN h (b + 540)) : INV b h := by
  have hI := MI_new hn hm
  obtain ⟨n0, n1, ⟨⟨F, k1, k2⟩, k3⟩, n3, ⟨p0, -⟩, n5, n6, n7, n8, n9, n10, n11⟩ := hn
  obtain ⟨m0, m1, ⟨J, m2, m3, m4⟩, m5, m6, m7, m8, m9⟩ := hm
  have nt : ∀ v, ¬ isT 0 v := fun v q => by have := q.2; rw [tbt_z] at this; cases this
  have rr : ∀ j, -2147483648 ≤ flF (fun _ => 0) 21845 64 j ∧ flF (fun _ => 0) 21845 64 j ≤ 2147483647 := fun j => by
    unfold flF
    split
    · omega
    · dsimp only; omega
  have ok : okS 0 (fun _ => 0) (fun _ => 0) (flF (fun _ => 0) 21845 64) := ⟨⟨fun _ => (show (0 : Int) ≤ 0 ∧ (0 : Int) ≤ 32 by omega), fun v hv => absurd hv (nt v)⟩, fun _ _ _ _ _ _ => (show (0 : Int) ≤ 0 ∧ (0 : Int) < 8 by omega), fun _ _ _ => (show (0 : Int) ≤ 0 ∧ (0 : Int) < 16 by omega), rr⟩
  refine ⟨0, _, _, _, _, fun _ => 0, fun _ _ => 0, fun _ _ => 0, fun _ => flF (fun _ => 0) 21845 64, _, J, _, ⟨⟨⟨20, 270, 0, Or.inl ⟨rfl, rfl⟩, n0, by omega, by omega⟩, PJ_new (Or.inl rfl) n10, PJ_new (Or.inr rfl) n11, ⟨9, 10, 0, 0, Or.inl rfl, Or.inr rfl, p0⟩⟩, ⟨_, n1, fun _ => (show (-1 : Int) ≤ 0 ∧ (0 : Int) ≤ 33 by omega)⟩, ⟨⟨F, k1, k2⟩, n3, fun _ => Or.inl rfl, fun k hk => ⟨_, k3 k hk⟩⟩, ⟨⟨0, 0, 0, 0, 0, 0, 0, m0, by omega, by omega, by omega, by omega⟩, m1, m2, fun _ => (show (0 : Int) ≤ 0 ∧ (0 : Int) ≤ 32 by omega), fun j => by have := m4 j; omega, ⟨_, m8, fun _ => (show (-1 : Int) ≤ 0 ∧ (0 : Int) ≤ 33 by omega)⟩, _, m9, fun _ => (show (-1 : Int) ≤ 0 ∧ (0 : Int) ≤ 32 by omega)⟩, ⟨m5, m6⟩, hI⟩, ok, ⟨fun v _ _ => ?_, fun _ _ _ _ _ _ => rfl, fun _ _ _ _ _ _ => rfl, fun j hj => ?_⟩, fun k hk => ⟨ok, fun z => absurd (show (0 : Int) = 1 from z) (by omega)⟩⟩
  · rw [tbt_z]
    exact ⟨fun q => (by cases q), fun q => absurd (show (0 : Int) = 1 from q) (by omega)⟩
  · rw [m3 j hj]
    unfold flF
    rw [if_pos hj]
end C80
end
section
section C81
variable {l : Launch} {G : xG} {M : xM} {d kc ks : Nat} {Φ : Option xV → yH → Nat → Prop} {h : yH} {n : Nat} {pc : Nat} {L : List (Option xV)} {st : List xV}
theorem y_ic_same (hM : xOK M) {z off : Int} {tgt : Nat} (hd : xat M pc = some (.if_icmp .eq off, 3)) (ht : xtg M pc off = some tgt) (kt : YW l G M d kc ks Φ tgt L st h n) : YW l G M d kc ks Φ pc L (vi z :: vi z :: st) h n := x_ic_eq hM hd ht (fun _ => kt) (fun c => absurd rfl c)
set_option maxHeartbeats 4000000 in
set_option maxRecDepth 10000 in
theorem law_loop {a N b : Nat} {xs : Nat → Int32} (hN : N ≤ 4096) : ∀ (m i : Nat) (n : Nat) (h : yH), N + 8 - i < m → i ≤ N → INV b h → YW l (gS G a N xs) mL_law 9 kc ks (fun v _ _ => v = some (vi 1)) 18 [some (vr a), some (vr b), some (vr (b + 540)), some (vi (i : Int))] [] h n := by
  intro m
  induction m with
  | zero => intro i n h h1; exact absurd h1 (by omega)
  | succ m ih =>
    intro i n h h1 h2 hi
    have r : ∀ k, inI (xs k).toInt := fun k => iI_rng _
    obtain ⟨fs, hx⟩ := hi.hx
    refine y_run kL_law rfl ?_
    refine y_slen kL_law rfl ?_
    refine y_run kL_law rfl ?_
    refine y_ic_gt kL_law rfl rfl (fun c => ?_) (fun c => ?_)
    · refine y_run kL_law rfl ?_
      exact y_zr kL_law rfl rfl (Or.inr rfl) rfl
    · have nx : ∀ (n : Nat) (h2 : yH), INV b h2 → YW l (gS G a N xs) mL_law 9 kc ks (fun v _ _ => v = some (vi 1)) 18 [some (vr a), some (vr b), some (vr (b + 540)), some (vi ((i : Int) + 8))] [] h2 n := by
        intro n h2 hi2
        refine YW.Le (congrArg (fun z : Int => [some (vr a), some (vr b), some (vr (b + 540)), some (vi z)]) (show (i : Int) + 8 = ((i + 8 : Nat) : Int) by omega)) ?_
        exact ih (i + 8) n h2 (by omega) (by omega) hi2
      refine y_run kL_law rfl ?_
      refine y_sld kL_law rfl (by omega) (by omega) (by omega) ?_
      refine y_run kL_law rfl ?_
      rw [yand_31]
      obtain ⟨w, hw⟩ : ∃ w : Int, w = (xs (i : Int).toNat).toInt % 32 := ⟨_, rfl⟩
      rw [← hw]
      have w0 : 0 ≤ w := by omega
      have w1 : w < 32 := by omega
      clear hw
      rcases (show w = 0 ∨ w = 1 ∨ w = 2 ∨ w = 3 ∨ w = 4 ∨ w = 5 ∨ w = 6 ∨ w = 7 ∨ w = 8 ∨ w = 9 ∨ w = 10 ∨ w = 11 ∨ w = 12 ∨ w = 13 ∨ w = 14 ∨ w = 15 ∨ w = 16 ∨ w = 17 ∨ 17 < w by omega) with rfl | rfl | rfl | rfl | rfl | rfl | rfl | rfl | rfl | rfl | rfl | rfl | rfl | rfl | rfl | rfl | rfl | rfl | hw
      · refine y_tin kL_law rfl rfl rfl ?_
        refine y_run kL_law rfl ?_
        refine y_sld kL_law rfl (by omega) (by omega) (by omega) ?_
        refine y_run kL_law rfl ?_
        refine y_sld kL_law rfl (by omega) (by omega) (by omega) ?_
        refine y_run kL_law rfl ?_
        refine y_sld kL_law rfl (by omega) (by omega) (by omega) ?_
        refine y_run kL_law rfl ?_
        refine y_sld kL_law rfl (by omega) (by omega) (by omega) ?_
        refine y_run kL_law rfl ?_
        refine y_sld kL_law rfl (by omega) (by omega) (by omega) ?_
        refine y_run kL_law rfl ?_
        refine y_sld kL_law rfl (by omega) (by omega) (by omega) ?_
        refine y_run kL_law rfl ?_
        refine y_sld kL_law rfl (by omega) (by omega) (by omega) ?_
        refine y_cv kL_law kX6_place 7 rfl hx (by decide +kernel) (pr_place hi (r _) (r _) (r _) (r _) (r _) (r _) (r _)) rfl rfl ?_
        rintro _ h1 _ ⟨rfl, z, rfl, ⟨fs1, hm⟩, hX⟩
        refine y_run kL_law rfl ?_
        refine y_sld kL_law rfl (by omega) (by omega) (by omega) ?_
        refine y_run kL_law rfl ?_
        refine y_sld kL_law rfl (by omega) (by omega) (by omega) ?_
        refine y_run kL_law rfl ?_
        refine y_sld kL_law rfl (by omega) (by omega) (by omega) ?_
        refine y_run kL_law rfl ?_
        refine y_sld kL_law rfl (by omega) (by omega) (by omega) ?_
        refine y_run kL_law rfl ?_
        refine y_sld kL_law rfl (by omega) (by omega) (by omega) ?_
        refine y_run kL_law rfl ?_
        refine y_sld kL_law rfl (by omega) (by omega) (by omega) ?_
        refine y_run kL_law rfl ?_
        refine y_sld kL_law rfl (by omega) (by omega) (by omega) ?_
        refine y_cv kL_law kX7_place 7 rfl hm (by decide +kernel) hX rfl rfl ?_
        rintro _ h2 _ ⟨rfl, hi2, z2, rfl, hz⟩
        subst hz
        refine y_ic_same kL_law rfl rfl ?_
        refine y_run kL_law rfl ?_
        exact nx _ h2 hi2
      · refine y_tin kL_law rfl rfl rfl ?_
        refine y_run kL_law rfl ?_
        refine y_sld kL_law rfl (by omega) (by omega) (by omega) ?_
        refine y_cv kL_law kX6_lift 1 rfl hx (by decide +kernel) (pr_lift hi (r _)) rfl rfl ?_
        rintro _ h1 _ ⟨rfl, z, rfl, ⟨fs1, hm⟩, hX⟩
        refine y_run kL_law rfl ?_
        refine y_sld kL_law rfl (by omega) (by omega) (by omega) ?_
        refine y_cv kL_law kX7_lift 1 rfl hm (by decide +kernel) hX rfl rfl ?_
        rintro _ h2 _ ⟨rfl, hi2, z2, rfl, hz⟩
        refine y_run kL_law rfl ?_
        exact nx _ h2 hi2
      · refine y_tin kL_law rfl rfl rfl ?_
        refine y_run kL_law rfl ?_
        refine y_sld kL_law rfl (by omega) (by omega) (by omega) ?_
        refine y_run kL_law rfl ?_
        refine y_sld kL_law rfl (by omega) (by omega) (by omega) ?_
        refine y_run kL_law rfl ?_
        refine y_sld kL_law rfl (by omega) (by omega) (by omega) ?_
        refine y_run kL_law rfl ?_
        refine y_sld kL_law rfl (by omega) (by omega) (by omega) ?_
        refine y_run kL_law rfl ?_
        refine y_sld kL_law rfl (by omega) (by omega) (by omega) ?_
        refine y_cv kL_law kX6_paint 5 rfl hx (by decide +kernel) (pr_paint hi (r _) (r _) (r _) (r _) (r _)) rfl rfl ?_
        rintro _ h1 _ ⟨rfl, z, rfl, ⟨fs1, hm⟩, hX⟩
        refine y_run kL_law rfl ?_
        refine y_sld kL_law rfl (by omega) (by omega) (by omega) ?_
        refine y_run kL_law rfl ?_
        refine y_sld kL_law rfl (by omega) (by omega) (by omega) ?_
        refine y_run kL_law rfl ?_
        refine y_sld kL_law rfl (by omega) (by omega) (by omega) ?_
        refine y_run kL_law rfl ?_
        refine y_sld kL_law rfl (by omega) (by omega) (by omega) ?_
        refine y_run kL_law rfl ?_
        refine y_sld kL_law rfl (by omega) (by omega) (by omega) ?_
        refine y_cv kL_law kX7_paint 5 rfl hm (by decide +kernel) hX rfl rfl ?_
        rintro _ h2 _ ⟨rfl, hi2, z2, rfl, hz⟩
        refine y_run kL_law rfl ?_
        exact nx _ h2 hi2
      · refine y_tin kL_law rfl rfl rfl ?_
        refine y_run kL_law rfl ?_
        refine y_sld kL_law rfl (by omega) (by omega) (by omega) ?_
        refine y_run kL_law rfl ?_
        refine y_sld kL_law rfl (by omega) (by omega) (by omega) ?_
        refine y_run kL_law rfl ?_
        refine y_sld kL_law rfl (by omega) (by omega) (by omega) ?_
        refine y_cv kL_law kX6_ink 3 rfl hx (by decide +kernel) (pr_ink hi (r _) (r _)) rfl rfl ?_
        rintro _ h1 _ ⟨rfl, z, rfl, ⟨fs1, hm⟩, hX⟩
        refine y_run kL_law rfl ?_
        refine y_sld kL_law rfl (by omega) (by omega) (by omega) ?_
        refine y_run kL_law rfl ?_
        refine y_sld kL_law rfl (by omega) (by omega) (by omega) ?_
        refine y_run kL_law rfl ?_
        refine y_sld kL_law rfl (by omega) (by omega) (by omega) ?_
        refine y_cv kL_law kX7_ink 3 rfl hm (by decide +kernel) hX rfl rfl ?_
        rintro _ h2 _ ⟨rfl, hi2, z2, rfl, hz⟩
        refine y_run kL_law rfl ?_
        exact nx _ h2 hi2
      · refine y_tin kL_law rfl rfl rfl ?_
        refine y_run kL_law rfl ?_
        refine y_sld kL_law rfl (by omega) (by omega) (by omega) ?_
        refine y_run kL_law rfl ?_
        refine y_sld kL_law rfl (by omega) (by omega) (by omega) ?_
        refine y_run kL_law rfl ?_
        refine y_sld kL_law rfl (by omega) (by omega) (by omega) ?_
        refine y_cv kL_law kX6_slide 3 rfl hx (by decide +kernel) (pr_slide hi (r _) (r _) (r _)) rfl rfl ?_
        rintro _ h1 _ ⟨rfl, z, rfl, ⟨fs1, hm⟩, hX⟩
        refine y_run kL_law rfl ?_
        refine y_sld kL_law rfl (by omega) (by omega) (by omega) ?_
        refine y_run kL_law rfl ?_
        refine y_sld kL_law rfl (by omega) (by omega) (by omega) ?_
        refine y_run kL_law rfl ?_
        refine y_sld kL_law rfl (by omega) (by omega) (by omega) ?_
        refine y_cv kL_law kX7_slide 3 rfl hm (by decide +kernel) hX rfl rfl ?_
        rintro _ h2 _ ⟨rfl, hi2, z2, rfl, hz⟩
        refine y_run kL_law rfl ?_
        exact nx _ h2 hi2
      · refine y_tin kL_law rfl rfl rfl ?_
        refine y_run kL_law rfl ?_
        refine y_cv kL_law kX6_drop 0 rfl hx (by decide +kernel) (pr_drop hi) rfl rfl ?_
        rintro _ h1 _ ⟨rfl, z, rfl, ⟨fs1, hm⟩, hX⟩
        refine y_run kL_law rfl ?_
        refine y_cv kL_law kX7_drop 0 rfl hm (by decide +kernel) hX rfl rfl ?_
        rintro _ h2 _ ⟨rfl, hi2, z2, rfl, hz⟩
        refine y_run kL_law rfl ?_
        exact nx _ h2 hi2
      · refine y_tin kL_law rfl rfl rfl ?_
        refine y_run kL_law rfl ?_
        refine y_cv kL_law kX6_draw 0 rfl hx (by decide +kernel) (pr_draw hi) rfl rfl ?_
        rintro _ h1 _ ⟨rfl, z, rfl, ⟨fs1, hm⟩, hX⟩
        refine y_run kL_law rfl ?_
        refine y_cv kL_law kX7_draw 0 rfl hm (by decide +kernel) hX rfl rfl ?_
        rintro _ h2 _ ⟨rfl, hi2, z2, rfl, hz⟩
        refine y_run kL_law rfl ?_
        exact nx _ h2 hi2
      · refine y_tin kL_law rfl rfl rfl ?_
        refine y_run kL_law rfl ?_
        refine y_sld kL_law rfl (by omega) (by omega) (by omega) ?_
        refine y_run kL_law rfl ?_
        refine y_sld kL_law rfl (by omega) (by omega) (by omega) ?_
        refine y_cv kL_law kX6_piece 2 rfl hx (by decide +kernel) (pr_piece hi (r _) (r _)) rfl rfl ?_
        rintro _ h1 _ ⟨rfl, z, rfl, ⟨fs1, hm⟩, hX⟩
        refine y_run kL_law rfl ?_
        refine y_sld kL_law rfl (by omega) (by omega) (by omega) ?_
        refine y_run kL_law rfl ?_
        refine y_sld kL_law rfl (by omega) (by omega) (by omega) ?_
        refine y_cv kL_law kX7_piece 2 rfl hm (by decide +kernel) hX rfl rfl ?_
        rintro _ h2 _ ⟨rfl, hi2, z2, rfl, hz⟩
        refine y_run kL_law rfl ?_
        exact nx _ h2 hi2
      · refine y_tin kL_law rfl rfl rfl ?_
        refine y_run kL_law rfl ?_
        refine y_sld kL_law rfl (by omega) (by omega) (by omega) ?_
        refine y_run kL_law rfl ?_
        refine y_sld kL_law rfl (by omega) (by omega) (by omega) ?_
        refine y_run kL_law rfl ?_
        refine y_sld kL_law rfl (by omega) (by omega) (by omega) ?_
        refine y_cv kL_law kX6_pixel 3 rfl hx (by decide +kernel) (pr_pixel hi (r _) (r _) (r _)) rfl rfl ?_
        rintro _ h1 _ ⟨rfl, z, rfl, ⟨fs1, hm⟩, hX⟩
        refine y_run kL_law rfl ?_
        refine y_sld kL_law rfl (by omega) (by omega) (by omega) ?_
        refine y_run kL_law rfl ?_
        refine y_sld kL_law rfl (by omega) (by omega) (by omega) ?_
        refine y_run kL_law rfl ?_
        refine y_sld kL_law rfl (by omega) (by omega) (by omega) ?_
        refine y_cv kL_law kX7_pixel 3 rfl hm (by decide +kernel) hX rfl rfl ?_
        rintro _ h2 _ ⟨rfl, hi2, z2, rfl, hz⟩
        refine y_run kL_law rfl ?_
        exact nx _ h2 hi2
      · refine y_tin kL_law rfl rfl rfl ?_
        refine y_run kL_law rfl ?_
        refine y_sld kL_law rfl (by omega) (by omega) (by omega) ?_
        refine y_cv kL_law kX6_seen 1 rfl hx (by decide +kernel) (pr_seen hi (r _)) rfl rfl ?_
        rintro _ h1 _ ⟨rfl, z, rfl, ⟨fs1, hm⟩, hX⟩
        refine y_run kL_law rfl ?_
        refine y_sld kL_law rfl (by omega) (by omega) (by omega) ?_
        refine y_cv kL_law kX7_seen 1 rfl hm (by decide +kernel) hX rfl rfl ?_
        rintro _ h2 _ ⟨rfl, hi2, z2, rfl, hz⟩
        refine y_run kL_law rfl ?_
        exact nx _ h2 hi2
      · refine y_tin kL_law rfl rfl rfl ?_
        refine y_run kL_law rfl ?_
        refine y_sld kL_law rfl (by omega) (by omega) (by omega) ?_
        refine y_cv kL_law kX6_changed 1 rfl hx (by decide +kernel) (pr_changed hi (r _)) rfl rfl ?_
        rintro _ h1 _ ⟨rfl, z, rfl, ⟨fs1, hm⟩, hX⟩
        refine y_run kL_law rfl ?_
        refine y_sld kL_law rfl (by omega) (by omega) (by omega) ?_
        refine y_cv kL_law kX7_changed 1 rfl hm (by decide +kernel) hX rfl rfl ?_
        rintro _ h2 _ ⟨rfl, hi2, z2, rfl, hz⟩
        refine y_run kL_law rfl ?_
        exact nx _ h2 hi2
      · refine y_tin kL_law rfl rfl rfl ?_
        refine y_run kL_law rfl ?_
        refine y_sld kL_law rfl (by omega) (by omega) (by omega) ?_
        refine y_cv kL_law kX6_count 1 rfl hx (by decide +kernel) (pr_count hi (r _)) rfl rfl ?_
        rintro _ h1 _ ⟨rfl, z, rfl, ⟨fs1, hm⟩, hX⟩
        refine y_run kL_law rfl ?_
        refine y_sld kL_law rfl (by omega) (by omega) (by omega) ?_
        refine y_cv kL_law kX7_count 1 rfl hm (by decide +kernel) hX rfl rfl ?_
        rintro _ h2 _ ⟨rfl, hi2, z2, rfl, hz⟩
        refine y_run kL_law rfl ?_
        exact nx _ h2 hi2
      · refine y_tin kL_law rfl rfl rfl ?_
        refine y_run kL_law rfl ?_
        refine y_sld kL_law rfl (by omega) (by omega) (by omega) ?_
        refine y_run kL_law rfl ?_
        refine y_sld kL_law rfl (by omega) (by omega) (by omega) ?_
        refine y_cv kL_law kX6_covers 2 rfl hx (by decide +kernel) (pr_covers hi (r _) (r _)) rfl rfl ?_
        rintro _ h1 _ ⟨rfl, z, rfl, ⟨fs1, hm⟩, hX⟩
        refine y_run kL_law rfl ?_
        refine y_sld kL_law rfl (by omega) (by omega) (by omega) ?_
        refine y_run kL_law rfl ?_
        refine y_sld kL_law rfl (by omega) (by omega) (by omega) ?_
        refine y_cv kL_law kX7_covers 2 rfl hm (by decide +kernel) hX rfl rfl ?_
        rintro _ h2 _ ⟨rfl, hi2, z2, rfl, hz⟩
        refine y_run kL_law rfl ?_
        exact nx _ h2 hi2
      · refine y_tin kL_law rfl rfl rfl ?_
        refine y_run kL_law rfl ?_
        refine y_sld kL_law rfl (by omega) (by omega) (by omega) ?_
        refine y_cv kL_law kX6_tangled 1 rfl hx (by decide +kernel) (pr_tangled hi (r _)) rfl rfl ?_
        rintro _ h1 _ ⟨rfl, z, rfl, ⟨fs1, hm⟩, hX⟩
        refine y_run kL_law rfl ?_
        refine y_sld kL_law rfl (by omega) (by omega) (by omega) ?_
        refine y_cv kL_law kX7_tangled 1 rfl hm (by decide +kernel) hX rfl rfl ?_
        rintro _ h2 _ ⟨rfl, hi2, z2, rfl, hz⟩
        refine y_run kL_law rfl ?_
        exact nx _ h2 hi2
      · refine y_tin kL_law rfl rfl rfl ?_
        refine y_run kL_law rfl ?_
        refine y_sld kL_law rfl (by omega) (by omega) (by omega) ?_
        refine y_run kL_law rfl ?_
        refine y_sld kL_law rfl (by omega) (by omega) (by omega) ?_
        refine y_run kL_law rfl ?_
        refine y_sld kL_law rfl (by omega) (by omega) (by omega) ?_
        refine y_cv kL_law kX6_under 3 rfl hx (by decide +kernel) (pr_under hi (r _) (r _) (r _)) rfl rfl ?_
        rintro _ h1 _ ⟨rfl, z, rfl, ⟨fs1, hm⟩, hX⟩
        refine y_run kL_law rfl ?_
        refine y_sld kL_law rfl (by omega) (by omega) (by omega) ?_
        refine y_run kL_law rfl ?_
        refine y_sld kL_law rfl (by omega) (by omega) (by omega) ?_
        refine y_run kL_law rfl ?_
        refine y_sld kL_law rfl (by omega) (by omega) (by omega) ?_
        refine y_cv kL_law kX7_under 3 rfl hm (by decide +kernel) hX rfl rfl ?_
        rintro _ h2 _ ⟨rfl, hi2, z2, rfl, hz⟩
        refine y_run kL_law rfl ?_
        exact nx _ h2 hi2
      · refine y_tin kL_law rfl rfl rfl ?_
        refine y_run kL_law rfl ?_
        refine y_sld kL_law rfl (by omega) (by omega) (by omega) ?_
        refine y_run kL_law rfl ?_
        refine y_sld kL_law rfl (by omega) (by omega) (by omega) ?_
        refine y_cv kL_law kX6_box 2 rfl hx (by decide +kernel) (pr_box hi (r _) (r _)) rfl rfl ?_
        rintro _ h1 _ ⟨rfl, z, rfl, ⟨fs1, hm⟩, hX⟩
        refine y_run kL_law rfl ?_
        refine y_sld kL_law rfl (by omega) (by omega) (by omega) ?_
        refine y_run kL_law rfl ?_
        refine y_sld kL_law rfl (by omega) (by omega) (by omega) ?_
        refine y_cv kL_law kX7_box 2 rfl hm (by decide +kernel) hX rfl rfl ?_
        rintro _ h2 _ ⟨rfl, hi2, z2, rfl, hz⟩
        refine y_run kL_law rfl ?_
        exact nx _ h2 hi2
      · refine y_tin kL_law rfl rfl rfl ?_
        refine y_run kL_law rfl ?_
        refine y_sld kL_law rfl (by omega) (by omega) (by omega) ?_
        refine y_cv kL_law kX6_keep 1 rfl hx (by decide +kernel) (pr_keep hi (r _)) rfl rfl ?_
        rintro _ h1 _ ⟨rfl, z, rfl, ⟨fs1, hm⟩, hX⟩
        refine y_run kL_law rfl ?_
        refine y_sld kL_law rfl (by omega) (by omega) (by omega) ?_
        refine y_cv kL_law kX7_keep 1 rfl hm (by decide +kernel) hX rfl rfl ?_
        rintro _ h2 _ ⟨rfl, hi2, z2, rfl, hz⟩
        refine y_run kL_law rfl ?_
        exact nx _ h2 hi2
      · refine y_tin kL_law rfl rfl rfl ?_
        refine y_run kL_law rfl ?_
        refine y_sld kL_law rfl (by omega) (by omega) (by omega) ?_
        refine y_cv kL_law kX6_back 1 rfl hx (by decide +kernel) (pr_back hi (r _)) rfl rfl ?_
        rintro _ h1 _ ⟨rfl, z, rfl, ⟨fs1, hm⟩, hX⟩
        refine y_run kL_law rfl ?_
        refine y_sld kL_law rfl (by omega) (by omega) (by omega) ?_
        refine y_cv kL_law kX7_back 1 rfl hm (by decide +kernel) hX rfl rfl ?_
        rintro _ h2 _ ⟨rfl, hi2, z2, rfl, hz⟩
        refine y_run kL_law rfl ?_
        exact nx _ h2 hi2
      · refine y_tout kL_law rfl (Or.inr hw) rfl ?_
        refine y_run kL_law rfl ?_
        exact nx _ h hi
set_option maxHeartbeats 4000000 in
theorem law_all {a N : Nat} {xs : Nat → Int32} (hN : N ≤ 4096) (n : Nat) : YW l (gS G a N xs) mL_law 9 600000 7302250 (fun v _ _ => v = some (vi 1)) 0 [some (vr a), none, none, none] [] (fun _ => none) n := by
  refine y_new kL_law (ci := 6) rfl rfl (by decide +kernel) nw6_ok ?_
  refine y_run kL_law rfl ?_
  refine y_ci kL_law kX6_init 0 rfl (by decide +kernel) (c_Binit (b := n) (yup_eq _ _ _) rfl) rfl rfl ?_
  rintro _ h1 _ ⟨rfl, hn, -, rfl⟩
  refine y_run kL_law rfl ?_
  refine y_new kL_law (ci := 7) rfl rfl (by decide +kernel) nw7_ok ?_
  refine y_run kL_law rfl ?_
  refine y_ci kL_law kX7_init 0 rfl (by decide +kernel) (c_Minit (c := n + 540) (yup_eq _ _ _) rfl) rfl rfl ?_
  rintro _ h2 _ ⟨rfl, hm, hf, rfl⟩
  refine y_run kL_law rfl ?_
  refine YW.Le (congrArg (fun z : Int => [some (vr a), some (vr n), some (vr (n + 540)), some (vi z)]) (show (0 : Int) = ((0 : Nat) : Int) by omega)) ?_
  exact law_loop hN (N + 9) 0 _ h2 (by omega) (by omega) (INV_new (hn.on (fun q hq => (hf q hq).trans (yup_ne _ _ (by omega)))) hm)
end C81
end
