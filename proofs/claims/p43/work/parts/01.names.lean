-- ===== PART A: goes FIRST, ahead of the names: the tables' words, and 'selects' of the private methods out of them =====
/-- a private method of a class that the tables say can be made, by its rows of tables_1 -/
def lw_okq (q : MethodName × Nat) : Prop := (q.1.cls ≠ "java/lang/invoke/MethodHandle" ∧ q.1.cls ≠ "java/lang/invoke/VarHandle") ∧ Cond.instantiable q.1.cls q.2 ∈ tables_1 ∧ Cond.privateMethod q.1 ∈ tables_1 ∧ Cond.instanceMethod q.1 ∈ tables_1
theorem lw_p0 : lw_okq (⟨"BallotWays$Poll", "drawByNumbers", "()V"⟩, 8) := ⟨⟨by decide +kernel, by decide +kernel⟩, List.mem_of_getElem? (i := 28) (by decide +kernel), List.mem_of_getElem? (i := 41) (by decide +kernel), List.mem_of_getElem? (i := 42) (by decide +kernel)⟩
theorem lw_p1 : lw_okq (⟨"BallotWays", "readParts", "()I"⟩, 8) := ⟨⟨by decide +kernel, by decide +kernel⟩, List.mem_of_getElem? (i := 20) (by decide +kernel), List.mem_of_getElem? (i := 279) (by decide +kernel), List.mem_of_getElem? (i := 280) (by decide +kernel)⟩
theorem lw_p2 : lw_okq (⟨"BallotWays$Tape", "figure", "()I"⟩, 5) := ⟨⟨by decide +kernel, by decide +kernel⟩, List.mem_of_getElem? (i := 120) (by decide +kernel), List.mem_of_getElem? (i := 291) (by decide +kernel), List.mem_of_getElem? (i := 292) (by decide +kernel)⟩
theorem lw_p3 : lw_okq (⟨"BallotWays$Tape", "sign", "()I"⟩, 5) := ⟨⟨by decide +kernel, by decide +kernel⟩, List.mem_of_getElem? (i := 120) (by decide +kernel), List.mem_of_getElem? (i := 295) (by decide +kernel), List.mem_of_getElem? (i := 296) (by decide +kernel)⟩
theorem lw_p4 : lw_okq (⟨"BallotWays$Tape", "placeOthers", "(III)V"⟩, 5) := ⟨⟨by decide +kernel, by decide +kernel⟩, List.mem_of_getElem? (i := 120) (by decide +kernel), List.mem_of_getElem? (i := 312) (by decide +kernel), List.mem_of_getElem? (i := 313) (by decide +kernel)⟩
theorem lw_p5 : lw_okq (⟨"BallotWays$Poll", "closeUp", "(I)V"⟩, 8) := ⟨⟨by decide +kernel, by decide +kernel⟩, List.mem_of_getElem? (i := 28) (by decide +kernel), List.mem_of_getElem? (i := 363) (by decide +kernel), List.mem_of_getElem? (i := 364) (by decide +kernel)⟩
theorem lw_p6 : lw_okq (⟨"BallotWays", "readRankingAlone", "()I"⟩, 8) := ⟨⟨by decide +kernel, by decide +kernel⟩, List.mem_of_getElem? (i := 20) (by decide +kernel), List.mem_of_getElem? (i := 383) (by decide +kernel), List.mem_of_getElem? (i := 384) (by decide +kernel)⟩
theorem lw_p7 : lw_okq (⟨"BallotWays$Paper", "writeBehind", "(II)V"⟩, 2) := ⟨⟨by decide +kernel, by decide +kernel⟩, List.mem_of_getElem? (i := 160) (by decide +kernel), List.mem_of_getElem? (i := 398) (by decide +kernel), List.mem_of_getElem? (i := 399) (by decide +kernel)⟩
theorem lw_p8 : lw_okq (⟨"BallotWays$Paper", "writeByte", "(I)V"⟩, 2) := ⟨⟨by decide +kernel, by decide +kernel⟩, List.mem_of_getElem? (i := 160) (by decide +kernel), List.mem_of_getElem? (i := 402) (by decide +kernel), List.mem_of_getElem? (i := 403) (by decide +kernel)⟩
theorem lw_p9 : lw_okq (⟨"BallotWays", "lookAtWays", "()V"⟩, 8) := ⟨⟨by decide +kernel, by decide +kernel⟩, List.mem_of_getElem? (i := 20) (by decide +kernel), List.mem_of_getElem? (i := 418) (by decide +kernel), List.mem_of_getElem? (i := 419) (by decide +kernel)⟩
theorem lw_p10 : lw_okq (⟨"BallotWays$Ways", "linkBetween", "(II)J"⟩, 11) := ⟨⟨by decide +kernel, by decide +kernel⟩, List.mem_of_getElem? (i := 79) (by decide +kernel), List.mem_of_getElem? (i := 433) (by decide +kernel), List.mem_of_getElem? (i := 434) (by decide +kernel)⟩
theorem lw_p11 : lw_okq (⟨"BallotWays$Ways", "goThrough", "(II)V"⟩, 11) := ⟨⟨by decide +kernel, by decide +kernel⟩, List.mem_of_getElem? (i := 79) (by decide +kernel), List.mem_of_getElem? (i := 444) (by decide +kernel), List.mem_of_getElem? (i := 445) (by decide +kernel)⟩
theorem lw_p12 : lw_okq (⟨"BallotWays$Ways", "beatersOf", "(I)I"⟩, 11) := ⟨⟨by decide +kernel, by decide +kernel⟩, List.mem_of_getElem? (i := 79) (by decide +kernel), List.mem_of_getElem? (i := 451) (by decide +kernel), List.mem_of_getElem? (i := 452) (by decide +kernel)⟩
theorem lw_p13 : lw_okq (⟨"BallotWays$Ways", "firstOf", "(I)I"⟩, 11) := ⟨⟨by decide +kernel, by decide +kernel⟩, List.mem_of_getElem? (i := 79) (by decide +kernel), List.mem_of_getElem? (i := 467) (by decide +kernel), List.mem_of_getElem? (i := 468) (by decide +kernel)⟩
theorem lw_p14 : lw_okq (⟨"BallotWays$Ways", "grow", "(I)I"⟩, 11) := ⟨⟨by decide +kernel, by decide +kernel⟩, List.mem_of_getElem? (i := 79) (by decide +kernel), List.mem_of_getElem? (i := 489) (by decide +kernel), List.mem_of_getElem? (i := 490) (by decide +kernel)⟩
theorem lw_p15 : lw_okq (⟨"BallotWays$Ways", "unlinkedFrom", "(I)I"⟩, 11) := ⟨⟨by decide +kernel, by decide +kernel⟩, List.mem_of_getElem? (i := 79) (by decide +kernel), List.mem_of_getElem? (i := 493) (by decide +kernel), List.mem_of_getElem? (i := 494) (by decide +kernel)⟩
def lw_privs_1 : List (MethodName × Nat) := [(⟨"BallotWays$Poll", "drawByNumbers", "()V"⟩, 8), (⟨"BallotWays", "readParts", "()I"⟩, 8), (⟨"BallotWays$Tape", "figure", "()I"⟩, 5), (⟨"BallotWays$Tape", "sign", "()I"⟩, 5), (⟨"BallotWays$Tape", "placeOthers", "(III)V"⟩, 5), (⟨"BallotWays$Poll", "closeUp", "(I)V"⟩, 8), (⟨"BallotWays", "readRankingAlone", "()I"⟩, 8), (⟨"BallotWays$Paper", "writeBehind", "(II)V"⟩, 2), (⟨"BallotWays$Paper", "writeByte", "(I)V"⟩, 2), (⟨"BallotWays", "lookAtWays", "()V"⟩, 8), (⟨"BallotWays$Ways", "linkBetween", "(II)J"⟩, 11), (⟨"BallotWays$Ways", "goThrough", "(II)V"⟩, 11), (⟨"BallotWays$Ways", "beatersOf", "(I)I"⟩, 11), (⟨"BallotWays$Ways", "firstOf", "(I)I"⟩, 11), (⟨"BallotWays$Ways", "grow", "(I)I"⟩, 11), (⟨"BallotWays$Ways", "unlinkedFrom", "(I)I"⟩, 11)]
theorem lw_r1 : ∀ q ∈ lw_privs_1, lw_okq q := List.forall_mem_cons.mpr ⟨lw_p0, List.forall_mem_cons.mpr ⟨lw_p1, List.forall_mem_cons.mpr ⟨lw_p2, List.forall_mem_cons.mpr ⟨lw_p3, List.forall_mem_cons.mpr ⟨lw_p4, List.forall_mem_cons.mpr ⟨lw_p5, List.forall_mem_cons.mpr ⟨lw_p6, List.forall_mem_cons.mpr ⟨lw_p7, List.forall_mem_cons.mpr ⟨lw_p8, List.forall_mem_cons.mpr ⟨lw_p9, List.forall_mem_cons.mpr ⟨lw_p10, List.forall_mem_cons.mpr ⟨lw_p11, List.forall_mem_cons.mpr ⟨lw_p12, List.forall_mem_cons.mpr ⟨lw_p13, List.forall_mem_cons.mpr ⟨lw_p14, List.forall_mem_cons.mpr ⟨lw_p15, fun _ h => absurd h List.not_mem_nil⟩⟩⟩⟩⟩⟩⟩⟩⟩⟩⟩⟩⟩⟩⟩⟩
theorem lw_p16 : lw_okq (⟨"BallotWays$Ways", "knows", "(II)Z"⟩, 11) := ⟨⟨by decide +kernel, by decide +kernel⟩, List.mem_of_getElem? (i := 79) (by decide +kernel), List.mem_of_getElem? (i := 501) (by decide +kernel), List.mem_of_getElem? (i := 502) (by decide +kernel)⟩
theorem lw_p17 : lw_okq (⟨"BallotWays$Poll", "manyBehind", "(II)I"⟩, 8) := ⟨⟨by decide +kernel, by decide +kernel⟩, List.mem_of_getElem? (i := 28) (by decide +kernel), List.mem_of_getElem? (i := 520) (by decide +kernel), List.mem_of_getElem? (i := 521) (by decide +kernel)⟩
def lw_privs_2 : List (MethodName × Nat) := [(⟨"BallotWays$Ways", "knows", "(II)Z"⟩, 11), (⟨"BallotWays$Poll", "manyBehind", "(II)I"⟩, 8)]
theorem lw_r2 : ∀ q ∈ lw_privs_2, lw_okq q := List.forall_mem_cons.mpr ⟨lw_p16, List.forall_mem_cons.mpr ⟨lw_p17, fun _ h => absurd h List.not_mem_nil⟩⟩
def lw_privs : List (MethodName × Nat) := lw_privs_1 ++ (lw_privs_2)
def lw_tbl : List Cond := k2_sels lw_privs ++ tables_1
theorem lw_privs_ok : ∀ q ∈ lw_privs, lw_okq q := by
  show ∀ q ∈ lw_privs_1 ++ (lw_privs_2), lw_okq q
  exact List.forall_mem_append.mpr ⟨lw_r1, lw_r2⟩
-- ===== names: classes, their fields, codes =====
def RX0 : String := "BallotWays$Lists"
def TX0 : u_T := fun k => match k with
  | 0 => ("BallotWays$Lists", "cells", "[J", true)
  | _ => ("BallotWays$Lists", "sizes", "[I", true)
def tyX0 : Nat → FieldType := fun k => match k with
  | 0 => .array .long
  | _ => .array .int
theorem nmX0 : ∀ a, a < 2 → ∀ b, b < 2 → a ≠ b → (TX0 a).2.1 ≠ (TX0 b).2.1 := by decide +kernel
theorem tyX0_ok : ∀ k, k < 2 → parseFieldDescriptor (TX0 k).2.2.1 = some (tyX0 k) := by decide +kernel
def RX1 : String := "BallotWays$Paper"
def TX1 : u_T := fun k => match k with
  | 0 => ("BallotWays$Paper", "bytes", "[I", true)
  | _ => ("BallotWays$Paper", "length", "I", false)
def tyX1 : Nat → FieldType := fun k => match k with
  | 0 => .array .int
  | _ => .int
theorem nmX1 : ∀ a, a < 2 → ∀ b, b < 2 → a ≠ b → (TX1 a).2.1 ≠ (TX1 b).2.1 := by decide +kernel
theorem tyX1_ok : ∀ k, k < 2 → parseFieldDescriptor (TX1 k).2.2.1 = some (tyX1 k) := by decide +kernel
def RX2 : String := "BallotWays$Poll"
def TX2 : u_T := fun k => match k with
  | 0 => ("BallotWays$Poll", "size", "I", false)
  | 1 => ("BallotWays$Poll", "outs", "I", false)
  | 2 => ("BallotWays$Poll", "rule", "I", false)
  | 3 => ("BallotWays$Poll", "filled", "I", false)
  | 4 => ("BallotWays$Poll", "rankings", "[I", true)
  | 5 => ("BallotWays$Poll", "counts", "[I", true)
  | 6 => ("BallotWays$Poll", "draw", "[I", true)
  | _ => ("BallotWays$Poll", "fors", "[I", true)
def tyX2 : Nat → FieldType := fun k => match k with
  | 0 => .int
  | 1 => .int
  | 2 => .int
  | 3 => .int
  | 4 => .array .int
  | 5 => .array .int
  | 6 => .array .int
  | _ => .array .int
theorem nmX2 : ∀ a, a < 8 → ∀ b, b < 8 → a ≠ b → (TX2 a).2.1 ≠ (TX2 b).2.1 := by decide +kernel
theorem tyX2_ok : ∀ k, k < 8 → parseFieldDescriptor (TX2 k).2.2.1 = some (tyX2 k) := by decide +kernel
def RX3 : String := "BallotWays$Tape"
def TX3 : u_T := fun k => match k with
  | 0 => ("BallotWays$Tape", "bytes", "[I", true)
  | 1 => ("BallotWays$Tape", "length", "I", false)
  | 2 => ("BallotWays$Tape", "next", "I", false)
  | 3 => ("BallotWays$Tape", "ranking", "I", false)
  | _ => ("BallotWays$Tape", "count", "I", false)
def tyX3 : Nat → FieldType := fun k => match k with
  | 0 => .array .int
  | 1 => .int
  | 2 => .int
  | 3 => .int
  | _ => .int
theorem nmX3 : ∀ a, a < 5 → ∀ b, b < 5 → a ≠ b → (TX3 a).2.1 ≠ (TX3 b).2.1 := by decide +kernel
theorem tyX3_ok : ∀ k, k < 5 → parseFieldDescriptor (TX3 k).2.2.1 = some (tyX3 k) := by decide +kernel
def RX4 : String := "BallotWays$Ways"
def TX4 : u_T := fun k => match k with
  | 0 => ("BallotWays$Ways", "size", "I", false)
  | 1 => ("BallotWays$Ways", "ins", "I", false)
  | 2 => ("BallotWays$Ways", "rule", "I", false)
  | 3 => ("BallotWays$Ways", "steps", "I", false)
  | 4 => ("BallotWays$Ways", "fors", "[I", true)
  | 5 => ("BallotWays$Ways", "draw", "[I", true)
  | 6 => ("BallotWays$Ways", "links", "[J", true)
  | 7 => ("BallotWays$Ways", "best", "[J", true)
  | 8 => ("BallotWays$Ways", "beaters", "[I", true)
  | 9 => ("BallotWays$Ways", "distances", "[I", true)
  | _ => ("BallotWays$Ways", "route", "[I", true)
def tyX4 : Nat → FieldType := fun k => match k with
  | 0 => .int
  | 1 => .int
  | 2 => .int
  | 3 => .int
  | 4 => .array .int
  | 5 => .array .int
  | 6 => .array .long
  | 7 => .array .long
  | 8 => .array .int
  | 9 => .array .int
  | _ => .array .int
theorem nmX4 : ∀ a, a < 11 → ∀ b, b < 11 → a ≠ b → (TX4 a).2.1 ≠ (TX4 b).2.1 := by decide +kernel
theorem tyX4_ok : ∀ k, k < 11 → parseFieldDescriptor (TX4 k).2.2.1 = some (tyX4 k) := by decide +kernel
def RX5 : String := "BallotWays"
def TX5 : u_T := fun k => match k with
  | 0 => ("BallotWays", "poll", "LBallotWays$Poll;", true)
  | 1 => ("BallotWays", "kept", "LBallotWays$Poll;", true)
  | 2 => ("BallotWays", "draft", "LBallotWays$Poll;", true)
  | 3 => ("BallotWays", "ways", "LBallotWays$Ways;", true)
  | 4 => ("BallotWays", "tape", "LBallotWays$Tape;", true)
  | 5 => ("BallotWays", "lists", "LBallotWays$Lists;", true)
  | 6 => ("BallotWays", "sheet", "LBallotWays$Paper;", true)
  | _ => ("BallotWays", "keeps", "Z", false)
def tyX5 : Nat → FieldType := fun k => match k with
  | 0 => .object "BallotWays$Poll"
  | 1 => .object "BallotWays$Poll"
  | 2 => .object "BallotWays$Poll"
  | 3 => .object "BallotWays$Ways"
  | 4 => .object "BallotWays$Tape"
  | 5 => .object "BallotWays$Lists"
  | 6 => .object "BallotWays$Paper"
  | _ => .boolean
theorem nmX5 : ∀ a, a < 8 → ∀ b, b < 8 → a ≠ b → (TX5 a).2.1 ≠ (TX5 b).2.1 := by decide +kernel
theorem tyX5_ok : ∀ k, k < 8 → parseFieldDescriptor (TX5 k).2.2.1 = some (tyX5 k) := by decide +kernel
def RJ0 : String := "java/lang/String"
def TJ0 : u_T := fun k => match k with
  | 0 => ("java/lang/String", "value", "[B", true)
  | 1 => ("java/lang/String", "coder", "B", true)
  | 2 => ("java/lang/String", "hash", "I", false)
  | _ => ("java/lang/String", "hashIsZero", "Z", false)
def tyJ0 : Nat → FieldType := fun k => match k with
  | 0 => .array .byte
  | 1 => .byte
  | 2 => .int
  | _ => .boolean
theorem nmJ0 : ∀ a, a < 4 → ∀ b, b < 4 → a ≠ b → (TJ0 a).2.1 ≠ (TJ0 b).2.1 := by decide +kernel
theorem tyJ0_ok : ∀ k, k < 4 → parseFieldDescriptor (TJ0 k).2.2.1 = some (tyJ0 k) := by decide +kernel
def RJ4 : String := "java/lang/StringBuilder"
def TJ4 : u_T := fun k => match k with
  | 0 => ("java/lang/AbstractStringBuilder", "value", "[B", false)
  | 1 => ("java/lang/AbstractStringBuilder", "coder", "B", false)
  | 2 => ("java/lang/AbstractStringBuilder", "maybeLatin1", "Z", false)
  | _ => ("java/lang/AbstractStringBuilder", "count", "I", false)
def tyJ4 : Nat → FieldType := fun k => match k with
  | 0 => .array .byte
  | 1 => .byte
  | 2 => .boolean
  | _ => .int
theorem nmJ4 : ∀ a, a < 4 → ∀ b, b < 4 → a ≠ b → (TJ4 a).2.1 ≠ (TJ4 b).2.1 := by decide +kernel
theorem tyJ4_ok : ∀ k, k < 4 → parseFieldDescriptor (TJ4 k).2.2.1 = some (tyJ4 k) := by decide +kernel
def RX6 : String := "BallotWaysModel"
def TX6 : u_T := fun k => match k with
  | _ => ("", "", "", false)
def tyX6 : Nat → FieldType := fun k => match k with
  | _ => .int
theorem nmX6 : ∀ a, a < 0 → ∀ b, b < 0 → a ≠ b → (TX6 a).2.1 ≠ (TX6 b).2.1 := by decide +kernel
theorem tyX6_ok : ∀ k, k < 0 → parseFieldDescriptor (TX6 k).2.2.1 = some (tyX6 k) := by decide +kernel
def RJ6 : String := "java/lang/Integer"
def RJ9 : String := "java/lang/Math"
def RJ7 : String := "java/util/Arrays"
def RJ1 : String := "java/lang/StringLatin1"
def RJ3 : String := "jdk/internal/util/Preconditions"
def RJ5 : String := "java/lang/AbstractStringBuilder"
def RJ8 : String := "jdk/internal/util/ArraysSupport"
def RL : String := "BallotWaysLaw"
def RJ10 : String := "java/lang/System"
abbrev cX0_init : ByteArray := prog_2_method_1_code
def yX0_init : MethodName := ⟨RX0, "<init>", "()V"⟩
abbrev cX0_has : ByteArray := prog_2_method_2_code
def yX0_has : MethodName := ⟨RX0, "has", "(I)Z"⟩
abbrev cX0_holds : ByteArray := prog_2_method_3_code
def yX0_holds : MethodName := ⟨RX0, "holds", "(I)Z"⟩
abbrev cX0_start : ByteArray := prog_2_method_4_code
def yX0_start : MethodName := ⟨RX0, "start", "(II)V"⟩
abbrev cX0_reaches : ByteArray := prog_2_method_5_code
def yX0_reaches : MethodName := ⟨RX0, "reaches", "(III)Z"⟩
abbrev cX0_read : ByteArray := prog_2_method_6_code
def yX0_read : MethodName := ⟨RX0, "read", "(III)J"⟩
abbrev cX0_lay : ByteArray := prog_2_method_7_code
def yX0_lay : MethodName := ⟨RX0, "lay", "(IIIJ)Z"⟩
abbrev cX1_init : ByteArray := prog_3_method_1_code
def yX1_init : MethodName := ⟨RX1, "<init>", "()V"⟩
abbrev cX1_byteAt : ByteArray := prog_3_method_2_code
def yX1_byteAt : MethodName := ⟨RX1, "byteAt", "(I)I"⟩
abbrev cX1_write : ByteArray := prog_3_method_3_code
def yX1_write : MethodName := ⟨RX1, "write", "(II)I"⟩
abbrev cX1_writeBehind : ByteArray := prog_3_method_4_code
def yX1_writeBehind : MethodName := ⟨RX1, "writeBehind", "(II)V"⟩
abbrev cX1_writeByte : ByteArray := prog_3_method_5_code
def yX1_writeByte : MethodName := ⟨RX1, "writeByte", "(I)V"⟩
abbrev cX2_init : ByteArray := prog_4_method_1_code
def yX2_init : MethodName := ⟨RX2, "<init>", "()V"⟩
abbrev cX2_start : ByteArray := prog_4_method_2_code
def yX2_start : MethodName := ⟨RX2, "start", "(I)V"⟩
abbrev cX2_become : ByteArray := prog_4_method_3_code
def yX2_become : MethodName := ⟨RX2, "become", "(LBallotWays$Poll;)V"⟩
abbrev cX2_has : ByteArray := prog_4_method_4_code
def yX2_has : MethodName := ⟨RX2, "has", "(I)Z"⟩
abbrev cX2_hasBallot : ByteArray := prog_4_method_6_code
def yX2_hasBallot : MethodName := ⟨RX2, "hasBallot", "(I)Z"⟩
abbrev cX2_all : ByteArray := prog_4_method_7_code
def yX2_all : MethodName := ⟨RX2, "all", "()I"⟩
abbrev cX2_ins : ByteArray := prog_4_method_8_code
def yX2_ins : MethodName := ⟨RX2, "ins", "()I"⟩
abbrev cX2_isIn : ByteArray := prog_4_method_9_code
def yX2_isIn : MethodName := ⟨RX2, "isIn", "(I)Z"⟩
abbrev cX2_countOf : ByteArray := prog_4_method_10_code
def yX2_countOf : MethodName := ⟨RX2, "countOf", "(I)I"⟩
abbrev cX2_rankingOf : ByteArray := prog_4_method_11_code
def yX2_rankingOf : MethodName := ⟨RX2, "rankingOf", "(I)I"⟩
abbrev cX2_ballotOf : ByteArray := prog_4_method_13_code
def yX2_ballotOf : MethodName := ⟨RX2, "ballotOf", "(I)I"⟩
abbrev cX2_allCounts : ByteArray := prog_4_method_14_code
def yX2_allCounts : MethodName := ⟨RX2, "allCounts", "()I"⟩
abbrev cX2_add : ByteArray := prog_4_method_15_code
def yX2_add : MethodName := ⟨RX2, "add", "(II)Z"⟩
abbrev cX2_lessen : ByteArray := prog_4_method_16_code
def yX2_lessen : MethodName := ⟨RX2, "lessen", "(II)I"⟩
abbrev cX2_closeUp : ByteArray := prog_4_method_17_code
def yX2_closeUp : MethodName := ⟨RX2, "closeUp", "(I)V"⟩
abbrev cX2_drawByNumbers : ByteArray := prog_4_method_18_code
def yX2_drawByNumbers : MethodName := ⟨RX2, "drawByNumbers", "()V"⟩
abbrev cX2_drawnAt : ByteArray := prog_4_method_19_code
def yX2_drawnAt : MethodName := ⟨RX2, "drawnAt", "(I)I"⟩
abbrev cX2_drawBySeed : ByteArray := prog_4_method_20_code
def yX2_drawBySeed : MethodName := ⟨RX2, "drawBySeed", "(I)V"⟩
abbrev cX2_drawFirst : ByteArray := prog_4_method_21_code
def yX2_drawFirst : MethodName := ⟨RX2, "drawFirst", "(I)I"⟩
abbrev cX2_sumOfPlaces : ByteArray := prog_4_method_24_code
def yX2_sumOfPlaces : MethodName := ⟨RX2, "sumOfPlaces", "(I)J"⟩
abbrev cX2_leadsOf : ByteArray := prog_4_method_25_code
def yX2_leadsOf : MethodName := ⟨RX2, "leadsOf", "(I)J"⟩
abbrev cX2_manyBehind : ByteArray := prog_4_method_26_code
def yX2_manyBehind : MethodName := ⟨RX2, "manyBehind", "(II)I"⟩
abbrev cX3_init : ByteArray := prog_5_method_1_code
def yX3_init : MethodName := ⟨RX3, "<init>", "()V"⟩
abbrev cX3_takeByte : ByteArray := prog_5_method_2_code
def yX3_takeByte : MethodName := ⟨RX3, "takeByte", "(I)Z"⟩
abbrev cX3_wipe : ByteArray := prog_5_method_3_code
def yX3_wipe : MethodName := ⟨RX3, "wipe", "()I"⟩
abbrev cX3_rewind : ByteArray := prog_5_method_4_code
def yX3_rewind : MethodName := ⟨RX3, "rewind", "()V"⟩
abbrev cX3_isRead : ByteArray := prog_5_method_5_code
def yX3_isRead : MethodName := ⟨RX3, "isRead", "()Z"⟩
abbrev cX3_sign : ByteArray := prog_5_method_6_code
def yX3_sign : MethodName := ⟨RX3, "sign", "()I"⟩
abbrev cX3_passes : ByteArray := prog_5_method_7_code
def yX3_passes : MethodName := ⟨RX3, "passes", "(I)Z"⟩
abbrev cX3_figure : ByteArray := prog_5_method_8_code
def yX3_figure : MethodName := ⟨RX3, "figure", "()I"⟩
abbrev cX3_readCount : ByteArray := prog_5_method_9_code
def yX3_readCount : MethodName := ⟨RX3, "readCount", "()Z"⟩
abbrev cX3_readRanking : ByteArray := prog_5_method_10_code
def yX3_readRanking : MethodName := ⟨RX3, "readRanking", "(I)Z"⟩
abbrev cX3_placeOthers : ByteArray := prog_5_method_11_code
def yX3_placeOthers : MethodName := ⟨RX3, "placeOthers", "(III)V"⟩
abbrev cX4_init : ByteArray := prog_6_method_1_code
def yX4_init : MethodName := ⟨RX4, "<init>", "()V"⟩
abbrev cX4_load : ByteArray := prog_6_method_2_code
def yX4_load : MethodName := ⟨RX4, "load", "(LBallotWays$Poll;)V"⟩
abbrev cX4_leaveOut : ByteArray := prog_6_method_3_code
def yX4_leaveOut : MethodName := ⟨RX4, "leaveOut", "(I)V"⟩
abbrev cX4_reckon : ByteArray := prog_6_method_6_code
def yX4_reckon : MethodName := ⟨RX4, "reckon", "()V"⟩
abbrev cX4_goThrough : ByteArray := prog_6_method_7_code
def yX4_goThrough : MethodName := ⟨RX4, "goThrough", "(II)V"⟩
abbrev cX4_beatersOf : ByteArray := prog_6_method_8_code
def yX4_beatersOf : MethodName := ⟨RX4, "beatersOf", "(I)I"⟩
abbrev cX4_linkBetween : ByteArray := prog_6_method_9_code
def yX4_linkBetween : MethodName := ⟨RX4, "linkBetween", "(II)J"⟩
abbrev cX4_ratioStrength : ByteArray := prog_6_method_10_code
def yX4_ratioStrength : MethodName := ⟨RX4, "ratioStrength", "(II)J"⟩
abbrev cX4_knows : ByteArray := prog_6_method_11_code
def yX4_knows : MethodName := ⟨RX4, "knows", "(II)Z"⟩
abbrev cX4_linkStrength : ByteArray := prog_6_method_12_code
def yX4_linkStrength : MethodName := ⟨RX4, "linkStrength", "(II)J"⟩
abbrev cX4_unbeaten : ByteArray := prog_6_method_23_code
def yX4_unbeaten : MethodName := ⟨RX4, "unbeaten", "(I)I"⟩
abbrev cX4_firstOf : ByteArray := prog_6_method_24_code
def yX4_firstOf : MethodName := ⟨RX4, "firstOf", "(I)I"⟩
abbrev cX4_first : ByteArray := prog_6_method_25_code
def yX4_first : MethodName := ⟨RX4, "first", "()I"⟩
abbrev cX4_rankedAt : ByteArray := prog_6_method_26_code
def yX4_rankedAt : MethodName := ⟨RX4, "rankedAt", "(I)I"⟩
abbrev cX4_placeByRanks : ByteArray := prog_6_method_27_code
def yX4_placeByRanks : MethodName := ⟨RX4, "placeByRanks", "(I)I"⟩
abbrev cX4_leastTopSet : ByteArray := prog_6_method_28_code
def yX4_leastTopSet : MethodName := ⟨RX4, "leastTopSet", "()I"⟩
abbrev cX4_grow : ByteArray := prog_6_method_29_code
def yX4_grow : MethodName := ⟨RX4, "grow", "(I)I"⟩
abbrev cX4_unlinkedFrom : ByteArray := prog_6_method_30_code
def yX4_unlinkedFrom : MethodName := ⟨RX4, "unlinkedFrom", "(I)I"⟩
abbrev cX4_manyLinks : ByteArray := prog_6_method_32_code
def yX4_manyLinks : MethodName := ⟨RX4, "manyLinks", "()I"⟩
abbrev cX4_manyOver : ByteArray := prog_6_method_33_code
def yX4_manyOver : MethodName := ⟨RX4, "manyOver", "()I"⟩
abbrev cX5_init : ByteArray := prog_1_method_1_code
def yX5_init : MethodName := ⟨RX5, "<init>", "()V"⟩
abbrev cX5_begin : ByteArray := prog_1_method_2_code
def yX5_begin : MethodName := ⟨RX5, "begin", "(I)I"⟩
abbrev cX5_out : ByteArray := prog_1_method_3_code
def yX5_out : MethodName := ⟨RX5, "out", "(II)I"⟩
abbrev cX5_measure : ByteArray := prog_1_method_4_code
def yX5_measure : MethodName := ⟨RX5, "measure", "(I)I"⟩
abbrev cX5_ahead : ByteArray := prog_1_method_5_code
def yX5_ahead : MethodName := ⟨RX5, "ahead", "(I)I"⟩
abbrev cX5_shuffle : ByteArray := prog_1_method_6_code
def yX5_shuffle : MethodName := ⟨RX5, "shuffle", "(I)I"⟩
abbrev cX5_drawn : ByteArray := prog_1_method_7_code
def yX5_drawn : MethodName := ⟨RX5, "drawn", "(I)I"⟩
abbrev cX5_feed : ByteArray := prog_1_method_8_code
def yX5_feed : MethodName := ⟨RX5, "feed", "(I)I"⟩
abbrev cX5_ballots : ByteArray := prog_1_method_10_code
def yX5_ballots : MethodName := ⟨RX5, "ballots", "()I"⟩
abbrev cX5_remove : ByteArray := prog_1_method_11_code
def yX5_remove : MethodName := ⟨RX5, "remove", "(II)I"⟩
abbrev cX5_ballot : ByteArray := prog_1_method_12_code
def yX5_ballot : MethodName := ⟨RX5, "ballot", "(II)I"⟩
abbrev cX5_find : ByteArray := prog_1_method_13_code
def yX5_find : MethodName := ⟨RX5, "find", "()I"⟩
abbrev cX5_spell : ByteArray := prog_1_method_14_code
def yX5_spell : MethodName := ⟨RX5, "spell", "(I)I"⟩
abbrev cX5_paper : ByteArray := prog_1_method_15_code
def yX5_paper : MethodName := ⟨RX5, "paper", "(I)I"⟩
abbrev cX5_winners : ByteArray := prog_1_method_22_code
def yX5_winners : MethodName := ⟨RX5, "winners", "()I"⟩
abbrev cX5_ranked : ByteArray := prog_1_method_23_code
def yX5_ranked : MethodName := ⟨RX5, "ranked", "(I)I"⟩
abbrev cX5_rank : ByteArray := prog_1_method_24_code
def yX5_rank : MethodName := ⟨RX5, "rank", "(I)I"⟩
abbrev cX5_smith : ByteArray := prog_1_method_25_code
def yX5_smith : MethodName := ⟨RX5, "smith", "()I"⟩
abbrev cX5_sum : ByteArray := prog_1_method_27_code
def yX5_sum : MethodName := ⟨RX5, "sum", "(II)J"⟩
abbrev cX5_without : ByteArray := prog_1_method_28_code
def yX5_without : MethodName := ⟨RX5, "without", "(I)I"⟩
abbrev cX5_told : ByteArray := prog_1_method_36_code
def yX5_told : MethodName := ⟨RX5, "told", "(I)I"⟩
abbrev cX5_list : ByteArray := prog_1_method_37_code
def yX5_list : MethodName := ⟨RX5, "list", "(II)I"⟩
abbrev cX5_set : ByteArray := prog_1_method_38_code
def yX5_set : MethodName := ⟨RX5, "set", "(IIJ)I"⟩
abbrev cX5_get : ByteArray := prog_1_method_39_code
def yX5_get : MethodName := ⟨RX5, "get", "(II)J"⟩
abbrev cX5_image : ByteArray := prog_1_method_40_code
def yX5_image : MethodName := ⟨RX5, "image", "()I"⟩
abbrev cX5_undo : ByteArray := prog_1_method_41_code
def yX5_undo : MethodName := ⟨RX5, "undo", "()I"⟩
abbrev cX5_lookAtWays : ByteArray := prog_1_method_42_code
def yX5_lookAtWays : MethodName := ⟨RX5, "lookAtWays", "()V"⟩
abbrev cX5_readRankingAlone : ByteArray := prog_1_method_43_code
def yX5_readRankingAlone : MethodName := ⟨RX5, "readRankingAlone", "()I"⟩
abbrev cX5_readParts : ByteArray := prog_1_method_44_code
def yX5_readParts : MethodName := ⟨RX5, "readParts", "()I"⟩
abbrev cX5_hasBit : ByteArray := prog_1_method_48_code
def yX5_hasBit : MethodName := ⟨RX5, "hasBit", "(II)Z"⟩
abbrev cX5_placeOf : ByteArray := prog_1_method_49_code
def yX5_placeOf : MethodName := ⟨RX5, "placeOf", "(II)I"⟩
abbrev cX5_withPlace : ByteArray := prog_1_method_50_code
def yX5_withPlace : MethodName := ⟨RX5, "withPlace", "(III)I"⟩
abbrev cX5_placesIn : ByteArray := prog_1_method_51_code
def yX5_placesIn : MethodName := ⟨RX5, "placesIn", "(I)I"⟩
abbrev cX5_cell : ByteArray := prog_1_method_52_code
def yX5_cell : MethodName := ⟨RX5, "cell", "(II)I"⟩
abbrev cX5_countPairs : ByteArray := prog_1_method_53_code
def yX5_countPairs : MethodName := ⟨RX5, "countPairs", "([IIII)V"⟩
abbrev cJ5_init_d00df : ByteArray := prog_9_method_2_code
def yJ5_init_d00df : MethodName := ⟨RJ5, "<init>", "(I)V"⟩
abbrev cJ5_length_8abf5 : ByteArray := prog_9_method_6_code
def yJ5_length_8abf5 : MethodName := ⟨RJ5, "length", "()I"⟩
abbrev cJ5_ensureCapacityInternal_d00df : ByteArray := prog_9_method_9_code
def yJ5_ensureCapacityInternal_d00df : MethodName := ⟨RJ5, "ensureCapacityInternal", "(I)V"⟩
abbrev cJ5_newCapacity_0f7a4 : ByteArray := prog_9_method_10_code
def yJ5_newCapacity_0f7a4 : MethodName := ⟨RJ5, "newCapacity", "(I)I"⟩
abbrev cJ5_append_cf1ce : ByteArray := prog_9_method_22_code
def yJ5_append_cf1ce : MethodName := ⟨RJ5, "append", "(Ljava/lang/String;)Ljava/lang/AbstractStringBuilder;"⟩
abbrev cJ5_append_3fe6f : ByteArray := prog_9_method_31_code
def yJ5_append_3fe6f : MethodName := ⟨RJ5, "append", "(C)Ljava/lang/AbstractStringBuilder;"⟩
abbrev cJ5_append_c97b9 : ByteArray := prog_9_method_32_code
def yJ5_append_c97b9 : MethodName := ⟨RJ5, "append", "(I)Ljava/lang/AbstractStringBuilder;"⟩
abbrev cJ5_getValue_6d5f1 : ByteArray := prog_9_method_64_code
def yJ5_getValue_6d5f1 : MethodName := ⟨RJ5, "getValue", "()[B"⟩
abbrev cJ5_isLatin1_aae02 : ByteArray := prog_9_method_68_code
def yJ5_isLatin1_aae02 : MethodName := ⟨RJ5, "isLatin1", "()Z"⟩
abbrev cJ5_inflateIfNeededFor_a7421 : ByteArray := prog_9_method_71_code
def yJ5_inflateIfNeededFor_a7421 : MethodName := ⟨RJ5, "inflateIfNeededFor", "(Ljava/lang/String;)V"⟩
abbrev cJ5_putStringAt_47b60 : ByteArray := prog_9_method_73_code
def yJ5_putStringAt_47b60 : MethodName := ⟨RJ5, "putStringAt", "(ILjava/lang/String;)V"⟩
abbrev cJ6_getChars_ba4f3 : ByteArray := prog_11_method_12_code
def yJ6_getChars_ba4f3 : MethodName := ⟨RJ6, "getChars", "(II[B)I"⟩
abbrev cJ6_stringSize_0f7a4 : ByteArray := prog_11_method_13_code
def yJ6_stringSize_0f7a4 : MethodName := ⟨RJ6, "stringSize", "(I)I"⟩
abbrev cJ6_bitCount_0f7a4 : ByteArray := prog_11_method_49_code
def yJ6_bitCount_0f7a4 : MethodName := ⟨RJ6, "bitCount", "(I)I"⟩
abbrev cJ9_max_7cf53 : ByteArray := prog_12_method_65_code
def yJ9_max_7cf53 : MethodName := ⟨RJ9, "max", "(II)I"⟩
abbrev cJ9_min_7cf53 : ByteArray := prog_12_method_69_code
def yJ9_min_7cf53 : MethodName := ⟨RJ9, "min", "(II)I"⟩
abbrev cJ9_min_f86c9 : ByteArray := prog_12_method_70_code
def yJ9_min_f86c9 : MethodName := ⟨RJ9, "min", "(JJ)J"⟩
abbrev cJ0_init_81219 : ByteArray := prog_14_method_53_code
def yJ0_init_81219 : MethodName := ⟨RJ0, "<init>", "(Ljava/lang/StringBuilder;)V"⟩
abbrev cJ0_length_8abf5 : ByteArray := prog_14_method_54_code
def yJ0_length_8abf5 : MethodName := ⟨RJ0, "length", "()I"⟩
abbrev cJ0_charAt_5068e : ByteArray := prog_14_method_56_code
def yJ0_charAt_5068e : MethodName := ⟨RJ0, "charAt", "(I)C"⟩
abbrev cJ0_getBytes_840e7 : ByteArray := prog_14_method_147_code
def yJ0_getBytes_840e7 : MethodName := ⟨RJ0, "getBytes", "([BIB)V"⟩
abbrev cJ0_init_db425 : ByteArray := prog_14_method_150_code
def yJ0_init_db425 : MethodName := ⟨RJ0, "<init>", "(Ljava/lang/AbstractStringBuilder;Ljava/lang/Void;)V"⟩
abbrev cJ0_coder_7d493 : ByteArray := prog_14_method_152_code
def yJ0_coder_7d493 : MethodName := ⟨RJ0, "coder", "()B"⟩
abbrev cJ0_isLatin1_aae02 : ByteArray := prog_14_method_154_code
def yJ0_isLatin1_aae02 : MethodName := ⟨RJ0, "isLatin1", "()Z"⟩
abbrev cJ0_checkIndex_df160 : ByteArray := prog_14_method_155_code
def yJ0_checkIndex_df160 : MethodName := ⟨RJ0, "checkIndex", "(II)V"⟩
abbrev cJ4_init_da8c8 : ByteArray := prog_15_method_1_code
def yJ4_init_da8c8 : MethodName := ⟨RJ4, "<init>", "()V"⟩
abbrev cJ4_append_15ec4 : ByteArray := prog_15_method_7_code
def yJ4_append_15ec4 : MethodName := ⟨RJ4, "append", "(Ljava/lang/String;)Ljava/lang/StringBuilder;"⟩
abbrev cJ4_append_cf468 : ByteArray := prog_15_method_14_code
def yJ4_append_cf468 : MethodName := ⟨RJ4, "append", "(C)Ljava/lang/StringBuilder;"⟩
abbrev cJ4_append_bf812 : ByteArray := prog_15_method_15_code
def yJ4_append_bf812 : MethodName := ⟨RJ4, "append", "(I)Ljava/lang/StringBuilder;"⟩
abbrev cJ4_toString_0e30d : ByteArray := prog_15_method_42_code
def yJ4_toString_0e30d : MethodName := ⟨RJ4, "toString", "()Ljava/lang/String;"⟩
abbrev cJ4_length_8abf5 : ByteArray := prog_15_method_93_code
def yJ4_length_8abf5 : MethodName := ⟨RJ4, "length", "()I"⟩
abbrev cJ1_charAt_3b067 : ByteArray := prog_16_method_2_code
def yJ1_charAt_3b067 : MethodName := ⟨RJ1, "charAt", "([BI)C"⟩
abbrev cJ1_canEncode_fc78d : ByteArray := prog_16_method_3_code
def yJ1_canEncode_fc78d : MethodName := ⟨RJ1, "canEncode", "(C)Z"⟩
abbrev cJ7_fill_53178 : ByteArray := prog_19_method_103_code
def yJ7_fill_53178 : MethodName := ⟨RJ7, "fill", "([II)V"⟩
abbrev cJ7_copyOf_9075b : ByteArray := prog_19_method_121_code
def yJ7_copyOf_9075b : MethodName := ⟨RJ7, "copyOf", "([BI)[B"⟩
abbrev cJ7_checkLength_df160 : ByteArray := prog_19_method_131_code
def yJ7_checkLength_df160 : MethodName := ⟨RJ7, "checkLength", "(II)V"⟩
abbrev cJ7_copyOfRange_39247 : ByteArray := prog_19_method_132_code
def yJ7_copyOfRange_39247 : MethodName := ⟨RJ7, "copyOfRange", "([BII)[B"⟩
abbrev cJ7_copyOfRangeByte_39247 : ByteArray := prog_19_method_133_code
def yJ7_copyOfRangeByte_39247 : MethodName := ⟨RJ7, "copyOfRangeByte", "([BII)[B"⟩
abbrev cJ8_newLength_cabcc : ByteArray := prog_20_method_27_code
def yJ8_newLength_cabcc : MethodName := ⟨RJ8, "newLength", "(III)I"⟩
abbrev cJ3_checkIndex_8e157 : ByteArray := prog_21_method_11_code
def yJ3_checkIndex_8e157 : MethodName := ⟨RJ3, "checkIndex", "(IILjava/util/function/BiFunction;)I"⟩
abbrev cL_cell : ByteArray := method_2_code
def yL_cell : MethodName := ⟨RL, "cell", "([II)I"⟩
abbrev cL_feeds : ByteArray := method_3_code
def yL_feeds : MethodName := ⟨RL, "feeds", "(LBallotWays;Ljava/lang/String;)Z"⟩
abbrev cL_ranking : ByteArray := method_4_code
def yL_ranking : MethodName := ⟨RL, "ranking", "(II)[I"⟩
abbrev cL_places : ByteArray := method_5_code
def yL_places : MethodName := ⟨RL, "places", "([II)I"⟩
abbrev cL_told : ByteArray := method_6_code
def yL_told : MethodName := ⟨RL, "told", "([III)Ljava/lang/String;"⟩
abbrev cL_areAlike : ByteArray := method_7_code
def yL_areAlike : MethodName := ⟨RL, "areAlike", "([I[II)Z"⟩
abbrev cL_comes : ByteArray := method_8_code
def yL_comes : MethodName := ⟨RL, "comes", "(LBallotWays;[IIII[[I[I)I"⟩
abbrev cL_bits : ByteArray := method_11_code
def yL_bits : MethodName := ⟨RL, "bits", "(I)I"⟩
