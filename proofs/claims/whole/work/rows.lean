section
-- ===== PART A: goes FIRST, ahead of the names: the tables' words, and 'selects' of the private methods out of them =====
/-- a private method of a class that the tables say can be made, by its rows of tables_1 -/
def lw_okq (q : MethodName × Nat) : Prop := (q.1.cls ≠ "java/lang/invoke/MethodHandle" ∧ q.1.cls ≠ "java/lang/invoke/VarHandle") ∧ Cond.instantiable q.1.cls q.2 ∈ tables_1 ∧ Cond.privateMethod q.1 ∈ tables_1 ∧ Cond.instanceMethod q.1 ∈ tables_1
theorem lw_p0 : lw_okq (⟨"MinuteSignal", "rowChanged", "()V"⟩, 8) := ⟨⟨by decide +kernel, by decide +kernel⟩, List.mem_of_getElem? (i := 11) (by decide +kernel), List.mem_of_getElem? (i := 181) (by decide +kernel), List.mem_of_getElem? (i := 182) (by decide +kernel)⟩
theorem lw_p1 : lw_okq (⟨"MinuteSignal", "isShown", "()Z"⟩, 8) := ⟨⟨by decide +kernel, by decide +kernel⟩, List.mem_of_getElem? (i := 11) (by decide +kernel), List.mem_of_getElem? (i := 210) (by decide +kernel), List.mem_of_getElem? (i := 211) (by decide +kernel)⟩
theorem lw_p2 : lw_okq (⟨"MinuteSignal", "fittingFrames", "()LMinuteSignal$Frames;"⟩, 8) := ⟨⟨by decide +kernel, by decide +kernel⟩, List.mem_of_getElem? (i := 11) (by decide +kernel), List.mem_of_getElem? (i := 214) (by decide +kernel), List.mem_of_getElem? (i := 215) (by decide +kernel)⟩
theorem lw_p3 : lw_okq (⟨"MinuteSignal", "fittingVote", "()LMinuteSignal$Vote;"⟩, 8) := ⟨⟨by decide +kernel, by decide +kernel⟩, List.mem_of_getElem? (i := 11) (by decide +kernel), List.mem_of_getElem? (i := 234) (by decide +kernel), List.mem_of_getElem? (i := 235) (by decide +kernel)⟩
theorem lw_p4 : lw_okq (⟨"MinuteSignal", "drifted", "()I"⟩, 8) := ⟨⟨by decide +kernel, by decide +kernel⟩, List.mem_of_getElem? (i := 11) (by decide +kernel), List.mem_of_getElem? (i := 397) (by decide +kernel), List.mem_of_getElem? (i := 398) (by decide +kernel)⟩
theorem lw_p5 : lw_okq (⟨"MinuteSignal", "apart", "()I"⟩, 8) := ⟨⟨by decide +kernel, by decide +kernel⟩, List.mem_of_getElem? (i := 11) (by decide +kernel), List.mem_of_getElem? (i := 401) (by decide +kernel), List.mem_of_getElem? (i := 402) (by decide +kernel)⟩
theorem lw_p6 : lw_okq (⟨"MinuteSignalModel", "remember", "()V"⟩, 14) := ⟨⟨by decide +kernel, by decide +kernel⟩, List.mem_of_getElem? (i := 425) (by decide +kernel), List.mem_of_getElem? (i := 481) (by decide +kernel), List.mem_of_getElem? (i := 482) (by decide +kernel)⟩
theorem lw_p7 : lw_okq (⟨"MinuteSignalModel", "comes", "(I)V"⟩, 14) := ⟨⟨by decide +kernel, by decide +kernel⟩, List.mem_of_getElem? (i := 425) (by decide +kernel), List.mem_of_getElem? (i := 485) (by decide +kernel), List.mem_of_getElem? (i := 486) (by decide +kernel)⟩
theorem lw_p8 : lw_okq (⟨"MinuteSignalModel", "becomes", "(II)I"⟩, 14) := ⟨⟨by decide +kernel, by decide +kernel⟩, List.mem_of_getElem? (i := 425) (by decide +kernel), List.mem_of_getElem? (i := 505) (by decide +kernel), List.mem_of_getElem? (i := 506) (by decide +kernel)⟩
theorem lw_p9 : lw_okq (⟨"MinuteSignalModel", "tells", "()V"⟩, 14) := ⟨⟨by decide +kernel, by decide +kernel⟩, List.mem_of_getElem? (i := 425) (by decide +kernel), List.mem_of_getElem? (i := 517) (by decide +kernel), List.mem_of_getElem? (i := 518) (by decide +kernel)⟩
theorem lw_p10 : lw_okq (⟨"MinuteSignalModel", "layPhase", "()V"⟩, 14) := ⟨⟨by decide +kernel, by decide +kernel⟩, List.mem_of_getElem? (i := 425) (by decide +kernel), List.mem_of_getElem? (i := 521) (by decide +kernel), List.mem_of_getElem? (i := 522) (by decide +kernel)⟩
theorem lw_p11 : lw_okq (⟨"MinuteSignalModel", "symbolAt", "(I)I"⟩, 14) := ⟨⟨by decide +kernel, by decide +kernel⟩, List.mem_of_getElem? (i := 425) (by decide +kernel), List.mem_of_getElem? (i := 525) (by decide +kernel), List.mem_of_getElem? (i := 526) (by decide +kernel)⟩
theorem lw_p12 : lw_okq (⟨"MinuteSignalModel", "layFrames", "()V"⟩, 14) := ⟨⟨by decide +kernel, by decide +kernel⟩, List.mem_of_getElem? (i := 425) (by decide +kernel), List.mem_of_getElem? (i := 529) (by decide +kernel), List.mem_of_getElem? (i := 530) (by decide +kernel)⟩
theorem lw_p13 : lw_okq (⟨"MinuteSignalModel", "firstOf", "(I)I"⟩, 14) := ⟨⟨by decide +kernel, by decide +kernel⟩, List.mem_of_getElem? (i := 425) (by decide +kernel), List.mem_of_getElem? (i := 533) (by decide +kernel), List.mem_of_getElem? (i := 534) (by decide +kernel)⟩
theorem lw_p14 : lw_okq (⟨"MinuteSignalModel", "missesOf", "(I)I"⟩, 14) := ⟨⟨by decide +kernel, by decide +kernel⟩, List.mem_of_getElem? (i := 425) (by decide +kernel), List.mem_of_getElem? (i := 537) (by decide +kernel), List.mem_of_getElem? (i := 538) (by decide +kernel)⟩
theorem lw_p15 : lw_okq (⟨"MinuteSignalModel", "wrongOf", "(II)I"⟩, 14) := ⟨⟨by decide +kernel, by decide +kernel⟩, List.mem_of_getElem? (i := 425) (by decide +kernel), List.mem_of_getElem? (i := 541) (by decide +kernel), List.mem_of_getElem? (i := 542) (by decide +kernel)⟩
def lw_privs_1 : List (MethodName × Nat) := [(⟨"MinuteSignal", "rowChanged", "()V"⟩, 8), (⟨"MinuteSignal", "isShown", "()Z"⟩, 8), (⟨"MinuteSignal", "fittingFrames", "()LMinuteSignal$Frames;"⟩, 8), (⟨"MinuteSignal", "fittingVote", "()LMinuteSignal$Vote;"⟩, 8), (⟨"MinuteSignal", "drifted", "()I"⟩, 8), (⟨"MinuteSignal", "apart", "()I"⟩, 8), (⟨"MinuteSignalModel", "remember", "()V"⟩, 14), (⟨"MinuteSignalModel", "comes", "(I)V"⟩, 14), (⟨"MinuteSignalModel", "becomes", "(II)I"⟩, 14), (⟨"MinuteSignalModel", "tells", "()V"⟩, 14), (⟨"MinuteSignalModel", "layPhase", "()V"⟩, 14), (⟨"MinuteSignalModel", "symbolAt", "(I)I"⟩, 14), (⟨"MinuteSignalModel", "layFrames", "()V"⟩, 14), (⟨"MinuteSignalModel", "firstOf", "(I)I"⟩, 14), (⟨"MinuteSignalModel", "missesOf", "(I)I"⟩, 14), (⟨"MinuteSignalModel", "wrongOf", "(II)I"⟩, 14)]
theorem lw_r1 : ∀ q ∈ lw_privs_1, lw_okq q := List.forall_mem_cons.mpr ⟨lw_p0, List.forall_mem_cons.mpr ⟨lw_p1, List.forall_mem_cons.mpr ⟨lw_p2, List.forall_mem_cons.mpr ⟨lw_p3, List.forall_mem_cons.mpr ⟨lw_p4, List.forall_mem_cons.mpr ⟨lw_p5, List.forall_mem_cons.mpr ⟨lw_p6, List.forall_mem_cons.mpr ⟨lw_p7, List.forall_mem_cons.mpr ⟨lw_p8, List.forall_mem_cons.mpr ⟨lw_p9, List.forall_mem_cons.mpr ⟨lw_p10, List.forall_mem_cons.mpr ⟨lw_p11, List.forall_mem_cons.mpr ⟨lw_p12, List.forall_mem_cons.mpr ⟨lw_p13, List.forall_mem_cons.mpr ⟨lw_p14, List.forall_mem_cons.mpr ⟨lw_p15, fun _ h => absurd h List.not_mem_nil⟩⟩⟩⟩⟩⟩⟩⟩⟩⟩⟩⟩⟩⟩⟩⟩
theorem lw_p16 : lw_okq (⟨"MinuteSignalModel", "isShown", "()Z"⟩, 14) := ⟨⟨by decide +kernel, by decide +kernel⟩, List.mem_of_getElem? (i := 425) (by decide +kernel), List.mem_of_getElem? (i := 557) (by decide +kernel), List.mem_of_getElem? (i := 558) (by decide +kernel)⟩
theorem lw_p17 : lw_okq (⟨"MinuteSignalModel", "lastTime", "()I"⟩, 14) := ⟨⟨by decide +kernel, by decide +kernel⟩, List.mem_of_getElem? (i := 425) (by decide +kernel), List.mem_of_getElem? (i := 561) (by decide +kernel), List.mem_of_getElem? (i := 562) (by decide +kernel)⟩
theorem lw_p18 : lw_okq (⟨"MinuteSignalModel", "parity", "(III)I"⟩, 14) := ⟨⟨by decide +kernel, by decide +kernel⟩, List.mem_of_getElem? (i := 425) (by decide +kernel), List.mem_of_getElem? (i := 584) (by decide +kernel), List.mem_of_getElem? (i := 585) (by decide +kernel)⟩
theorem lw_p19 : lw_okq (⟨"MinuteSignalModel", "isClear", "(III)Z"⟩, 14) := ⟨⟨by decide +kernel, by decide +kernel⟩, List.mem_of_getElem? (i := 425) (by decide +kernel), List.mem_of_getElem? (i := 588) (by decide +kernel), List.mem_of_getElem? (i := 589) (by decide +kernel)⟩
theorem lw_p20 : lw_okq (⟨"MinuteSignalModel", "valueOf", "(III)I"⟩, 14) := ⟨⟨by decide +kernel, by decide +kernel⟩, List.mem_of_getElem? (i := 425) (by decide +kernel), List.mem_of_getElem? (i := 592) (by decide +kernel), List.mem_of_getElem? (i := 593) (by decide +kernel)⟩
theorem lw_p21 : lw_okq (⟨"MinuteSignalModel", "twoFigures", "(IIII)I"⟩, 14) := ⟨⟨by decide +kernel, by decide +kernel⟩, List.mem_of_getElem? (i := 425) (by decide +kernel), List.mem_of_getElem? (i := 596) (by decide +kernel), List.mem_of_getElem? (i := 597) (by decide +kernel)⟩
theorem lw_p22 : lw_okq (⟨"MinuteSignalModel", "apart", "()I"⟩, 14) := ⟨⟨by decide +kernel, by decide +kernel⟩, List.mem_of_getElem? (i := 425) (by decide +kernel), List.mem_of_getElem? (i := 630) (by decide +kernel), List.mem_of_getElem? (i := 631) (by decide +kernel)⟩
def lw_privs_2 : List (MethodName × Nat) := [(⟨"MinuteSignalModel", "isShown", "()Z"⟩, 14), (⟨"MinuteSignalModel", "lastTime", "()I"⟩, 14), (⟨"MinuteSignalModel", "parity", "(III)I"⟩, 14), (⟨"MinuteSignalModel", "isClear", "(III)Z"⟩, 14), (⟨"MinuteSignalModel", "valueOf", "(III)I"⟩, 14), (⟨"MinuteSignalModel", "twoFigures", "(IIII)I"⟩, 14), (⟨"MinuteSignalModel", "apart", "()I"⟩, 14)]
theorem lw_r2 : ∀ q ∈ lw_privs_2, lw_okq q := List.forall_mem_cons.mpr ⟨lw_p16, List.forall_mem_cons.mpr ⟨lw_p17, List.forall_mem_cons.mpr ⟨lw_p18, List.forall_mem_cons.mpr ⟨lw_p19, List.forall_mem_cons.mpr ⟨lw_p20, List.forall_mem_cons.mpr ⟨lw_p21, List.forall_mem_cons.mpr ⟨lw_p22, fun _ h => absurd h List.not_mem_nil⟩⟩⟩⟩⟩⟩⟩
def lw_privs : List (MethodName × Nat) := lw_privs_1 ++ (lw_privs_2)
def lw_tbl : List Cond := k2_sels lw_privs ++ tables_1
theorem lw_privs_ok : ∀ q ∈ lw_privs, lw_okq q := by
  show ∀ q ∈ lw_privs_1 ++ (lw_privs_2), lw_okq q
  exact List.forall_mem_append.mpr ⟨lw_r1, lw_r2⟩
end
section
def RX0 : String := "MinuteSignal$Frames"
def TX0 : u_T := fun k => match k with
  | 0 => ("MinuteSignal$Frames", "gaps", "[I", true)
  | 1 => ("MinuteSignal$Frames", "ones", "[I", true)
  | 2 => ("MinuteSignal$Frames", "clear", "[I", true)
  | 3 => ("MinuteSignal$Frames", "phase", "I", false)
  | _ => ("MinuteSignal$Frames", "count", "I", false)
def tyX0 : Nat → FieldType := fun k => match k with
  | 0 => .array .int
  | 1 => .array .int
  | 2 => .array .int
  | 3 => .int
  | _ => .int
abbrev wsX00 : List Cond := u_ws RX0 TX0 5
theorem nmX0 : ∀ a, a < 5 → ∀ b, b < 5 → a ≠ b → (TX0 a).2.1 ≠ (TX0 b).2.1 := by decide +kernel
theorem tyX0_ok : ∀ k, k < 5 → parseFieldDescriptor (TX0 k).2.2.1 = some (tyX0 k) := by decide +kernel
abbrev cX0_init : ByteArray := prog_2_method_1_code
def yX0_init : MethodName := ⟨RX0, "<init>", "()V"⟩
abbrev cX0_cut : ByteArray := prog_2_method_2_code
def yX0_cut : MethodName := ⟨RX0, "cut", "(LMinuteSignal$Held;)V"⟩
abbrev cX0_findPhase : ByteArray := prog_2_method_3_code
def yX0_findPhase : MethodName := ⟨RX0, "findPhase", "(LMinuteSignal$Held;)V"⟩
abbrev cX0_takeFrame : ByteArray := prog_2_method_4_code
def yX0_takeFrame : MethodName := ⟨RX0, "takeFrame", "(LMinuteSignal$Held;I)V"⟩
abbrev cX0_firstOf : ByteArray := prog_2_method_5_code
def yX0_firstOf : MethodName := ⟨RX0, "firstOf", "(I)I"⟩
abbrev cX0_allClear : ByteArray := prog_2_method_6_code
def yX0_allClear : MethodName := ⟨RX0, "allClear", "(II)Z"⟩
abbrev cX0_parity : ByteArray := prog_2_method_7_code
def yX0_parity : MethodName := ⟨RX0, "parity", "(II)I"⟩
abbrev cX0_minuteOfHour : ByteArray := prog_2_method_8_code
def yX0_minuteOfHour : MethodName := ⟨RX0, "minuteOfHour", "(I)I"⟩
abbrev cX0_hour : ByteArray := prog_2_method_9_code
def yX0_hour : MethodName := ⟨RX0, "hour", "(I)I"⟩
abbrev cX0_byFigures : ByteArray := prog_2_method_10_code
def yX0_byFigures : MethodName := ⟨RX0, "byFigures", "(III)I"⟩
abbrev cX0_wrong : ByteArray := prog_2_method_11_code
def yX0_wrong : MethodName := ⟨RX0, "wrong", "(II)I"⟩
abbrev cX0_missesOf : ByteArray := prog_2_method_12_code
def yX0_missesOf : MethodName := ⟨RX0, "missesOf", "(III)I"⟩
abbrev cX0_missesFrom : ByteArray := prog_2_method_13_code
def yX0_missesFrom : MethodName := ⟨RX0, "missesFrom", "(I)I"⟩
def RX1 : String := "MinuteSignal$Held"
def TX1 : u_T := fun k => match k with
  | 0 => ("MinuteSignal$Held", "symbols", "[B", true)
  | 1 => ("MinuteSignal$Held", "size", "I", false)
  | 2 => ("MinuteSignal$Held", "need", "I", false)
  | 3 => ("MinuteSignal$Held", "drift", "I", false)
  | 4 => ("MinuteSignal$Held", "clock", "I", false)
  | _ => ("MinuteSignal$Held", "age", "I", false)
def tyX1 : Nat → FieldType := fun k => match k with
  | 0 => .array .byte
  | 1 => .int
  | 2 => .int
  | 3 => .int
  | 4 => .int
  | _ => .int
abbrev wsX10 : List Cond := u_ws RX1 TX1 6
theorem nmX1 : ∀ a, a < 6 → ∀ b, b < 6 → a ≠ b → (TX1 a).2.1 ≠ (TX1 b).2.1 := by decide +kernel
theorem tyX1_ok : ∀ k, k < 6 → parseFieldDescriptor (TX1 k).2.2.1 = some (tyX1 k) := by decide +kernel
abbrev cX1_init : ByteArray := prog_3_method_1_code
def yX1_init : MethodName := ⟨RX1, "<init>", "()V"⟩
abbrev cX1_append : ByteArray := prog_3_method_2_code
def yX1_append : MethodName := ⟨RX1, "append", "(I)V"⟩
abbrev cX1_dropFirst : ByteArray := prog_3_method_3_code
def yX1_dropFirst : MethodName := ⟨RX1, "dropFirst", "(I)V"⟩
abbrev cX1_copyFrom : ByteArray := prog_3_method_4_code
def yX1_copyFrom : MethodName := ⟨RX1, "copyFrom", "(LMinuteSignal$Held;)V"⟩
def RX2 : String := "MinuteSignal$History"
def TX2 : u_T := fun k => match k with
  | 0 => ("MinuteSignal$History", "states", "[LMinuteSignal$Held;", true)
  | 1 => ("MinuteSignal$History", "next", "I", false)
  | _ => ("MinuteSignal$History", "size", "I", false)
def tyX2 : Nat → FieldType := fun k => match k with
  | 0 => .array (.object "MinuteSignal$Held")
  | 1 => .int
  | _ => .int
abbrev wsX20 : List Cond := u_ws RX2 TX2 3
theorem nmX2 : ∀ a, a < 3 → ∀ b, b < 3 → a ≠ b → (TX2 a).2.1 ≠ (TX2 b).2.1 := by decide +kernel
theorem tyX2_ok : ∀ k, k < 3 → parseFieldDescriptor (TX2 k).2.2.1 = some (tyX2 k) := by decide +kernel
abbrev cX2_init : ByteArray := prog_4_method_1_code
def yX2_init : MethodName := ⟨RX2, "<init>", "()V"⟩
abbrev cX2_remember : ByteArray := prog_4_method_2_code
def yX2_remember : MethodName := ⟨RX2, "remember", "(LMinuteSignal$Held;)V"⟩
abbrev cX2_recall : ByteArray := prog_4_method_3_code
def yX2_recall : MethodName := ⟨RX2, "recall", "(LMinuteSignal$Held;)V"⟩
abbrev cX2_forget : ByteArray := prog_4_method_4_code
def yX2_forget : MethodName := ⟨RX2, "forget", "()V"⟩
def RX3 : String := "MinuteSignal$Times"
def TX3 : u_T := fun k => match k with
  | _ => ("", "", "", false)
def tyX3 : Nat → FieldType := fun k => match k with
  | _ => .int
abbrev wsX30 : List Cond := u_ws RX3 TX3 0
theorem nmX3 : ∀ a, a < 0 → ∀ b, b < 0 → a ≠ b → (TX3 a).2.1 ≠ (TX3 b).2.1 := by decide +kernel
theorem tyX3_ok : ∀ k, k < 0 → parseFieldDescriptor (TX3 k).2.2.1 = some (tyX3 k) := by decide +kernel
abbrev cX3_isTime : ByteArray := prog_5_method_2_code
def yX3_isTime : MethodName := ⟨RX3, "isTime", "(IIII)Z"⟩
abbrev cX3_isSign : ByteArray := prog_5_method_3_code
def yX3_isSign : MethodName := ⟨RX3, "isSign", "(I)Z"⟩
abbrev cX3_of : ByteArray := prog_5_method_4_code
def yX3_of : MethodName := ⟨RX3, "of", "(IIII)I"⟩
abbrev cX3_minuteOf : ByteArray := prog_5_method_5_code
def yX3_minuteOf : MethodName := ⟨RX3, "minuteOf", "(I)I"⟩
abbrev cX3_summerOf : ByteArray := prog_5_method_6_code
def yX3_summerOf : MethodName := ⟨RX3, "summerOf", "(I)I"⟩
abbrev cX3_shiftOf : ByteArray := prog_5_method_7_code
def yX3_shiftOf : MethodName := ⟨RX3, "shiftOf", "(I)I"⟩
abbrev cX3_leapOf : ByteArray := prog_5_method_8_code
def yX3_leapOf : MethodName := ⟨RX3, "leapOf", "(I)I"⟩
abbrev cX3_partOf : ByteArray := prog_5_method_9_code
def yX3_partOf : MethodName := ⟨RX3, "partOf", "(II)I"⟩
abbrev cX3_next : ByteArray := prog_5_method_10_code
def yX3_next : MethodName := ⟨RX3, "next", "(I)I"⟩
abbrev cX3_later : ByteArray := prog_5_method_11_code
def yX3_later : MethodName := ⟨RX3, "later", "(II)I"⟩
abbrev cX3_bitsOf : ByteArray := prog_5_method_12_code
def yX3_bitsOf : MethodName := ⟨RX3, "bitsOf", "(I)I"⟩
def RX4 : String := "MinuteSignal$Vote"
def TX4 : u_T := fun k => match k with
  | 0 => ("MinuteSignal$Vote", "misses", "[I", true)
  | 1 => ("MinuteSignal$Vote", "byMinute", "[I", true)
  | 2 => ("MinuteSignal$Vote", "byHour", "[[I", true)
  | 3 => ("MinuteSignal$Vote", "best", "I", false)
  | 4 => ("MinuteSignal$Vote", "fewest", "I", false)
  | 5 => ("MinuteSignal$Vote", "margin", "I", false)
  | _ => ("MinuteSignal$Vote", "last", "I", false)
def tyX4 : Nat → FieldType := fun k => match k with
  | 0 => .array .int
  | 1 => .array .int
  | 2 => .array (.array .int)
  | 3 => .int
  | 4 => .int
  | 5 => .int
  | _ => .int
abbrev wsX40 : List Cond := u_ws RX4 TX4 7
theorem nmX4 : ∀ a, a < 7 → ∀ b, b < 7 → a ≠ b → (TX4 a).2.1 ≠ (TX4 b).2.1 := by decide +kernel
theorem tyX4_ok : ∀ k, k < 7 → parseFieldDescriptor (TX4 k).2.2.1 = some (tyX4 k) := by decide +kernel
abbrev cX4_init : ByteArray := prog_6_method_1_code
def yX4_init : MethodName := ⟨RX4, "<init>", "()V"⟩
abbrev cX4_take : ByteArray := prog_6_method_2_code
def yX4_take : MethodName := ⟨RX4, "take", "(LMinuteSignal$Frames;)V"⟩
abbrev cX4_countByMinute : ByteArray := prog_6_method_3_code
def yX4_countByMinute : MethodName := ⟨RX4, "countByMinute", "(LMinuteSignal$Frames;)V"⟩
abbrev cX4_countByHour : ByteArray := prog_6_method_4_code
def yX4_countByHour : MethodName := ⟨RX4, "countByHour", "(LMinuteSignal$Frames;)V"⟩
abbrev cX4_addUp : ByteArray := prog_6_method_5_code
def yX4_addUp : MethodName := ⟨RX4, "addUp", "(II)V"⟩
abbrev cX4_timeAt : ByteArray := prog_6_method_6_code
def yX4_timeAt : MethodName := ⟨RX4, "timeAt", "(II)I"⟩
abbrev cX4_choose : ByteArray := prog_6_method_7_code
def yX4_choose : MethodName := ⟨RX4, "choose", "()V"⟩
abbrev cX4_closeCount : ByteArray := prog_6_method_8_code
def yX4_closeCount : MethodName := ⟨RX4, "closeCount", "(I)I"⟩
abbrev cX4_closeTime : ByteArray := prog_6_method_9_code
def yX4_closeTime : MethodName := ⟨RX4, "closeTime", "(II)I"⟩
def RX5 : String := "MinuteSignal"
def TX5 : u_T := fun k => match k with
  | 0 => ("MinuteSignal", "now", "LMinuteSignal$Held;", true)
  | 1 => ("MinuteSignal", "history", "LMinuteSignal$History;", true)
  | 2 => ("MinuteSignal", "images", "[LMinuteSignal$Held;", true)
  | 3 => ("MinuteSignal", "imageKept", "[Z", true)
  | 4 => ("MinuteSignal", "framesNow", "LMinuteSignal$Frames;", true)
  | 5 => ("MinuteSignal", "voteNow", "LMinuteSignal$Vote;", true)
  | 6 => ("MinuteSignal", "framesFit", "Z", false)
  | _ => ("MinuteSignal", "voteFits", "Z", false)
def tyX5 : Nat → FieldType := fun k => match k with
  | 0 => .object "MinuteSignal$Held"
  | 1 => .object "MinuteSignal$History"
  | 2 => .array (.object "MinuteSignal$Held")
  | 3 => .array .boolean
  | 4 => .object "MinuteSignal$Frames"
  | 5 => .object "MinuteSignal$Vote"
  | 6 => .boolean
  | _ => .boolean
abbrev wsX50 : List Cond := u_ws RX5 TX5 8
theorem nmX5 : ∀ a, a < 8 → ∀ b, b < 8 → a ≠ b → (TX5 a).2.1 ≠ (TX5 b).2.1 := by decide +kernel
theorem tyX5_ok : ∀ k, k < 8 → parseFieldDescriptor (TX5 k).2.2.1 = some (tyX5 k) := by decide +kernel
abbrev cX5_init : ByteArray := prog_1_method_1_code
def yX5_init : MethodName := ⟨RX5, "<init>", "()V"⟩
abbrev cX5_hears : ByteArray := prog_1_method_2_code
def yX5_hears : MethodName := ⟨RX5, "hears", "(I)I"⟩
abbrev cX5_frames : ByteArray := prog_1_method_3_code
def yX5_frames : MethodName := ⟨RX5, "frames", "(II)I"⟩
abbrev cX5_loses : ByteArray := prog_1_method_4_code
def yX5_loses : MethodName := ⟨RX5, "loses", "(I)I"⟩
abbrev cX5_needs : ByteArray := prog_1_method_5_code
def yX5_needs : MethodName := ⟨RX5, "needs", "(I)I"⟩
abbrev cX5_drifts : ByteArray := prog_1_method_6_code
def yX5_drifts : MethodName := ⟨RX5, "drifts", "(I)I"⟩
abbrev cX5_sets : ByteArray := prog_1_method_7_code
def yX5_sets : MethodName := ⟨RX5, "sets", "()I"⟩
abbrev cX5_goes : ByteArray := prog_1_method_8_code
def yX5_goes : MethodName := ⟨RX5, "goes", "(I)I"⟩
abbrev cX5_undo : ByteArray := prog_1_method_9_code
def yX5_undo : MethodName := ⟨RX5, "undo", "()I"⟩
abbrev cX5_symbol : ByteArray := prog_1_method_10_code
def yX5_symbol : MethodName := ⟨RX5, "symbol", "(I)I"⟩
abbrev cX5_read : ByteArray := prog_1_method_11_code
def yX5_read : MethodName := ⟨RX5, "read", "(II)I"⟩
abbrev cX5_vote : ByteArray := prog_1_method_12_code
def yX5_vote : MethodName := ⟨RX5, "vote", "(I)I"⟩
abbrev cX5_misses : ByteArray := prog_1_method_13_code
def yX5_misses : MethodName := ⟨RX5, "misses", "(IIII)I"⟩
abbrev cX5_close : ByteArray := prog_1_method_14_code
def yX5_close : MethodName := ⟨RX5, "close", "(II)I"⟩
abbrev cX5_bits : ByteArray := prog_1_method_15_code
def yX5_bits : MethodName := ⟨RX5, "bits", "(IIII)I"⟩
abbrev cX5_clock : ByteArray := prog_1_method_16_code
def yX5_clock : MethodName := ⟨RX5, "clock", "(I)I"⟩
abbrev cX5_keep : ByteArray := prog_1_method_17_code
def yX5_keep : MethodName := ⟨RX5, "keep", "(I)I"⟩
abbrev cX5_back : ByteArray := prog_1_method_18_code
def yX5_back : MethodName := ⟨RX5, "back", "(I)I"⟩
abbrev cX5_count : ByteArray := prog_1_method_19_code
def yX5_count : MethodName := ⟨RX5, "count", "(I)I"⟩
abbrev cX5_symbolOfLength : ByteArray := prog_1_method_20_code
def yX5_symbolOfLength : MethodName := ⟨RX5, "symbolOfLength", "(I)I"⟩
abbrev cX5_rowChanged : ByteArray := prog_1_method_21_code
def yX5_rowChanged : MethodName := ⟨RX5, "rowChanged", "()V"⟩
abbrev cX5_fittingFrames : ByteArray := prog_1_method_22_code
def yX5_fittingFrames : MethodName := ⟨RX5, "fittingFrames", "()LMinuteSignal$Frames;"⟩
abbrev cX5_fittingVote : ByteArray := prog_1_method_23_code
def yX5_fittingVote : MethodName := ⟨RX5, "fittingVote", "()LMinuteSignal$Vote;"⟩
abbrev cX5_isShown : ByteArray := prog_1_method_24_code
def yX5_isShown : MethodName := ⟨RX5, "isShown", "()Z"⟩
abbrev cX5_drifted : ByteArray := prog_1_method_25_code
def yX5_drifted : MethodName := ⟨RX5, "drifted", "()I"⟩
abbrev cX5_apart : ByteArray := prog_1_method_26_code
def yX5_apart : MethodName := ⟨RX5, "apart", "()I"⟩
def RX6 : String := "MinuteSignalModel"
def TX6 : u_T := fun k => match k with
  | 0 => ("MinuteSignalModel", "now", "[I", true)
  | 1 => ("MinuteSignalModel", "undoMany", "I", false)
  | 2 => ("MinuteSignalModel", "undoAt", "I", false)
  | 3 => ("MinuteSignalModel", "undos", "[I", true)
  | 4 => ("MinuteSignalModel", "isKept", "[Z", true)
  | 5 => ("MinuteSignalModel", "kept", "[I", true)
  | 6 => ("MinuteSignalModel", "isTold", "Z", false)
  | 7 => ("MinuteSignalModel", "phase", "I", false)
  | 8 => ("MinuteSignalModel", "frameMany", "I", false)
  | 9 => ("MinuteSignalModel", "known", "[I", true)
  | 10 => ("MinuteSignalModel", "ones", "[I", true)
  | 11 => ("MinuteSignalModel", "missed", "[I", true)
  | 12 => ("MinuteSignalModel", "best", "I", false)
  | _ => ("MinuteSignalModel", "margin", "I", false)
def tyX6 : Nat → FieldType := fun k => match k with
  | 0 => .array .int
  | 1 => .int
  | 2 => .int
  | 3 => .array .int
  | 4 => .array .boolean
  | 5 => .array .int
  | 6 => .boolean
  | 7 => .int
  | 8 => .int
  | 9 => .array .int
  | 10 => .array .int
  | 11 => .array .int
  | 12 => .int
  | _ => .int
abbrev wsX60 : List Cond := u_ws RX6 TX6 14
theorem nmX6 : ∀ a, a < 14 → ∀ b, b < 14 → a ≠ b → (TX6 a).2.1 ≠ (TX6 b).2.1 := by decide +kernel
theorem tyX6_ok : ∀ k, k < 14 → parseFieldDescriptor (TX6 k).2.2.1 = some (tyX6 k) := by decide +kernel
abbrev cX6_init : ByteArray := prog_8_method_1_code
def yX6_init : MethodName := ⟨RX6, "<init>", "()V"⟩
abbrev cX6_in : ByteArray := prog_8_method_2_code
def yX6_in : MethodName := ⟨RX6, "in", "(III)Z"⟩
abbrev cX6_has : ByteArray := prog_8_method_3_code
def yX6_has : MethodName := ⟨RX6, "has", "(II)Z"⟩
abbrev cX6_many : ByteArray := prog_8_method_4_code
def yX6_many : MethodName := ⟨RX6, "many", "(I)I"⟩
abbrev cX6_figures : ByteArray := prog_8_method_5_code
def yX6_figures : MethodName := ⟨RX6, "figures", "(II)I"⟩
abbrev cX6_bitsOf : ByteArray := prog_8_method_6_code
def yX6_bitsOf : MethodName := ⟨RX6, "bitsOf", "(I)I"⟩
abbrev cX6_nextOf : ByteArray := prog_8_method_7_code
def yX6_nextOf : MethodName := ⟨RX6, "nextOf", "(I)I"⟩
abbrev cX6_later : ByteArray := prog_8_method_8_code
def yX6_later : MethodName := ⟨RX6, "later", "(II)I"⟩
abbrev cX6_isTime : ByteArray := prog_8_method_9_code
def yX6_isTime : MethodName := ⟨RX6, "isTime", "(IIII)Z"⟩
abbrev cX6_codeOf : ByteArray := prog_8_method_10_code
def yX6_codeOf : MethodName := ⟨RX6, "codeOf", "(IIII)I"⟩
abbrev cX6_partOf : ByteArray := prog_8_method_11_code
def yX6_partOf : MethodName := ⟨RX6, "partOf", "(II)I"⟩
abbrev cX6_remember : ByteArray := prog_8_method_12_code
def yX6_remember : MethodName := ⟨RX6, "remember", "()V"⟩
abbrev cX6_comes : ByteArray := prog_8_method_13_code
def yX6_comes : MethodName := ⟨RX6, "comes", "(I)V"⟩
abbrev cX6_hears : ByteArray := prog_8_method_14_code
def yX6_hears : MethodName := ⟨RX6, "hears", "(I)I"⟩
abbrev cX6_frames : ByteArray := prog_8_method_15_code
def yX6_frames : MethodName := ⟨RX6, "frames", "(II)I"⟩
abbrev cX6_loses : ByteArray := prog_8_method_16_code
def yX6_loses : MethodName := ⟨RX6, "loses", "(I)I"⟩
abbrev cX6_becomes : ByteArray := prog_8_method_17_code
def yX6_becomes : MethodName := ⟨RX6, "becomes", "(II)I"⟩
abbrev cX6_needs : ByteArray := prog_8_method_18_code
def yX6_needs : MethodName := ⟨RX6, "needs", "(I)I"⟩
abbrev cX6_drifts : ByteArray := prog_8_method_19_code
def yX6_drifts : MethodName := ⟨RX6, "drifts", "(I)I"⟩
abbrev cX6_symbolAt : ByteArray := prog_8_method_20_code
def yX6_symbolAt : MethodName := ⟨RX6, "symbolAt", "(I)I"⟩
abbrev cX6_layPhase : ByteArray := prog_8_method_21_code
def yX6_layPhase : MethodName := ⟨RX6, "layPhase", "()V"⟩
abbrev cX6_firstOf : ByteArray := prog_8_method_22_code
def yX6_firstOf : MethodName := ⟨RX6, "firstOf", "(I)I"⟩
abbrev cX6_layFrames : ByteArray := prog_8_method_23_code
def yX6_layFrames : MethodName := ⟨RX6, "layFrames", "()V"⟩
abbrev cX6_wrongOf : ByteArray := prog_8_method_24_code
def yX6_wrongOf : MethodName := ⟨RX6, "wrongOf", "(II)I"⟩
abbrev cX6_missesOf : ByteArray := prog_8_method_25_code
def yX6_missesOf : MethodName := ⟨RX6, "missesOf", "(I)I"⟩
abbrev cX6_tells : ByteArray := prog_8_method_26_code
def yX6_tells : MethodName := ⟨RX6, "tells", "()V"⟩
abbrev cX6_isShown : ByteArray := prog_8_method_27_code
def yX6_isShown : MethodName := ⟨RX6, "isShown", "()Z"⟩
abbrev cX6_lastTime : ByteArray := prog_8_method_28_code
def yX6_lastTime : MethodName := ⟨RX6, "lastTime", "()I"⟩
abbrev cX6_sets : ByteArray := prog_8_method_29_code
def yX6_sets : MethodName := ⟨RX6, "sets", "()I"⟩
abbrev cX6_goes : ByteArray := prog_8_method_30_code
def yX6_goes : MethodName := ⟨RX6, "goes", "(I)I"⟩
abbrev cX6_undo : ByteArray := prog_8_method_31_code
def yX6_undo : MethodName := ⟨RX6, "undo", "()I"⟩
abbrev cX6_symbol : ByteArray := prog_8_method_32_code
def yX6_symbol : MethodName := ⟨RX6, "symbol", "(I)I"⟩
abbrev cX6_isClear : ByteArray := prog_8_method_33_code
def yX6_isClear : MethodName := ⟨RX6, "isClear", "(III)Z"⟩
abbrev cX6_valueOf : ByteArray := prog_8_method_34_code
def yX6_valueOf : MethodName := ⟨RX6, "valueOf", "(III)I"⟩
abbrev cX6_parity : ByteArray := prog_8_method_35_code
def yX6_parity : MethodName := ⟨RX6, "parity", "(III)I"⟩
abbrev cX6_twoFigures : ByteArray := prog_8_method_36_code
def yX6_twoFigures : MethodName := ⟨RX6, "twoFigures", "(IIII)I"⟩
abbrev cX6_read : ByteArray := prog_8_method_37_code
def yX6_read : MethodName := ⟨RX6, "read", "(II)I"⟩
abbrev cX6_vote : ByteArray := prog_8_method_38_code
def yX6_vote : MethodName := ⟨RX6, "vote", "(I)I"⟩
abbrev cX6_misses : ByteArray := prog_8_method_39_code
def yX6_misses : MethodName := ⟨RX6, "misses", "(IIII)I"⟩
abbrev cX6_close : ByteArray := prog_8_method_40_code
def yX6_close : MethodName := ⟨RX6, "close", "(II)I"⟩
abbrev cX6_bits : ByteArray := prog_8_method_41_code
def yX6_bits : MethodName := ⟨RX6, "bits", "(IIII)I"⟩
abbrev cX6_apart : ByteArray := prog_8_method_42_code
def yX6_apart : MethodName := ⟨RX6, "apart", "()I"⟩
abbrev cX6_clock : ByteArray := prog_8_method_43_code
def yX6_clock : MethodName := ⟨RX6, "clock", "(I)I"⟩
abbrev cX6_keep : ByteArray := prog_8_method_44_code
def yX6_keep : MethodName := ⟨RX6, "keep", "(I)I"⟩
abbrev cX6_back : ByteArray := prog_8_method_45_code
def yX6_back : MethodName := ⟨RX6, "back", "(I)I"⟩
abbrev cX6_count : ByteArray := prog_8_method_46_code
def yX6_count : MethodName := ⟨RX6, "count", "(I)I"⟩
def RJ6 : String := "java/lang/Integer"
def TJ6 : u_T := fun k => match k with
  | _ => ("", "", "", false)
def tyJ6 : Nat → FieldType := fun k => match k with
  | _ => .int
abbrev wsJ60 : List Cond := u_ws RJ6 TJ6 0
theorem nmJ6 : ∀ a, a < 0 → ∀ b, b < 0 → a ≠ b → (TJ6 a).2.1 ≠ (TJ6 b).2.1 := by decide +kernel
theorem tyJ6_ok : ∀ k, k < 0 → parseFieldDescriptor (TJ6 k).2.2.1 = some (tyJ6 k) := by decide +kernel
abbrev cJ6_bitCount_0f7a4 : ByteArray := prog_9_method_49_code
def yJ6_bitCount_0f7a4 : MethodName := ⟨RJ6, "bitCount", "(I)I"⟩
def RJ9 : String := "java/lang/Math"
def TJ9 : u_T := fun k => match k with
  | _ => ("", "", "", false)
def tyJ9 : Nat → FieldType := fun k => match k with
  | _ => .int
abbrev wsJ90 : List Cond := u_ws RJ9 TJ9 0
theorem nmJ9 : ∀ a, a < 0 → ∀ b, b < 0 → a ≠ b → (TJ9 a).2.1 ≠ (TJ9 b).2.1 := by decide +kernel
theorem tyJ9_ok : ∀ k, k < 0 → parseFieldDescriptor (TJ9 k).2.2.1 = some (tyJ9 k) := by decide +kernel
abbrev cJ9_floorMod_7cf53 : ByteArray := prog_10_method_50_code
def yJ9_floorMod_7cf53 : MethodName := ⟨RJ9, "floorMod", "(II)I"⟩
abbrev cJ9_min_7cf53 : ByteArray := prog_10_method_69_code
def yJ9_min_7cf53 : MethodName := ⟨RJ9, "min", "(II)I"⟩
abbrev vwCl : List vw_C := [(RX0, TX0, 5), (RX1, TX1, 6), (RX2, TX2, 3), (RX4, TX4, 7), (RX5, TX5, 8), (RX6, TX6, 14)]
abbrev cL_law : ByteArray := code
end
section
theorem dX0_init_0 : decode cX0_init 0 = .ok (.aload_n 0, 1) := by decide +kernel
theorem dX0_init_1 : decode cX0_init 1 = .ok (.invokespecial 3, 3) := by decide +kernel
theorem dX0_init_4 : decode cX0_init 4 = .ok (.aload_n 0, 1) := by decide +kernel
theorem dX0_init_5 : decode cX0_init 5 = .ok (.bipush 20, 2) := by decide +kernel
theorem dX0_init_7 : decode cX0_init 7 = .ok (.newarray .int, 2) := by decide +kernel
theorem dX0_init_9 : decode cX0_init 9 = .ok (.putfield 9, 3) := by decide +kernel
theorem dX0_init_12 : decode cX0_init 12 = .ok (.aload_n 0, 1) := by decide +kernel
theorem dX0_init_13 : decode cX0_init 13 = .ok (.bipush 6, 2) := by decide +kernel
theorem dX0_init_15 : decode cX0_init 15 = .ok (.newarray .int, 2) := by decide +kernel
theorem dX0_init_17 : decode cX0_init 17 = .ok (.putfield 15, 3) := by decide +kernel
theorem dX0_init_20 : decode cX0_init 20 = .ok (.aload_n 0, 1) := by decide +kernel
theorem dX0_init_21 : decode cX0_init 21 = .ok (.bipush 6, 2) := by decide +kernel
theorem dX0_init_23 : decode cX0_init 23 = .ok (.newarray .int, 2) := by decide +kernel
theorem dX0_init_25 : decode cX0_init 25 = .ok (.putfield 18, 3) := by decide +kernel
theorem dX0_init_28 : decode cX0_init 28 = .ok (.return_, 1) := by decide +kernel
theorem dX0_cut_0 : decode cX0_cut 0 = .ok (.aload_n 0, 1) := by decide +kernel
theorem dX0_cut_1 : decode cX0_cut 1 = .ok (.aload_n 1, 1) := by decide +kernel
theorem dX0_cut_2 : decode cX0_cut 2 = .ok (.invokevirtual 21, 3) := by decide +kernel
theorem dX0_cut_5 : decode cX0_cut 5 = .ok (.aload_n 0, 1) := by decide +kernel
theorem dX0_cut_6 : decode cX0_cut 6 = .ok (.iconst 0, 1) := by decide +kernel
theorem dX0_cut_7 : decode cX0_cut 7 = .ok (.invokevirtual 25, 3) := by decide +kernel
theorem dX0_cut_10 : decode cX0_cut 10 = .ok (.istore_n 2, 1) := by decide +kernel
theorem dX0_cut_11 : decode cX0_cut 11 = .ok (.aload_n 0, 1) := by decide +kernel
theorem dX0_cut_12 : decode cX0_cut 12 = .ok (.iconst 0, 1) := by decide +kernel
theorem dX0_cut_13 : decode cX0_cut 13 = .ok (.putfield 29, 3) := by decide +kernel
theorem dX0_cut_16 : decode cX0_cut 16 = .ok (.aload_n 0, 1) := by decide +kernel
theorem dX0_cut_17 : decode cX0_cut 17 = .ok (.getfield 29, 3) := by decide +kernel
theorem dX0_cut_20 : decode cX0_cut 20 = .ok (.bipush 6, 2) := by decide +kernel
theorem dX0_cut_22 : decode cX0_cut 22 = .ok (.if_icmp .ge 36, 3) := by decide +kernel
theorem dX0_cut_25 : decode cX0_cut 25 = .ok (.iload_n 2, 1) := by decide +kernel
theorem dX0_cut_26 : decode cX0_cut 26 = .ok (.bipush 19, 2) := by decide +kernel
theorem dX0_cut_28 : decode cX0_cut 28 = .ok (.iadd, 1) := by decide +kernel
theorem dX0_cut_29 : decode cX0_cut 29 = .ok (.aload_n 1, 1) := by decide +kernel
theorem dX0_cut_30 : decode cX0_cut 30 = .ok (.getfield 33, 3) := by decide +kernel
theorem dX0_cut_33 : decode cX0_cut 33 = .ok (.if_icmp .gt 25, 3) := by decide +kernel
theorem dX0_cut_36 : decode cX0_cut 36 = .ok (.aload_n 0, 1) := by decide +kernel
theorem dX0_cut_37 : decode cX0_cut 37 = .ok (.aload_n 1, 1) := by decide +kernel
theorem dX0_cut_38 : decode cX0_cut 38 = .ok (.iload_n 2, 1) := by decide +kernel
theorem dX0_cut_39 : decode cX0_cut 39 = .ok (.invokevirtual 38, 3) := by decide +kernel
theorem dX0_cut_42 : decode cX0_cut 42 = .ok (.aload_n 0, 1) := by decide +kernel
theorem dX0_cut_43 : decode cX0_cut 43 = .ok (.dup, 1) := by decide +kernel
theorem dX0_cut_44 : decode cX0_cut 44 = .ok (.getfield 29, 3) := by decide +kernel
theorem dX0_cut_47 : decode cX0_cut 47 = .ok (.iconst 1, 1) := by decide +kernel
theorem dX0_cut_48 : decode cX0_cut 48 = .ok (.iadd, 1) := by decide +kernel
theorem dX0_cut_49 : decode cX0_cut 49 = .ok (.putfield 29, 3) := by decide +kernel
theorem dX0_cut_52 : decode cX0_cut 52 = .ok (.iinc 2 20, 3) := by decide +kernel
theorem dX0_cut_55 : decode cX0_cut 55 = .ok (.goto (-39), 3) := by decide +kernel
theorem dX0_cut_58 : decode cX0_cut 58 = .ok (.return_, 1) := by decide +kernel
theorem dX0_findPhase_0 : decode cX0_findPhase 0 = .ok (.iconst 0, 1) := by decide +kernel
theorem dX0_findPhase_1 : decode cX0_findPhase 1 = .ok (.istore_n 2, 1) := by decide +kernel
theorem dX0_findPhase_2 : decode cX0_findPhase 2 = .ok (.iload_n 2, 1) := by decide +kernel
theorem dX0_findPhase_3 : decode cX0_findPhase 3 = .ok (.bipush 20, 2) := by decide +kernel
theorem dX0_findPhase_5 : decode cX0_findPhase 5 = .ok (.if_icmp .ge 16, 3) := by decide +kernel
theorem dX0_findPhase_8 : decode cX0_findPhase 8 = .ok (.aload_n 0, 1) := by decide +kernel
theorem dX0_findPhase_9 : decode cX0_findPhase 9 = .ok (.getfield 9, 3) := by decide +kernel
theorem dX0_findPhase_12 : decode cX0_findPhase 12 = .ok (.iload_n 2, 1) := by decide +kernel
theorem dX0_findPhase_13 : decode cX0_findPhase 13 = .ok (.iconst 0, 1) := by decide +kernel
theorem dX0_findPhase_14 : decode cX0_findPhase 14 = .ok (.iastore, 1) := by decide +kernel
theorem dX0_findPhase_15 : decode cX0_findPhase 15 = .ok (.iinc 2 1, 3) := by decide +kernel
theorem dX0_findPhase_18 : decode cX0_findPhase 18 = .ok (.goto (-16), 3) := by decide +kernel
theorem dX0_findPhase_21 : decode cX0_findPhase 21 = .ok (.iconst 0, 1) := by decide +kernel
theorem dX0_findPhase_22 : decode cX0_findPhase 22 = .ok (.istore_n 2, 1) := by decide +kernel
theorem dX0_findPhase_23 : decode cX0_findPhase 23 = .ok (.iload_n 2, 1) := by decide +kernel
theorem dX0_findPhase_24 : decode cX0_findPhase 24 = .ok (.aload_n 1, 1) := by decide +kernel
theorem dX0_findPhase_25 : decode cX0_findPhase 25 = .ok (.getfield 33, 3) := by decide +kernel
theorem dX0_findPhase_28 : decode cX0_findPhase 28 = .ok (.if_icmp .ge 32, 3) := by decide +kernel
theorem dX0_findPhase_31 : decode cX0_findPhase 31 = .ok (.aload_n 1, 1) := by decide +kernel
theorem dX0_findPhase_32 : decode cX0_findPhase 32 = .ok (.getfield 42, 3) := by decide +kernel
theorem dX0_findPhase_35 : decode cX0_findPhase 35 = .ok (.iload_n 2, 1) := by decide +kernel
theorem dX0_findPhase_36 : decode cX0_findPhase 36 = .ok (.baload, 1) := by decide +kernel
theorem dX0_findPhase_37 : decode cX0_findPhase 37 = .ok (.iconst 3, 1) := by decide +kernel
theorem dX0_findPhase_38 : decode cX0_findPhase 38 = .ok (.if_icmp .ne 16, 3) := by decide +kernel
theorem dX0_findPhase_41 : decode cX0_findPhase 41 = .ok (.aload_n 0, 1) := by decide +kernel
theorem dX0_findPhase_42 : decode cX0_findPhase 42 = .ok (.getfield 9, 3) := by decide +kernel
theorem dX0_findPhase_45 : decode cX0_findPhase 45 = .ok (.iload_n 2, 1) := by decide +kernel
theorem dX0_findPhase_46 : decode cX0_findPhase 46 = .ok (.bipush 20, 2) := by decide +kernel
theorem dX0_findPhase_48 : decode cX0_findPhase 48 = .ok (.irem, 1) := by decide +kernel
theorem dX0_findPhase_49 : decode cX0_findPhase 49 = .ok (.dup2, 1) := by decide +kernel
theorem dX0_findPhase_50 : decode cX0_findPhase 50 = .ok (.iaload, 1) := by decide +kernel
theorem dX0_findPhase_51 : decode cX0_findPhase 51 = .ok (.iconst 1, 1) := by decide +kernel
theorem dX0_findPhase_52 : decode cX0_findPhase 52 = .ok (.iadd, 1) := by decide +kernel
theorem dX0_findPhase_53 : decode cX0_findPhase 53 = .ok (.iastore, 1) := by decide +kernel
theorem dX0_findPhase_54 : decode cX0_findPhase 54 = .ok (.iinc 2 1, 3) := by decide +kernel
theorem dX0_findPhase_57 : decode cX0_findPhase 57 = .ok (.goto (-34), 3) := by decide +kernel
theorem dX0_findPhase_60 : decode cX0_findPhase 60 = .ok (.aload_n 0, 1) := by decide +kernel
theorem dX0_findPhase_61 : decode cX0_findPhase 61 = .ok (.iconst 0, 1) := by decide +kernel
theorem dX0_findPhase_62 : decode cX0_findPhase 62 = .ok (.putfield 46, 3) := by decide +kernel
theorem dX0_findPhase_65 : decode cX0_findPhase 65 = .ok (.iconst 1, 1) := by decide +kernel
theorem dX0_findPhase_66 : decode cX0_findPhase 66 = .ok (.istore_n 2, 1) := by decide +kernel
theorem dX0_findPhase_67 : decode cX0_findPhase 67 = .ok (.iload_n 2, 1) := by decide +kernel
theorem dX0_findPhase_68 : decode cX0_findPhase 68 = .ok (.bipush 20, 2) := by decide +kernel
theorem dX0_findPhase_70 : decode cX0_findPhase 70 = .ok (.if_icmp .ge 32, 3) := by decide +kernel
theorem dX0_findPhase_73 : decode cX0_findPhase 73 = .ok (.aload_n 0, 1) := by decide +kernel
theorem dX0_findPhase_74 : decode cX0_findPhase 74 = .ok (.getfield 9, 3) := by decide +kernel
theorem dX0_findPhase_77 : decode cX0_findPhase 77 = .ok (.iload_n 2, 1) := by decide +kernel
theorem dX0_findPhase_78 : decode cX0_findPhase 78 = .ok (.iaload, 1) := by decide +kernel
theorem dX0_findPhase_79 : decode cX0_findPhase 79 = .ok (.aload_n 0, 1) := by decide +kernel
theorem dX0_findPhase_80 : decode cX0_findPhase 80 = .ok (.getfield 9, 3) := by decide +kernel
theorem dX0_findPhase_83 : decode cX0_findPhase 83 = .ok (.aload_n 0, 1) := by decide +kernel
theorem dX0_findPhase_84 : decode cX0_findPhase 84 = .ok (.getfield 46, 3) := by decide +kernel
theorem dX0_findPhase_87 : decode cX0_findPhase 87 = .ok (.iaload, 1) := by decide +kernel
theorem dX0_findPhase_88 : decode cX0_findPhase 88 = .ok (.if_icmp .le 8, 3) := by decide +kernel
theorem dX0_findPhase_91 : decode cX0_findPhase 91 = .ok (.aload_n 0, 1) := by decide +kernel
theorem dX0_findPhase_92 : decode cX0_findPhase 92 = .ok (.iload_n 2, 1) := by decide +kernel
theorem dX0_findPhase_93 : decode cX0_findPhase 93 = .ok (.putfield 46, 3) := by decide +kernel
theorem dX0_findPhase_96 : decode cX0_findPhase 96 = .ok (.iinc 2 1, 3) := by decide +kernel
theorem dX0_findPhase_99 : decode cX0_findPhase 99 = .ok (.goto (-32), 3) := by decide +kernel
theorem dX0_findPhase_102 : decode cX0_findPhase 102 = .ok (.return_, 1) := by decide +kernel
theorem dX0_takeFrame_0 : decode cX0_takeFrame 0 = .ok (.iconst 0, 1) := by decide +kernel
theorem dX0_takeFrame_1 : decode cX0_takeFrame 1 = .ok (.istore_n 3, 1) := by decide +kernel
theorem dX0_takeFrame_2 : decode cX0_takeFrame 2 = .ok (.iconst 0, 1) := by decide +kernel
theorem dX0_takeFrame_3 : decode cX0_takeFrame 3 = .ok (.istore 4, 2) := by decide +kernel
theorem dX0_takeFrame_5 : decode cX0_takeFrame 5 = .ok (.iconst 0, 1) := by decide +kernel
theorem dX0_takeFrame_6 : decode cX0_takeFrame 6 = .ok (.istore 5, 2) := by decide +kernel
theorem dX0_takeFrame_8 : decode cX0_takeFrame 8 = .ok (.iload 5, 2) := by decide +kernel
theorem dX0_takeFrame_10 : decode cX0_takeFrame 10 = .ok (.bipush 19, 2) := by decide +kernel
theorem dX0_takeFrame_12 : decode cX0_takeFrame 12 = .ok (.if_icmp .ge 53, 3) := by decide +kernel
theorem dX0_takeFrame_15 : decode cX0_takeFrame 15 = .ok (.aload_n 1, 1) := by decide +kernel
theorem dX0_takeFrame_16 : decode cX0_takeFrame 16 = .ok (.getfield 42, 3) := by decide +kernel
theorem dX0_takeFrame_19 : decode cX0_takeFrame 19 = .ok (.iload_n 2, 1) := by decide +kernel
theorem dX0_takeFrame_20 : decode cX0_takeFrame 20 = .ok (.iload 5, 2) := by decide +kernel
theorem dX0_takeFrame_22 : decode cX0_takeFrame 22 = .ok (.iadd, 1) := by decide +kernel
theorem dX0_takeFrame_23 : decode cX0_takeFrame 23 = .ok (.baload, 1) := by decide +kernel
theorem dX0_takeFrame_24 : decode cX0_takeFrame 24 = .ok (.istore 6, 2) := by decide +kernel
theorem dX0_takeFrame_26 : decode cX0_takeFrame 26 = .ok (.iload 6, 2) := by decide +kernel
theorem dX0_takeFrame_28 : decode cX0_takeFrame 28 = .ok (.iconst 1, 1) := by decide +kernel
theorem dX0_takeFrame_29 : decode cX0_takeFrame 29 = .ok (.if_icmp .ne 10, 3) := by decide +kernel
theorem dX0_takeFrame_32 : decode cX0_takeFrame 32 = .ok (.iload_n 3, 1) := by decide +kernel
theorem dX0_takeFrame_33 : decode cX0_takeFrame 33 = .ok (.iconst 1, 1) := by decide +kernel
theorem dX0_takeFrame_34 : decode cX0_takeFrame 34 = .ok (.iload 5, 2) := by decide +kernel
theorem dX0_takeFrame_36 : decode cX0_takeFrame 36 = .ok (.ishl, 1) := by decide +kernel
theorem dX0_takeFrame_37 : decode cX0_takeFrame 37 = .ok (.ior, 1) := by decide +kernel
theorem dX0_takeFrame_38 : decode cX0_takeFrame 38 = .ok (.istore_n 3, 1) := by decide +kernel
theorem dX0_takeFrame_39 : decode cX0_takeFrame 39 = .ok (.iload 6, 2) := by decide +kernel
theorem dX0_takeFrame_41 : decode cX0_takeFrame 41 = .ok (.iconst 1, 1) := by decide +kernel
theorem dX0_takeFrame_42 : decode cX0_takeFrame 42 = .ok (.if_icmp .eq 8, 3) := by decide +kernel
theorem dX0_takeFrame_45 : decode cX0_takeFrame 45 = .ok (.iload 6, 2) := by decide +kernel
theorem dX0_takeFrame_47 : decode cX0_takeFrame 47 = .ok (.ifCond .ne 12, 3) := by decide +kernel
theorem dX0_takeFrame_50 : decode cX0_takeFrame 50 = .ok (.iload 4, 2) := by decide +kernel
theorem dX0_takeFrame_52 : decode cX0_takeFrame 52 = .ok (.iconst 1, 1) := by decide +kernel
theorem dX0_takeFrame_53 : decode cX0_takeFrame 53 = .ok (.iload 5, 2) := by decide +kernel
theorem dX0_takeFrame_55 : decode cX0_takeFrame 55 = .ok (.ishl, 1) := by decide +kernel
theorem dX0_takeFrame_56 : decode cX0_takeFrame 56 = .ok (.ior, 1) := by decide +kernel
theorem dX0_takeFrame_57 : decode cX0_takeFrame 57 = .ok (.istore 4, 2) := by decide +kernel
theorem dX0_takeFrame_59 : decode cX0_takeFrame 59 = .ok (.iinc 5 1, 3) := by decide +kernel
theorem dX0_takeFrame_62 : decode cX0_takeFrame 62 = .ok (.goto (-54), 3) := by decide +kernel
theorem dX0_takeFrame_65 : decode cX0_takeFrame 65 = .ok (.aload_n 0, 1) := by decide +kernel
theorem dX0_takeFrame_66 : decode cX0_takeFrame 66 = .ok (.getfield 15, 3) := by decide +kernel
theorem dX0_takeFrame_69 : decode cX0_takeFrame 69 = .ok (.aload_n 0, 1) := by decide +kernel
theorem dX0_takeFrame_70 : decode cX0_takeFrame 70 = .ok (.getfield 29, 3) := by decide +kernel
theorem dX0_takeFrame_73 : decode cX0_takeFrame 73 = .ok (.iload_n 3, 1) := by decide +kernel
theorem dX0_takeFrame_74 : decode cX0_takeFrame 74 = .ok (.iastore, 1) := by decide +kernel
theorem dX0_takeFrame_75 : decode cX0_takeFrame 75 = .ok (.aload_n 0, 1) := by decide +kernel
theorem dX0_takeFrame_76 : decode cX0_takeFrame 76 = .ok (.getfield 18, 3) := by decide +kernel
theorem dX0_takeFrame_79 : decode cX0_takeFrame 79 = .ok (.aload_n 0, 1) := by decide +kernel
theorem dX0_takeFrame_80 : decode cX0_takeFrame 80 = .ok (.getfield 29, 3) := by decide +kernel
theorem dX0_takeFrame_83 : decode cX0_takeFrame 83 = .ok (.iload 4, 2) := by decide +kernel
theorem dX0_takeFrame_85 : decode cX0_takeFrame 85 = .ok (.iastore, 1) := by decide +kernel
theorem dX0_takeFrame_86 : decode cX0_takeFrame 86 = .ok (.return_, 1) := by decide +kernel
theorem dX0_firstOf_0 : decode cX0_firstOf 0 = .ok (.aload_n 0, 1) := by decide +kernel
theorem dX0_firstOf_1 : decode cX0_firstOf 1 = .ok (.getfield 46, 3) := by decide +kernel
theorem dX0_firstOf_4 : decode cX0_firstOf 4 = .ok (.iconst 1, 1) := by decide +kernel
theorem dX0_firstOf_5 : decode cX0_firstOf 5 = .ok (.iadd, 1) := by decide +kernel
theorem dX0_firstOf_6 : decode cX0_firstOf 6 = .ok (.bipush 20, 2) := by decide +kernel
theorem dX0_firstOf_8 : decode cX0_firstOf 8 = .ok (.irem, 1) := by decide +kernel
theorem dX0_firstOf_9 : decode cX0_firstOf 9 = .ok (.bipush 20, 2) := by decide +kernel
theorem dX0_firstOf_11 : decode cX0_firstOf 11 = .ok (.iload_n 1, 1) := by decide +kernel
theorem dX0_firstOf_12 : decode cX0_firstOf 12 = .ok (.imul, 1) := by decide +kernel
theorem dX0_firstOf_13 : decode cX0_firstOf 13 = .ok (.iadd, 1) := by decide +kernel
theorem dX0_firstOf_14 : decode cX0_firstOf 14 = .ok (.ireturn, 1) := by decide +kernel
theorem dX0_allClear_0 : decode cX0_allClear 0 = .ok (.aload_n 0, 1) := by decide +kernel
theorem dX0_allClear_1 : decode cX0_allClear 1 = .ok (.getfield 18, 3) := by decide +kernel
theorem dX0_allClear_4 : decode cX0_allClear 4 = .ok (.iload_n 1, 1) := by decide +kernel
theorem dX0_allClear_5 : decode cX0_allClear 5 = .ok (.iaload, 1) := by decide +kernel
theorem dX0_allClear_6 : decode cX0_allClear 6 = .ok (.iload_n 2, 1) := by decide +kernel
theorem dX0_allClear_7 : decode cX0_allClear 7 = .ok (.iand, 1) := by decide +kernel
theorem dX0_allClear_8 : decode cX0_allClear 8 = .ok (.iload_n 2, 1) := by decide +kernel
theorem dX0_allClear_9 : decode cX0_allClear 9 = .ok (.if_icmp .ne 7, 3) := by decide +kernel
theorem dX0_allClear_12 : decode cX0_allClear 12 = .ok (.iconst 1, 1) := by decide +kernel
theorem dX0_allClear_13 : decode cX0_allClear 13 = .ok (.goto 4, 3) := by decide +kernel
theorem dX0_allClear_16 : decode cX0_allClear 16 = .ok (.iconst 0, 1) := by decide +kernel
theorem dX0_allClear_17 : decode cX0_allClear 17 = .ok (.ireturn, 1) := by decide +kernel
theorem dX0_parity_0 : decode cX0_parity 0 = .ok (.aload_n 0, 1) := by decide +kernel
theorem dX0_parity_1 : decode cX0_parity 1 = .ok (.iload_n 1, 1) := by decide +kernel
theorem dX0_parity_2 : decode cX0_parity 2 = .ok (.iload_n 2, 1) := by decide +kernel
theorem dX0_parity_3 : decode cX0_parity 3 = .ok (.invokevirtual 49, 3) := by decide +kernel
theorem dX0_parity_6 : decode cX0_parity 6 = .ok (.ifCond .ne 5, 3) := by decide +kernel
theorem dX0_parity_9 : decode cX0_parity 9 = .ok (.iconst 2, 1) := by decide +kernel
theorem dX0_parity_10 : decode cX0_parity 10 = .ok (.ireturn, 1) := by decide +kernel
theorem dX0_parity_11 : decode cX0_parity 11 = .ok (.aload_n 0, 1) := by decide +kernel
theorem dX0_parity_12 : decode cX0_parity 12 = .ok (.getfield 15, 3) := by decide +kernel
theorem dX0_parity_15 : decode cX0_parity 15 = .ok (.iload_n 1, 1) := by decide +kernel
theorem dX0_parity_16 : decode cX0_parity 16 = .ok (.iaload, 1) := by decide +kernel
theorem dX0_parity_17 : decode cX0_parity 17 = .ok (.iload_n 2, 1) := by decide +kernel
theorem dX0_parity_18 : decode cX0_parity 18 = .ok (.iand, 1) := by decide +kernel
theorem dX0_parity_19 : decode cX0_parity 19 = .ok (.invokestatic 53, 3) := by decide +kernel
theorem dX0_parity_22 : decode cX0_parity 22 = .ok (.iconst 2, 1) := by decide +kernel
theorem dX0_parity_23 : decode cX0_parity 23 = .ok (.irem, 1) := by decide +kernel
theorem dX0_parity_24 : decode cX0_parity 24 = .ok (.ifCond .ne 7, 3) := by decide +kernel
theorem dX0_parity_27 : decode cX0_parity 27 = .ok (.iconst 1, 1) := by decide +kernel
theorem dX0_parity_28 : decode cX0_parity 28 = .ok (.goto 4, 3) := by decide +kernel
theorem dX0_parity_31 : decode cX0_parity 31 = .ok (.iconst 0, 1) := by decide +kernel
theorem dX0_parity_32 : decode cX0_parity 32 = .ok (.ireturn, 1) := by decide +kernel
theorem dX0_minuteOfHour_0 : decode cX0_minuteOfHour 0 = .ok (.aload_n 0, 1) := by decide +kernel
theorem dX0_minuteOfHour_1 : decode cX0_minuteOfHour 1 = .ok (.iload_n 1, 1) := by decide +kernel
theorem dX0_minuteOfHour_2 : decode cX0_minuteOfHour 2 = .ok (.sipush 2032, 3) := by decide +kernel
theorem dX0_minuteOfHour_5 : decode cX0_minuteOfHour 5 = .ok (.invokevirtual 49, 3) := by decide +kernel
theorem dX0_minuteOfHour_8 : decode cX0_minuteOfHour 8 = .ok (.ifCond .ne 6, 3) := by decide +kernel
theorem dX0_minuteOfHour_11 : decode cX0_minuteOfHour 11 = .ok (.bipush (-9), 2) := by decide +kernel
theorem dX0_minuteOfHour_13 : decode cX0_minuteOfHour 13 = .ok (.ireturn, 1) := by decide +kernel
theorem dX0_minuteOfHour_14 : decode cX0_minuteOfHour 14 = .ok (.aload_n 0, 1) := by decide +kernel
theorem dX0_minuteOfHour_15 : decode cX0_minuteOfHour 15 = .ok (.getfield 15, 3) := by decide +kernel
theorem dX0_minuteOfHour_18 : decode cX0_minuteOfHour 18 = .ok (.iload_n 1, 1) := by decide +kernel
theorem dX0_minuteOfHour_19 : decode cX0_minuteOfHour 19 = .ok (.iaload, 1) := by decide +kernel
theorem dX0_minuteOfHour_20 : decode cX0_minuteOfHour 20 = .ok (.bipush 8, 2) := by decide +kernel
theorem dX0_minuteOfHour_22 : decode cX0_minuteOfHour 22 = .ok (.ishr, 1) := by decide +kernel
theorem dX0_minuteOfHour_23 : decode cX0_minuteOfHour 23 = .ok (.bipush 7, 2) := by decide +kernel
theorem dX0_minuteOfHour_25 : decode cX0_minuteOfHour 25 = .ok (.iand, 1) := by decide +kernel
theorem dX0_minuteOfHour_26 : decode cX0_minuteOfHour 26 = .ok (.aload_n 0, 1) := by decide +kernel
theorem dX0_minuteOfHour_27 : decode cX0_minuteOfHour 27 = .ok (.getfield 15, 3) := by decide +kernel
theorem dX0_minuteOfHour_30 : decode cX0_minuteOfHour 30 = .ok (.iload_n 1, 1) := by decide +kernel
theorem dX0_minuteOfHour_31 : decode cX0_minuteOfHour 31 = .ok (.iaload, 1) := by decide +kernel
theorem dX0_minuteOfHour_32 : decode cX0_minuteOfHour 32 = .ok (.iconst 4, 1) := by decide +kernel
theorem dX0_minuteOfHour_33 : decode cX0_minuteOfHour 33 = .ok (.ishr, 1) := by decide +kernel
theorem dX0_minuteOfHour_34 : decode cX0_minuteOfHour 34 = .ok (.bipush 15, 2) := by decide +kernel
theorem dX0_minuteOfHour_36 : decode cX0_minuteOfHour 36 = .ok (.iand, 1) := by decide +kernel
theorem dX0_minuteOfHour_37 : decode cX0_minuteOfHour 37 = .ok (.bipush 60, 2) := by decide +kernel
theorem dX0_minuteOfHour_39 : decode cX0_minuteOfHour 39 = .ok (.invokestatic 58, 3) := by decide +kernel
theorem dX0_minuteOfHour_42 : decode cX0_minuteOfHour 42 = .ok (.ireturn, 1) := by decide +kernel
theorem dX0_hour_0 : decode cX0_hour 0 = .ok (.aload_n 0, 1) := by decide +kernel
theorem dX0_hour_1 : decode cX0_hour 1 = .ok (.iload_n 1, 1) := by decide +kernel
theorem dX0_hour_2 : decode cX0_hour 2 = .ok (.ldc 62, 2) := by decide +kernel
theorem dX0_hour_4 : decode cX0_hour 4 = .ok (.invokevirtual 49, 3) := by decide +kernel
theorem dX0_hour_7 : decode cX0_hour 7 = .ok (.ifCond .ne 6, 3) := by decide +kernel
theorem dX0_hour_10 : decode cX0_hour 10 = .ok (.bipush (-9), 2) := by decide +kernel
theorem dX0_hour_12 : decode cX0_hour 12 = .ok (.ireturn, 1) := by decide +kernel
theorem dX0_hour_13 : decode cX0_hour 13 = .ok (.aload_n 0, 1) := by decide +kernel
theorem dX0_hour_14 : decode cX0_hour 14 = .ok (.getfield 15, 3) := by decide +kernel
theorem dX0_hour_17 : decode cX0_hour 17 = .ok (.iload_n 1, 1) := by decide +kernel
theorem dX0_hour_18 : decode cX0_hour 18 = .ok (.iaload, 1) := by decide +kernel
theorem dX0_hour_19 : decode cX0_hour 19 = .ok (.bipush 16, 2) := by decide +kernel
theorem dX0_hour_21 : decode cX0_hour 21 = .ok (.ishr, 1) := by decide +kernel
theorem dX0_hour_22 : decode cX0_hour 22 = .ok (.iconst 3, 1) := by decide +kernel
theorem dX0_hour_23 : decode cX0_hour 23 = .ok (.iand, 1) := by decide +kernel
theorem dX0_hour_24 : decode cX0_hour 24 = .ok (.aload_n 0, 1) := by decide +kernel
theorem dX0_hour_25 : decode cX0_hour 25 = .ok (.getfield 15, 3) := by decide +kernel
theorem dX0_hour_28 : decode cX0_hour 28 = .ok (.iload_n 1, 1) := by decide +kernel
theorem dX0_hour_29 : decode cX0_hour 29 = .ok (.iaload, 1) := by decide +kernel
theorem dX0_hour_30 : decode cX0_hour 30 = .ok (.bipush 12, 2) := by decide +kernel
theorem dX0_hour_32 : decode cX0_hour 32 = .ok (.ishr, 1) := by decide +kernel
theorem dX0_hour_33 : decode cX0_hour 33 = .ok (.bipush 15, 2) := by decide +kernel
theorem dX0_hour_35 : decode cX0_hour 35 = .ok (.iand, 1) := by decide +kernel
theorem dX0_hour_36 : decode cX0_hour 36 = .ok (.bipush 24, 2) := by decide +kernel
theorem dX0_hour_38 : decode cX0_hour 38 = .ok (.invokestatic 58, 3) := by decide +kernel
theorem dX0_hour_41 : decode cX0_hour 41 = .ok (.ireturn, 1) := by decide +kernel
theorem dX0_byFigures_0 : decode cX0_byFigures 0 = .ok (.bipush 10, 2) := by decide +kernel
theorem dX0_byFigures_2 : decode cX0_byFigures 2 = .ok (.iload_n 0, 1) := by decide +kernel
theorem dX0_byFigures_3 : decode cX0_byFigures 3 = .ok (.imul, 1) := by decide +kernel
theorem dX0_byFigures_4 : decode cX0_byFigures 4 = .ok (.iload_n 1, 1) := by decide +kernel
theorem dX0_byFigures_5 : decode cX0_byFigures 5 = .ok (.iadd, 1) := by decide +kernel
theorem dX0_byFigures_6 : decode cX0_byFigures 6 = .ok (.istore_n 3, 1) := by decide +kernel
theorem dX0_byFigures_7 : decode cX0_byFigures 7 = .ok (.iload_n 1, 1) := by decide +kernel
theorem dX0_byFigures_8 : decode cX0_byFigures 8 = .ok (.bipush 9, 2) := by decide +kernel
theorem dX0_byFigures_10 : decode cX0_byFigures 10 = .ok (.if_icmp .gt 8, 3) := by decide +kernel
theorem dX0_byFigures_13 : decode cX0_byFigures 13 = .ok (.iload_n 3, 1) := by decide +kernel
theorem dX0_byFigures_14 : decode cX0_byFigures 14 = .ok (.iload_n 2, 1) := by decide +kernel
theorem dX0_byFigures_15 : decode cX0_byFigures 15 = .ok (.if_icmp .lt 8, 3) := by decide +kernel
theorem dX0_byFigures_18 : decode cX0_byFigures 18 = .ok (.bipush (-9), 2) := by decide +kernel
theorem dX0_byFigures_20 : decode cX0_byFigures 20 = .ok (.goto 4, 3) := by decide +kernel
theorem dX0_byFigures_23 : decode cX0_byFigures 23 = .ok (.iload_n 3, 1) := by decide +kernel
theorem dX0_byFigures_24 : decode cX0_byFigures 24 = .ok (.ireturn, 1) := by decide +kernel
theorem dX0_wrong_0 : decode cX0_wrong 0 = .ok (.iload_n 2, 1) := by decide +kernel
theorem dX0_wrong_1 : decode cX0_wrong 1 = .ok (.invokestatic 63, 3) := by decide +kernel
theorem dX0_wrong_4 : decode cX0_wrong 4 = .ok (.aload_n 0, 1) := by decide +kernel
theorem dX0_wrong_5 : decode cX0_wrong 5 = .ok (.getfield 15, 3) := by decide +kernel
theorem dX0_wrong_8 : decode cX0_wrong 8 = .ok (.iload_n 1, 1) := by decide +kernel
theorem dX0_wrong_9 : decode cX0_wrong 9 = .ok (.iaload, 1) := by decide +kernel
theorem dX0_wrong_10 : decode cX0_wrong 10 = .ok (.ixor, 1) := by decide +kernel
theorem dX0_wrong_11 : decode cX0_wrong 11 = .ok (.aload_n 0, 1) := by decide +kernel
theorem dX0_wrong_12 : decode cX0_wrong 12 = .ok (.getfield 18, 3) := by decide +kernel
theorem dX0_wrong_15 : decode cX0_wrong 15 = .ok (.iload_n 1, 1) := by decide +kernel
theorem dX0_wrong_16 : decode cX0_wrong 16 = .ok (.iaload, 1) := by decide +kernel
theorem dX0_wrong_17 : decode cX0_wrong 17 = .ok (.iand, 1) := by decide +kernel
theorem dX0_wrong_18 : decode cX0_wrong 18 = .ok (.ireturn, 1) := by decide +kernel
theorem dX0_missesOf_0 : decode cX0_missesOf 0 = .ok (.iload_n 2, 1) := by decide +kernel
theorem dX0_missesOf_1 : decode cX0_missesOf 1 = .ok (.aload_n 0, 1) := by decide +kernel
theorem dX0_missesOf_2 : decode cX0_missesOf 2 = .ok (.getfield 15, 3) := by decide +kernel
theorem dX0_missesOf_5 : decode cX0_missesOf 5 = .ok (.iload_n 1, 1) := by decide +kernel
theorem dX0_missesOf_6 : decode cX0_missesOf 6 = .ok (.iaload, 1) := by decide +kernel
theorem dX0_missesOf_7 : decode cX0_missesOf 7 = .ok (.ixor, 1) := by decide +kernel
theorem dX0_missesOf_8 : decode cX0_missesOf 8 = .ok (.aload_n 0, 1) := by decide +kernel
theorem dX0_missesOf_9 : decode cX0_missesOf 9 = .ok (.getfield 18, 3) := by decide +kernel
theorem dX0_missesOf_12 : decode cX0_missesOf 12 = .ok (.iload_n 1, 1) := by decide +kernel
theorem dX0_missesOf_13 : decode cX0_missesOf 13 = .ok (.iaload, 1) := by decide +kernel
theorem dX0_missesOf_14 : decode cX0_missesOf 14 = .ok (.iand, 1) := by decide +kernel
theorem dX0_missesOf_15 : decode cX0_missesOf 15 = .ok (.iload_n 3, 1) := by decide +kernel
theorem dX0_missesOf_16 : decode cX0_missesOf 16 = .ok (.iand, 1) := by decide +kernel
theorem dX0_missesOf_17 : decode cX0_missesOf 17 = .ok (.invokestatic 53, 3) := by decide +kernel
theorem dX0_missesOf_20 : decode cX0_missesOf 20 = .ok (.ireturn, 1) := by decide +kernel
theorem dX0_missesFrom_0 : decode cX0_missesFrom 0 = .ok (.iload_n 1, 1) := by decide +kernel
theorem dX0_missesFrom_1 : decode cX0_missesFrom 1 = .ok (.istore_n 2, 1) := by decide +kernel
theorem dX0_missesFrom_2 : decode cX0_missesFrom 2 = .ok (.iconst 0, 1) := by decide +kernel
theorem dX0_missesFrom_3 : decode cX0_missesFrom 3 = .ok (.istore_n 3, 1) := by decide +kernel
theorem dX0_missesFrom_4 : decode cX0_missesFrom 4 = .ok (.iconst 0, 1) := by decide +kernel
theorem dX0_missesFrom_5 : decode cX0_missesFrom 5 = .ok (.istore 4, 2) := by decide +kernel
theorem dX0_missesFrom_7 : decode cX0_missesFrom 7 = .ok (.iload 4, 2) := by decide +kernel
theorem dX0_missesFrom_9 : decode cX0_missesFrom 9 = .ok (.aload_n 0, 1) := by decide +kernel
theorem dX0_missesFrom_10 : decode cX0_missesFrom 10 = .ok (.getfield 29, 3) := by decide +kernel
theorem dX0_missesFrom_13 : decode cX0_missesFrom 13 = .ok (.if_icmp .ge 29, 3) := by decide +kernel
theorem dX0_missesFrom_16 : decode cX0_missesFrom 16 = .ok (.iload_n 3, 1) := by decide +kernel
theorem dX0_missesFrom_17 : decode cX0_missesFrom 17 = .ok (.aload_n 0, 1) := by decide +kernel
theorem dX0_missesFrom_18 : decode cX0_missesFrom 18 = .ok (.iload 4, 2) := by decide +kernel
theorem dX0_missesFrom_20 : decode cX0_missesFrom 20 = .ok (.iload_n 2, 1) := by decide +kernel
theorem dX0_missesFrom_21 : decode cX0_missesFrom 21 = .ok (.invokestatic 63, 3) := by decide +kernel
theorem dX0_missesFrom_24 : decode cX0_missesFrom 24 = .ok (.ldc 68, 2) := by decide +kernel
theorem dX0_missesFrom_26 : decode cX0_missesFrom 26 = .ok (.invokevirtual 69, 3) := by decide +kernel
theorem dX0_missesFrom_29 : decode cX0_missesFrom 29 = .ok (.iadd, 1) := by decide +kernel
theorem dX0_missesFrom_30 : decode cX0_missesFrom 30 = .ok (.istore_n 3, 1) := by decide +kernel
theorem dX0_missesFrom_31 : decode cX0_missesFrom 31 = .ok (.iload_n 2, 1) := by decide +kernel
theorem dX0_missesFrom_32 : decode cX0_missesFrom 32 = .ok (.invokestatic 72, 3) := by decide +kernel
theorem dX0_missesFrom_35 : decode cX0_missesFrom 35 = .ok (.istore_n 2, 1) := by decide +kernel
theorem dX0_missesFrom_36 : decode cX0_missesFrom 36 = .ok (.iinc 4 1, 3) := by decide +kernel
theorem dX0_missesFrom_39 : decode cX0_missesFrom 39 = .ok (.goto (-32), 3) := by decide +kernel
theorem dX0_missesFrom_42 : decode cX0_missesFrom 42 = .ok (.iload_n 3, 1) := by decide +kernel
theorem dX0_missesFrom_43 : decode cX0_missesFrom 43 = .ok (.ireturn, 1) := by decide +kernel
theorem dX1_init_0 : decode cX1_init 0 = .ok (.aload_n 0, 1) := by decide +kernel
theorem dX1_init_1 : decode cX1_init 1 = .ok (.invokespecial 3, 3) := by decide +kernel
theorem dX1_init_4 : decode cX1_init 4 = .ok (.aload_n 0, 1) := by decide +kernel
theorem dX1_init_5 : decode cX1_init 5 = .ok (.bipush 120, 2) := by decide +kernel
theorem dX1_init_7 : decode cX1_init 7 = .ok (.newarray .byte, 2) := by decide +kernel
theorem dX1_init_9 : decode cX1_init 9 = .ok (.putfield 9, 3) := by decide +kernel
theorem dX1_init_12 : decode cX1_init 12 = .ok (.aload_n 0, 1) := by decide +kernel
theorem dX1_init_13 : decode cX1_init 13 = .ok (.iconst 3, 1) := by decide +kernel
theorem dX1_init_14 : decode cX1_init 14 = .ok (.putfield 15, 3) := by decide +kernel
theorem dX1_init_17 : decode cX1_init 17 = .ok (.aload_n 0, 1) := by decide +kernel
theorem dX1_init_18 : decode cX1_init 18 = .ok (.iconst 5, 1) := by decide +kernel
theorem dX1_init_19 : decode cX1_init 19 = .ok (.putfield 19, 3) := by decide +kernel
theorem dX1_init_22 : decode cX1_init 22 = .ok (.aload_n 0, 1) := by decide +kernel
theorem dX1_init_23 : decode cX1_init 23 = .ok (.iconst (-1), 1) := by decide +kernel
theorem dX1_init_24 : decode cX1_init 24 = .ok (.putfield 22, 3) := by decide +kernel
theorem dX1_init_27 : decode cX1_init 27 = .ok (.return_, 1) := by decide +kernel
theorem dX1_append_0 : decode cX1_append 0 = .ok (.aload_n 0, 1) := by decide +kernel
theorem dX1_append_1 : decode cX1_append 1 = .ok (.getfield 25, 3) := by decide +kernel
theorem dX1_append_4 : decode cX1_append 4 = .ok (.bipush 120, 2) := by decide +kernel
theorem dX1_append_6 : decode cX1_append 6 = .ok (.if_icmp .ge 24, 3) := by decide +kernel
theorem dX1_append_9 : decode cX1_append 9 = .ok (.aload_n 0, 1) := by decide +kernel
theorem dX1_append_10 : decode cX1_append 10 = .ok (.getfield 9, 3) := by decide +kernel
theorem dX1_append_13 : decode cX1_append 13 = .ok (.aload_n 0, 1) := by decide +kernel
theorem dX1_append_14 : decode cX1_append 14 = .ok (.getfield 25, 3) := by decide +kernel
theorem dX1_append_17 : decode cX1_append 17 = .ok (.iload_n 1, 1) := by decide +kernel
theorem dX1_append_18 : decode cX1_append 18 = .ok (.i2b, 1) := by decide +kernel
theorem dX1_append_19 : decode cX1_append 19 = .ok (.bastore, 1) := by decide +kernel
theorem dX1_append_20 : decode cX1_append 20 = .ok (.aload_n 0, 1) := by decide +kernel
theorem dX1_append_21 : decode cX1_append 21 = .ok (.dup, 1) := by decide +kernel
theorem dX1_append_22 : decode cX1_append 22 = .ok (.getfield 25, 3) := by decide +kernel
theorem dX1_append_25 : decode cX1_append 25 = .ok (.iconst 1, 1) := by decide +kernel
theorem dX1_append_26 : decode cX1_append 26 = .ok (.iadd, 1) := by decide +kernel
theorem dX1_append_27 : decode cX1_append 27 = .ok (.putfield 25, 3) := by decide +kernel
theorem dX1_append_30 : decode cX1_append 30 = .ok (.return_, 1) := by decide +kernel
theorem dX1_dropFirst_0 : decode cX1_dropFirst 0 = .ok (.iload_n 1, 1) := by decide +kernel
theorem dX1_dropFirst_1 : decode cX1_dropFirst 1 = .ok (.ifCond .lt 11, 3) := by decide +kernel
theorem dX1_dropFirst_4 : decode cX1_dropFirst 4 = .ok (.iload_n 1, 1) := by decide +kernel
theorem dX1_dropFirst_5 : decode cX1_dropFirst 5 = .ok (.aload_n 0, 1) := by decide +kernel
theorem dX1_dropFirst_6 : decode cX1_dropFirst 6 = .ok (.getfield 25, 3) := by decide +kernel
theorem dX1_dropFirst_9 : decode cX1_dropFirst 9 = .ok (.if_icmp .le 4, 3) := by decide +kernel
theorem dX1_dropFirst_12 : decode cX1_dropFirst 12 = .ok (.return_, 1) := by decide +kernel
theorem dX1_dropFirst_13 : decode cX1_dropFirst 13 = .ok (.iload_n 1, 1) := by decide +kernel
theorem dX1_dropFirst_14 : decode cX1_dropFirst 14 = .ok (.istore_n 2, 1) := by decide +kernel
theorem dX1_dropFirst_15 : decode cX1_dropFirst 15 = .ok (.iload_n 2, 1) := by decide +kernel
theorem dX1_dropFirst_16 : decode cX1_dropFirst 16 = .ok (.aload_n 0, 1) := by decide +kernel
theorem dX1_dropFirst_17 : decode cX1_dropFirst 17 = .ok (.getfield 25, 3) := by decide +kernel
theorem dX1_dropFirst_20 : decode cX1_dropFirst 20 = .ok (.if_icmp .ge 23, 3) := by decide +kernel
theorem dX1_dropFirst_23 : decode cX1_dropFirst 23 = .ok (.aload_n 0, 1) := by decide +kernel
theorem dX1_dropFirst_24 : decode cX1_dropFirst 24 = .ok (.getfield 9, 3) := by decide +kernel
theorem dX1_dropFirst_27 : decode cX1_dropFirst 27 = .ok (.iload_n 2, 1) := by decide +kernel
theorem dX1_dropFirst_28 : decode cX1_dropFirst 28 = .ok (.iload_n 1, 1) := by decide +kernel
theorem dX1_dropFirst_29 : decode cX1_dropFirst 29 = .ok (.isub, 1) := by decide +kernel
theorem dX1_dropFirst_30 : decode cX1_dropFirst 30 = .ok (.aload_n 0, 1) := by decide +kernel
theorem dX1_dropFirst_31 : decode cX1_dropFirst 31 = .ok (.getfield 9, 3) := by decide +kernel
theorem dX1_dropFirst_34 : decode cX1_dropFirst 34 = .ok (.iload_n 2, 1) := by decide +kernel
theorem dX1_dropFirst_35 : decode cX1_dropFirst 35 = .ok (.baload, 1) := by decide +kernel
theorem dX1_dropFirst_36 : decode cX1_dropFirst 36 = .ok (.bastore, 1) := by decide +kernel
theorem dX1_dropFirst_37 : decode cX1_dropFirst 37 = .ok (.iinc 2 1, 3) := by decide +kernel
theorem dX1_dropFirst_40 : decode cX1_dropFirst 40 = .ok (.goto (-25), 3) := by decide +kernel
theorem dX1_dropFirst_43 : decode cX1_dropFirst 43 = .ok (.aload_n 0, 1) := by decide +kernel
theorem dX1_dropFirst_44 : decode cX1_dropFirst 44 = .ok (.dup, 1) := by decide +kernel
theorem dX1_dropFirst_45 : decode cX1_dropFirst 45 = .ok (.getfield 25, 3) := by decide +kernel
theorem dX1_dropFirst_48 : decode cX1_dropFirst 48 = .ok (.iload_n 1, 1) := by decide +kernel
theorem dX1_dropFirst_49 : decode cX1_dropFirst 49 = .ok (.isub, 1) := by decide +kernel
theorem dX1_dropFirst_50 : decode cX1_dropFirst 50 = .ok (.putfield 25, 3) := by decide +kernel
theorem dX1_dropFirst_53 : decode cX1_dropFirst 53 = .ok (.return_, 1) := by decide +kernel
theorem dX1_copyFrom_0 : decode cX1_copyFrom 0 = .ok (.iconst 0, 1) := by decide +kernel
theorem dX1_copyFrom_1 : decode cX1_copyFrom 1 = .ok (.istore_n 2, 1) := by decide +kernel
theorem dX1_copyFrom_2 : decode cX1_copyFrom 2 = .ok (.iload_n 2, 1) := by decide +kernel
theorem dX1_copyFrom_3 : decode cX1_copyFrom 3 = .ok (.aload_n 1, 1) := by decide +kernel
theorem dX1_copyFrom_4 : decode cX1_copyFrom 4 = .ok (.getfield 25, 3) := by decide +kernel
theorem dX1_copyFrom_7 : decode cX1_copyFrom 7 = .ok (.if_icmp .ge 21, 3) := by decide +kernel
theorem dX1_copyFrom_10 : decode cX1_copyFrom 10 = .ok (.aload_n 0, 1) := by decide +kernel
theorem dX1_copyFrom_11 : decode cX1_copyFrom 11 = .ok (.getfield 9, 3) := by decide +kernel
theorem dX1_copyFrom_14 : decode cX1_copyFrom 14 = .ok (.iload_n 2, 1) := by decide +kernel
theorem dX1_copyFrom_15 : decode cX1_copyFrom 15 = .ok (.aload_n 1, 1) := by decide +kernel
theorem dX1_copyFrom_16 : decode cX1_copyFrom 16 = .ok (.getfield 9, 3) := by decide +kernel
theorem dX1_copyFrom_19 : decode cX1_copyFrom 19 = .ok (.iload_n 2, 1) := by decide +kernel
theorem dX1_copyFrom_20 : decode cX1_copyFrom 20 = .ok (.baload, 1) := by decide +kernel
theorem dX1_copyFrom_21 : decode cX1_copyFrom 21 = .ok (.bastore, 1) := by decide +kernel
theorem dX1_copyFrom_22 : decode cX1_copyFrom 22 = .ok (.iinc 2 1, 3) := by decide +kernel
theorem dX1_copyFrom_25 : decode cX1_copyFrom 25 = .ok (.goto (-23), 3) := by decide +kernel
theorem dX1_copyFrom_28 : decode cX1_copyFrom 28 = .ok (.aload_n 0, 1) := by decide +kernel
theorem dX1_copyFrom_29 : decode cX1_copyFrom 29 = .ok (.aload_n 1, 1) := by decide +kernel
theorem dX1_copyFrom_30 : decode cX1_copyFrom 30 = .ok (.getfield 25, 3) := by decide +kernel
theorem dX1_copyFrom_33 : decode cX1_copyFrom 33 = .ok (.putfield 25, 3) := by decide +kernel
theorem dX1_copyFrom_36 : decode cX1_copyFrom 36 = .ok (.aload_n 0, 1) := by decide +kernel
theorem dX1_copyFrom_37 : decode cX1_copyFrom 37 = .ok (.aload_n 1, 1) := by decide +kernel
theorem dX1_copyFrom_38 : decode cX1_copyFrom 38 = .ok (.getfield 15, 3) := by decide +kernel
theorem dX1_copyFrom_41 : decode cX1_copyFrom 41 = .ok (.putfield 15, 3) := by decide +kernel
theorem dX1_copyFrom_44 : decode cX1_copyFrom 44 = .ok (.aload_n 0, 1) := by decide +kernel
theorem dX1_copyFrom_45 : decode cX1_copyFrom 45 = .ok (.aload_n 1, 1) := by decide +kernel
theorem dX1_copyFrom_46 : decode cX1_copyFrom 46 = .ok (.getfield 19, 3) := by decide +kernel
theorem dX1_copyFrom_49 : decode cX1_copyFrom 49 = .ok (.putfield 19, 3) := by decide +kernel
theorem dX1_copyFrom_52 : decode cX1_copyFrom 52 = .ok (.aload_n 0, 1) := by decide +kernel
theorem dX1_copyFrom_53 : decode cX1_copyFrom 53 = .ok (.aload_n 1, 1) := by decide +kernel
theorem dX1_copyFrom_54 : decode cX1_copyFrom 54 = .ok (.getfield 22, 3) := by decide +kernel
theorem dX1_copyFrom_57 : decode cX1_copyFrom 57 = .ok (.putfield 22, 3) := by decide +kernel
theorem dX1_copyFrom_60 : decode cX1_copyFrom 60 = .ok (.aload_n 0, 1) := by decide +kernel
theorem dX1_copyFrom_61 : decode cX1_copyFrom 61 = .ok (.aload_n 1, 1) := by decide +kernel
theorem dX1_copyFrom_62 : decode cX1_copyFrom 62 = .ok (.getfield 28, 3) := by decide +kernel
theorem dX1_copyFrom_65 : decode cX1_copyFrom 65 = .ok (.putfield 28, 3) := by decide +kernel
theorem dX1_copyFrom_68 : decode cX1_copyFrom 68 = .ok (.return_, 1) := by decide +kernel
theorem dX2_init_0 : decode cX2_init 0 = .ok (.aload_n 0, 1) := by decide +kernel
theorem dX2_init_1 : decode cX2_init 1 = .ok (.invokespecial 3, 3) := by decide +kernel
theorem dX2_init_4 : decode cX2_init 4 = .ok (.aload_n 0, 1) := by decide +kernel
theorem dX2_init_5 : decode cX2_init 5 = .ok (.bipush 10, 2) := by decide +kernel
theorem dX2_init_7 : decode cX2_init 7 = .ok (.anewarray 9, 3) := by decide +kernel
theorem dX2_init_10 : decode cX2_init 10 = .ok (.putfield 11, 3) := by decide +kernel
theorem dX2_init_13 : decode cX2_init 13 = .ok (.iconst 0, 1) := by decide +kernel
theorem dX2_init_14 : decode cX2_init 14 = .ok (.istore_n 1, 1) := by decide +kernel
theorem dX2_init_15 : decode cX2_init 15 = .ok (.iload_n 1, 1) := by decide +kernel
theorem dX2_init_16 : decode cX2_init 16 = .ok (.bipush 10, 2) := by decide +kernel
theorem dX2_init_18 : decode cX2_init 18 = .ok (.if_icmp .ge 22, 3) := by decide +kernel
theorem dX2_init_21 : decode cX2_init 21 = .ok (.aload_n 0, 1) := by decide +kernel
theorem dX2_init_22 : decode cX2_init 22 = .ok (.getfield 11, 3) := by decide +kernel
theorem dX2_init_25 : decode cX2_init 25 = .ok (.iload_n 1, 1) := by decide +kernel
theorem dX2_init_26 : decode cX2_init 26 = .ok (.new 9, 3) := by decide +kernel
theorem dX2_init_29 : decode cX2_init 29 = .ok (.dup, 1) := by decide +kernel
theorem dX2_init_30 : decode cX2_init 30 = .ok (.invokespecial 17, 3) := by decide +kernel
theorem dX2_init_33 : decode cX2_init 33 = .ok (.aastore, 1) := by decide +kernel
theorem dX2_init_34 : decode cX2_init 34 = .ok (.iinc 1 1, 3) := by decide +kernel
theorem dX2_init_37 : decode cX2_init 37 = .ok (.goto (-22), 3) := by decide +kernel
theorem dX2_init_40 : decode cX2_init 40 = .ok (.return_, 1) := by decide +kernel
theorem dX2_remember_0 : decode cX2_remember 0 = .ok (.aload_n 0, 1) := by decide +kernel
theorem dX2_remember_1 : decode cX2_remember 1 = .ok (.getfield 11, 3) := by decide +kernel
theorem dX2_remember_4 : decode cX2_remember 4 = .ok (.aload_n 0, 1) := by decide +kernel
theorem dX2_remember_5 : decode cX2_remember 5 = .ok (.getfield 18, 3) := by decide +kernel
theorem dX2_remember_8 : decode cX2_remember 8 = .ok (.aaload, 1) := by decide +kernel
theorem dX2_remember_9 : decode cX2_remember 9 = .ok (.aload_n 1, 1) := by decide +kernel
theorem dX2_remember_10 : decode cX2_remember 10 = .ok (.invokevirtual 22, 3) := by decide +kernel
theorem dX2_remember_13 : decode cX2_remember 13 = .ok (.aload_n 0, 1) := by decide +kernel
theorem dX2_remember_14 : decode cX2_remember 14 = .ok (.aload_n 0, 1) := by decide +kernel
theorem dX2_remember_15 : decode cX2_remember 15 = .ok (.getfield 18, 3) := by decide +kernel
theorem dX2_remember_18 : decode cX2_remember 18 = .ok (.iconst 1, 1) := by decide +kernel
theorem dX2_remember_19 : decode cX2_remember 19 = .ok (.iadd, 1) := by decide +kernel
theorem dX2_remember_20 : decode cX2_remember 20 = .ok (.bipush 10, 2) := by decide +kernel
theorem dX2_remember_22 : decode cX2_remember 22 = .ok (.irem, 1) := by decide +kernel
theorem dX2_remember_23 : decode cX2_remember 23 = .ok (.putfield 18, 3) := by decide +kernel
theorem dX2_remember_26 : decode cX2_remember 26 = .ok (.aload_n 0, 1) := by decide +kernel
theorem dX2_remember_27 : decode cX2_remember 27 = .ok (.aload_n 0, 1) := by decide +kernel
theorem dX2_remember_28 : decode cX2_remember 28 = .ok (.getfield 26, 3) := by decide +kernel
theorem dX2_remember_31 : decode cX2_remember 31 = .ok (.iconst 1, 1) := by decide +kernel
theorem dX2_remember_32 : decode cX2_remember 32 = .ok (.iadd, 1) := by decide +kernel
theorem dX2_remember_33 : decode cX2_remember 33 = .ok (.bipush 10, 2) := by decide +kernel
theorem dX2_remember_35 : decode cX2_remember 35 = .ok (.invokestatic 29, 3) := by decide +kernel
theorem dX2_remember_38 : decode cX2_remember 38 = .ok (.putfield 26, 3) := by decide +kernel
theorem dX2_remember_41 : decode cX2_remember 41 = .ok (.return_, 1) := by decide +kernel
theorem dX2_recall_0 : decode cX2_recall 0 = .ok (.aload_n 0, 1) := by decide +kernel
theorem dX2_recall_1 : decode cX2_recall 1 = .ok (.getfield 26, 3) := by decide +kernel
theorem dX2_recall_4 : decode cX2_recall 4 = .ok (.ifCond .ne 4, 3) := by decide +kernel
theorem dX2_recall_7 : decode cX2_recall 7 = .ok (.return_, 1) := by decide +kernel
theorem dX2_recall_8 : decode cX2_recall 8 = .ok (.aload_n 0, 1) := by decide +kernel
theorem dX2_recall_9 : decode cX2_recall 9 = .ok (.aload_n 0, 1) := by decide +kernel
theorem dX2_recall_10 : decode cX2_recall 10 = .ok (.getfield 18, 3) := by decide +kernel
theorem dX2_recall_13 : decode cX2_recall 13 = .ok (.bipush 10, 2) := by decide +kernel
theorem dX2_recall_15 : decode cX2_recall 15 = .ok (.iadd, 1) := by decide +kernel
theorem dX2_recall_16 : decode cX2_recall 16 = .ok (.iconst 1, 1) := by decide +kernel
theorem dX2_recall_17 : decode cX2_recall 17 = .ok (.isub, 1) := by decide +kernel
theorem dX2_recall_18 : decode cX2_recall 18 = .ok (.bipush 10, 2) := by decide +kernel
theorem dX2_recall_20 : decode cX2_recall 20 = .ok (.irem, 1) := by decide +kernel
theorem dX2_recall_21 : decode cX2_recall 21 = .ok (.putfield 18, 3) := by decide +kernel
theorem dX2_recall_24 : decode cX2_recall 24 = .ok (.aload_n 0, 1) := by decide +kernel
theorem dX2_recall_25 : decode cX2_recall 25 = .ok (.dup, 1) := by decide +kernel
theorem dX2_recall_26 : decode cX2_recall 26 = .ok (.getfield 26, 3) := by decide +kernel
theorem dX2_recall_29 : decode cX2_recall 29 = .ok (.iconst 1, 1) := by decide +kernel
theorem dX2_recall_30 : decode cX2_recall 30 = .ok (.isub, 1) := by decide +kernel
theorem dX2_recall_31 : decode cX2_recall 31 = .ok (.putfield 26, 3) := by decide +kernel
theorem dX2_recall_34 : decode cX2_recall 34 = .ok (.aload_n 1, 1) := by decide +kernel
theorem dX2_recall_35 : decode cX2_recall 35 = .ok (.aload_n 0, 1) := by decide +kernel
theorem dX2_recall_36 : decode cX2_recall 36 = .ok (.getfield 11, 3) := by decide +kernel
theorem dX2_recall_39 : decode cX2_recall 39 = .ok (.aload_n 0, 1) := by decide +kernel
theorem dX2_recall_40 : decode cX2_recall 40 = .ok (.getfield 18, 3) := by decide +kernel
theorem dX2_recall_43 : decode cX2_recall 43 = .ok (.aaload, 1) := by decide +kernel
theorem dX2_recall_44 : decode cX2_recall 44 = .ok (.invokevirtual 22, 3) := by decide +kernel
theorem dX2_recall_47 : decode cX2_recall 47 = .ok (.return_, 1) := by decide +kernel
theorem dX2_forget_0 : decode cX2_forget 0 = .ok (.aload_n 0, 1) := by decide +kernel
theorem dX2_forget_1 : decode cX2_forget 1 = .ok (.iconst 0, 1) := by decide +kernel
theorem dX2_forget_2 : decode cX2_forget 2 = .ok (.putfield 26, 3) := by decide +kernel
theorem dX2_forget_5 : decode cX2_forget 5 = .ok (.return_, 1) := by decide +kernel
theorem dX3_isTime_0 : decode cX3_isTime 0 = .ok (.iload_n 0, 1) := by decide +kernel
theorem dX3_isTime_1 : decode cX3_isTime 1 = .ok (.ifCond .lt 35, 3) := by decide +kernel
theorem dX3_isTime_4 : decode cX3_isTime 4 = .ok (.iload_n 0, 1) := by decide +kernel
theorem dX3_isTime_5 : decode cX3_isTime 5 = .ok (.sipush 1440, 3) := by decide +kernel
theorem dX3_isTime_8 : decode cX3_isTime 8 = .ok (.if_icmp .ge 28, 3) := by decide +kernel
theorem dX3_isTime_11 : decode cX3_isTime 11 = .ok (.iload_n 1, 1) := by decide +kernel
theorem dX3_isTime_12 : decode cX3_isTime 12 = .ok (.invokestatic 9, 3) := by decide +kernel
theorem dX3_isTime_15 : decode cX3_isTime 15 = .ok (.ifCond .eq 21, 3) := by decide +kernel
theorem dX3_isTime_18 : decode cX3_isTime 18 = .ok (.iload_n 2, 1) := by decide +kernel
theorem dX3_isTime_19 : decode cX3_isTime 19 = .ok (.invokestatic 9, 3) := by decide +kernel
theorem dX3_isTime_22 : decode cX3_isTime 22 = .ok (.ifCond .eq 14, 3) := by decide +kernel
theorem dX3_isTime_25 : decode cX3_isTime 25 = .ok (.iload_n 3, 1) := by decide +kernel
theorem dX3_isTime_26 : decode cX3_isTime 26 = .ok (.invokestatic 9, 3) := by decide +kernel
theorem dX3_isTime_29 : decode cX3_isTime 29 = .ok (.ifCond .eq 7, 3) := by decide +kernel
theorem dX3_isTime_32 : decode cX3_isTime 32 = .ok (.iconst 1, 1) := by decide +kernel
theorem dX3_isTime_33 : decode cX3_isTime 33 = .ok (.goto 4, 3) := by decide +kernel
theorem dX3_isTime_36 : decode cX3_isTime 36 = .ok (.iconst 0, 1) := by decide +kernel
theorem dX3_isTime_37 : decode cX3_isTime 37 = .ok (.ireturn, 1) := by decide +kernel
theorem dX3_isSign_0 : decode cX3_isSign 0 = .ok (.iload_n 0, 1) := by decide +kernel
theorem dX3_isSign_1 : decode cX3_isSign 1 = .ok (.ifCond .eq 8, 3) := by decide +kernel
theorem dX3_isSign_4 : decode cX3_isSign 4 = .ok (.iload_n 0, 1) := by decide +kernel
theorem dX3_isSign_5 : decode cX3_isSign 5 = .ok (.iconst 1, 1) := by decide +kernel
theorem dX3_isSign_6 : decode cX3_isSign 6 = .ok (.if_icmp .ne 7, 3) := by decide +kernel
theorem dX3_isSign_9 : decode cX3_isSign 9 = .ok (.iconst 1, 1) := by decide +kernel
theorem dX3_isSign_10 : decode cX3_isSign 10 = .ok (.goto 4, 3) := by decide +kernel
theorem dX3_isSign_13 : decode cX3_isSign 13 = .ok (.iconst 0, 1) := by decide +kernel
theorem dX3_isSign_14 : decode cX3_isSign 14 = .ok (.ireturn, 1) := by decide +kernel
theorem dX3_of_0 : decode cX3_of 0 = .ok (.bipush 8, 2) := by decide +kernel
theorem dX3_of_2 : decode cX3_of 2 = .ok (.iload_n 0, 1) := by decide +kernel
theorem dX3_of_3 : decode cX3_of 3 = .ok (.imul, 1) := by decide +kernel
theorem dX3_of_4 : decode cX3_of 4 = .ok (.iconst 4, 1) := by decide +kernel
theorem dX3_of_5 : decode cX3_of 5 = .ok (.iload_n 1, 1) := by decide +kernel
theorem dX3_of_6 : decode cX3_of 6 = .ok (.imul, 1) := by decide +kernel
theorem dX3_of_7 : decode cX3_of 7 = .ok (.iadd, 1) := by decide +kernel
theorem dX3_of_8 : decode cX3_of 8 = .ok (.iconst 2, 1) := by decide +kernel
theorem dX3_of_9 : decode cX3_of 9 = .ok (.iload_n 2, 1) := by decide +kernel
theorem dX3_of_10 : decode cX3_of 10 = .ok (.imul, 1) := by decide +kernel
theorem dX3_of_11 : decode cX3_of 11 = .ok (.iadd, 1) := by decide +kernel
theorem dX3_of_12 : decode cX3_of 12 = .ok (.iload_n 3, 1) := by decide +kernel
theorem dX3_of_13 : decode cX3_of 13 = .ok (.iadd, 1) := by decide +kernel
theorem dX3_of_14 : decode cX3_of 14 = .ok (.ireturn, 1) := by decide +kernel
theorem dX3_minuteOf_0 : decode cX3_minuteOf 0 = .ok (.iload_n 0, 1) := by decide +kernel
theorem dX3_minuteOf_1 : decode cX3_minuteOf 1 = .ok (.bipush 8, 2) := by decide +kernel
theorem dX3_minuteOf_3 : decode cX3_minuteOf 3 = .ok (.idiv, 1) := by decide +kernel
theorem dX3_minuteOf_4 : decode cX3_minuteOf 4 = .ok (.ireturn, 1) := by decide +kernel
theorem dX3_summerOf_0 : decode cX3_summerOf 0 = .ok (.iload_n 0, 1) := by decide +kernel
theorem dX3_summerOf_1 : decode cX3_summerOf 1 = .ok (.iconst 2, 1) := by decide +kernel
theorem dX3_summerOf_2 : decode cX3_summerOf 2 = .ok (.ishr, 1) := by decide +kernel
theorem dX3_summerOf_3 : decode cX3_summerOf 3 = .ok (.iconst 1, 1) := by decide +kernel
theorem dX3_summerOf_4 : decode cX3_summerOf 4 = .ok (.iand, 1) := by decide +kernel
theorem dX3_summerOf_5 : decode cX3_summerOf 5 = .ok (.ireturn, 1) := by decide +kernel
theorem dX3_shiftOf_0 : decode cX3_shiftOf 0 = .ok (.iload_n 0, 1) := by decide +kernel
theorem dX3_shiftOf_1 : decode cX3_shiftOf 1 = .ok (.iconst 1, 1) := by decide +kernel
theorem dX3_shiftOf_2 : decode cX3_shiftOf 2 = .ok (.ishr, 1) := by decide +kernel
theorem dX3_shiftOf_3 : decode cX3_shiftOf 3 = .ok (.iconst 1, 1) := by decide +kernel
theorem dX3_shiftOf_4 : decode cX3_shiftOf 4 = .ok (.iand, 1) := by decide +kernel
theorem dX3_shiftOf_5 : decode cX3_shiftOf 5 = .ok (.ireturn, 1) := by decide +kernel
theorem dX3_leapOf_0 : decode cX3_leapOf 0 = .ok (.iload_n 0, 1) := by decide +kernel
theorem dX3_leapOf_1 : decode cX3_leapOf 1 = .ok (.iconst 1, 1) := by decide +kernel
theorem dX3_leapOf_2 : decode cX3_leapOf 2 = .ok (.iand, 1) := by decide +kernel
theorem dX3_leapOf_3 : decode cX3_leapOf 3 = .ok (.ireturn, 1) := by decide +kernel
theorem dX3_partOf_0 : decode cX3_partOf 0 = .ok (.iload_n 1, 1) := by decide +kernel
theorem dX3_partOf_1 : decode cX3_partOf 1 = .ok (.tableswitch 42 0 2 #[27, 32, 37], 27) := by decide +kernel
theorem dX3_partOf_28 : decode cX3_partOf 28 = .ok (.iload_n 0, 1) := by decide +kernel
theorem dX3_partOf_29 : decode cX3_partOf 29 = .ok (.invokestatic 15, 3) := by decide +kernel
theorem dX3_partOf_32 : decode cX3_partOf 32 = .ok (.ireturn, 1) := by decide +kernel
theorem dX3_partOf_33 : decode cX3_partOf 33 = .ok (.iload_n 0, 1) := by decide +kernel
theorem dX3_partOf_34 : decode cX3_partOf 34 = .ok (.invokestatic 19, 3) := by decide +kernel
theorem dX3_partOf_37 : decode cX3_partOf 37 = .ok (.ireturn, 1) := by decide +kernel
theorem dX3_partOf_38 : decode cX3_partOf 38 = .ok (.iload_n 0, 1) := by decide +kernel
theorem dX3_partOf_39 : decode cX3_partOf 39 = .ok (.invokestatic 22, 3) := by decide +kernel
theorem dX3_partOf_42 : decode cX3_partOf 42 = .ok (.ireturn, 1) := by decide +kernel
theorem dX3_partOf_43 : decode cX3_partOf 43 = .ok (.iload_n 0, 1) := by decide +kernel
theorem dX3_partOf_44 : decode cX3_partOf 44 = .ok (.invokestatic 25, 3) := by decide +kernel
theorem dX3_partOf_47 : decode cX3_partOf 47 = .ok (.ireturn, 1) := by decide +kernel
theorem dX3_next_0 : decode cX3_next 0 = .ok (.iload_n 0, 1) := by decide +kernel
theorem dX3_next_1 : decode cX3_next 1 = .ok (.invokestatic 15, 3) := by decide +kernel
theorem dX3_next_4 : decode cX3_next 4 = .ok (.iconst 1, 1) := by decide +kernel
theorem dX3_next_5 : decode cX3_next 5 = .ok (.iadd, 1) := by decide +kernel
theorem dX3_next_6 : decode cX3_next 6 = .ok (.sipush 1440, 3) := by decide +kernel
theorem dX3_next_9 : decode cX3_next 9 = .ok (.irem, 1) := by decide +kernel
theorem dX3_next_10 : decode cX3_next 10 = .ok (.istore_n 1, 1) := by decide +kernel
theorem dX3_next_11 : decode cX3_next 11 = .ok (.iload_n 1, 1) := by decide +kernel
theorem dX3_next_12 : decode cX3_next 12 = .ok (.bipush 60, 2) := by decide +kernel
theorem dX3_next_14 : decode cX3_next 14 = .ok (.irem, 1) := by decide +kernel
theorem dX3_next_15 : decode cX3_next 15 = .ok (.ifCond .eq 13, 3) := by decide +kernel
theorem dX3_next_18 : decode cX3_next 18 = .ok (.bipush 8, 2) := by decide +kernel
theorem dX3_next_20 : decode cX3_next 20 = .ok (.iload_n 1, 1) := by decide +kernel
theorem dX3_next_21 : decode cX3_next 21 = .ok (.imul, 1) := by decide +kernel
theorem dX3_next_22 : decode cX3_next 22 = .ok (.iload_n 0, 1) := by decide +kernel
theorem dX3_next_23 : decode cX3_next 23 = .ok (.bipush 8, 2) := by decide +kernel
theorem dX3_next_25 : decode cX3_next 25 = .ok (.irem, 1) := by decide +kernel
theorem dX3_next_26 : decode cX3_next 26 = .ok (.iadd, 1) := by decide +kernel
theorem dX3_next_27 : decode cX3_next 27 = .ok (.ireturn, 1) := by decide +kernel
theorem dX3_next_28 : decode cX3_next 28 = .ok (.iload_n 0, 1) := by decide +kernel
theorem dX3_next_29 : decode cX3_next 29 = .ok (.invokestatic 19, 3) := by decide +kernel
theorem dX3_next_32 : decode cX3_next 32 = .ok (.istore_n 2, 1) := by decide +kernel
theorem dX3_next_33 : decode cX3_next 33 = .ok (.iload_n 0, 1) := by decide +kernel
theorem dX3_next_34 : decode cX3_next 34 = .ok (.invokestatic 22, 3) := by decide +kernel
theorem dX3_next_37 : decode cX3_next 37 = .ok (.iconst 1, 1) := by decide +kernel
theorem dX3_next_38 : decode cX3_next 38 = .ok (.if_icmp .ne 27, 3) := by decide +kernel
theorem dX3_next_41 : decode cX3_next 41 = .ok (.iconst 1, 1) := by decide +kernel
theorem dX3_next_42 : decode cX3_next 42 = .ok (.iload_n 2, 1) := by decide +kernel
theorem dX3_next_43 : decode cX3_next 43 = .ok (.isub, 1) := by decide +kernel
theorem dX3_next_44 : decode cX3_next 44 = .ok (.istore_n 2, 1) := by decide +kernel
theorem dX3_next_45 : decode cX3_next 45 = .ok (.iload_n 1, 1) := by decide +kernel
theorem dX3_next_46 : decode cX3_next 46 = .ok (.iload_n 2, 1) := by decide +kernel
theorem dX3_next_47 : decode cX3_next 47 = .ok (.iconst 1, 1) := by decide +kernel
theorem dX3_next_48 : decode cX3_next 48 = .ok (.if_icmp .ne 8, 3) := by decide +kernel
theorem dX3_next_51 : decode cX3_next 51 = .ok (.bipush 60, 2) := by decide +kernel
theorem dX3_next_53 : decode cX3_next 53 = .ok (.goto 6, 3) := by decide +kernel
theorem dX3_next_56 : decode cX3_next 56 = .ok (.sipush 1380, 3) := by decide +kernel
theorem dX3_next_59 : decode cX3_next 59 = .ok (.iadd, 1) := by decide +kernel
theorem dX3_next_60 : decode cX3_next 60 = .ok (.sipush 1440, 3) := by decide +kernel
theorem dX3_next_63 : decode cX3_next 63 = .ok (.irem, 1) := by decide +kernel
theorem dX3_next_64 : decode cX3_next 64 = .ok (.istore_n 1, 1) := by decide +kernel
theorem dX3_next_65 : decode cX3_next 65 = .ok (.iload_n 1, 1) := by decide +kernel
theorem dX3_next_66 : decode cX3_next 66 = .ok (.iload_n 2, 1) := by decide +kernel
theorem dX3_next_67 : decode cX3_next 67 = .ok (.iconst 0, 1) := by decide +kernel
theorem dX3_next_68 : decode cX3_next 68 = .ok (.iconst 0, 1) := by decide +kernel
theorem dX3_next_69 : decode cX3_next 69 = .ok (.invokestatic 28, 3) := by decide +kernel
theorem dX3_next_72 : decode cX3_next 72 = .ok (.ireturn, 1) := by decide +kernel
theorem dX3_later_0 : decode cX3_later 0 = .ok (.iload_n 0, 1) := by decide +kernel
theorem dX3_later_1 : decode cX3_later 1 = .ok (.istore_n 2, 1) := by decide +kernel
theorem dX3_later_2 : decode cX3_later 2 = .ok (.iconst 0, 1) := by decide +kernel
theorem dX3_later_3 : decode cX3_later 3 = .ok (.istore_n 3, 1) := by decide +kernel
theorem dX3_later_4 : decode cX3_later 4 = .ok (.iload_n 3, 1) := by decide +kernel
theorem dX3_later_5 : decode cX3_later 5 = .ok (.iload_n 1, 1) := by decide +kernel
theorem dX3_later_6 : decode cX3_later 6 = .ok (.if_icmp .ge 14, 3) := by decide +kernel
theorem dX3_later_9 : decode cX3_later 9 = .ok (.iload_n 2, 1) := by decide +kernel
theorem dX3_later_10 : decode cX3_later 10 = .ok (.invokestatic 32, 3) := by decide +kernel
theorem dX3_later_13 : decode cX3_later 13 = .ok (.istore_n 2, 1) := by decide +kernel
theorem dX3_later_14 : decode cX3_later 14 = .ok (.iinc 3 1, 3) := by decide +kernel
theorem dX3_later_17 : decode cX3_later 17 = .ok (.goto (-13), 3) := by decide +kernel
theorem dX3_later_20 : decode cX3_later 20 = .ok (.iload_n 2, 1) := by decide +kernel
theorem dX3_later_21 : decode cX3_later 21 = .ok (.ireturn, 1) := by decide +kernel
theorem dX3_bitsOf_0 : decode cX3_bitsOf 0 = .ok (.iload_n 0, 1) := by decide +kernel
theorem dX3_bitsOf_1 : decode cX3_bitsOf 1 = .ok (.invokestatic 15, 3) := by decide +kernel
theorem dX3_bitsOf_4 : decode cX3_bitsOf 4 = .ok (.bipush 60, 2) := by decide +kernel
theorem dX3_bitsOf_6 : decode cX3_bitsOf 6 = .ok (.irem, 1) := by decide +kernel
theorem dX3_bitsOf_7 : decode cX3_bitsOf 7 = .ok (.istore_n 1, 1) := by decide +kernel
theorem dX3_bitsOf_8 : decode cX3_bitsOf 8 = .ok (.iload_n 0, 1) := by decide +kernel
theorem dX3_bitsOf_9 : decode cX3_bitsOf 9 = .ok (.invokestatic 15, 3) := by decide +kernel
theorem dX3_bitsOf_12 : decode cX3_bitsOf 12 = .ok (.bipush 60, 2) := by decide +kernel
theorem dX3_bitsOf_14 : decode cX3_bitsOf 14 = .ok (.idiv, 1) := by decide +kernel
theorem dX3_bitsOf_15 : decode cX3_bitsOf 15 = .ok (.istore_n 2, 1) := by decide +kernel
theorem dX3_bitsOf_16 : decode cX3_bitsOf 16 = .ok (.iload_n 0, 1) := by decide +kernel
theorem dX3_bitsOf_17 : decode cX3_bitsOf 17 = .ok (.invokestatic 22, 3) := by decide +kernel
theorem dX3_bitsOf_20 : decode cX3_bitsOf 20 = .ok (.iconst 1, 1) := by decide +kernel
theorem dX3_bitsOf_21 : decode cX3_bitsOf 21 = .ok (.ishl, 1) := by decide +kernel
theorem dX3_bitsOf_22 : decode cX3_bitsOf 22 = .ok (.iload_n 0, 1) := by decide +kernel
theorem dX3_bitsOf_23 : decode cX3_bitsOf 23 = .ok (.invokestatic 25, 3) := by decide +kernel
theorem dX3_bitsOf_26 : decode cX3_bitsOf 26 = .ok (.iconst 2, 1) := by decide +kernel
theorem dX3_bitsOf_27 : decode cX3_bitsOf 27 = .ok (.ishl, 1) := by decide +kernel
theorem dX3_bitsOf_28 : decode cX3_bitsOf 28 = .ok (.ior, 1) := by decide +kernel
theorem dX3_bitsOf_29 : decode cX3_bitsOf 29 = .ok (.iload_n 0, 1) := by decide +kernel
theorem dX3_bitsOf_30 : decode cX3_bitsOf 30 = .ok (.invokestatic 19, 3) := by decide +kernel
theorem dX3_bitsOf_33 : decode cX3_bitsOf 33 = .ok (.iconst 3, 1) := by decide +kernel
theorem dX3_bitsOf_34 : decode cX3_bitsOf 34 = .ok (.ishl, 1) := by decide +kernel
theorem dX3_bitsOf_35 : decode cX3_bitsOf 35 = .ok (.ior, 1) := by decide +kernel
theorem dX3_bitsOf_36 : decode cX3_bitsOf 36 = .ok (.istore_n 3, 1) := by decide +kernel
theorem dX3_bitsOf_37 : decode cX3_bitsOf 37 = .ok (.iload_n 1, 1) := by decide +kernel
theorem dX3_bitsOf_38 : decode cX3_bitsOf 38 = .ok (.bipush 10, 2) := by decide +kernel
theorem dX3_bitsOf_40 : decode cX3_bitsOf 40 = .ok (.irem, 1) := by decide +kernel
theorem dX3_bitsOf_41 : decode cX3_bitsOf 41 = .ok (.iconst 4, 1) := by decide +kernel
theorem dX3_bitsOf_42 : decode cX3_bitsOf 42 = .ok (.ishl, 1) := by decide +kernel
theorem dX3_bitsOf_43 : decode cX3_bitsOf 43 = .ok (.iload_n 1, 1) := by decide +kernel
theorem dX3_bitsOf_44 : decode cX3_bitsOf 44 = .ok (.bipush 10, 2) := by decide +kernel
theorem dX3_bitsOf_46 : decode cX3_bitsOf 46 = .ok (.idiv, 1) := by decide +kernel
theorem dX3_bitsOf_47 : decode cX3_bitsOf 47 = .ok (.bipush 8, 2) := by decide +kernel
theorem dX3_bitsOf_49 : decode cX3_bitsOf 49 = .ok (.ishl, 1) := by decide +kernel
theorem dX3_bitsOf_50 : decode cX3_bitsOf 50 = .ok (.ior, 1) := by decide +kernel
theorem dX3_bitsOf_51 : decode cX3_bitsOf 51 = .ok (.istore 4, 2) := by decide +kernel
theorem dX3_bitsOf_53 : decode cX3_bitsOf 53 = .ok (.iload_n 2, 1) := by decide +kernel
theorem dX3_bitsOf_54 : decode cX3_bitsOf 54 = .ok (.bipush 10, 2) := by decide +kernel
theorem dX3_bitsOf_56 : decode cX3_bitsOf 56 = .ok (.irem, 1) := by decide +kernel
theorem dX3_bitsOf_57 : decode cX3_bitsOf 57 = .ok (.bipush 12, 2) := by decide +kernel
theorem dX3_bitsOf_59 : decode cX3_bitsOf 59 = .ok (.ishl, 1) := by decide +kernel
theorem dX3_bitsOf_60 : decode cX3_bitsOf 60 = .ok (.iload_n 2, 1) := by decide +kernel
theorem dX3_bitsOf_61 : decode cX3_bitsOf 61 = .ok (.bipush 10, 2) := by decide +kernel
theorem dX3_bitsOf_63 : decode cX3_bitsOf 63 = .ok (.idiv, 1) := by decide +kernel
theorem dX3_bitsOf_64 : decode cX3_bitsOf 64 = .ok (.bipush 16, 2) := by decide +kernel
theorem dX3_bitsOf_66 : decode cX3_bitsOf 66 = .ok (.ishl, 1) := by decide +kernel
theorem dX3_bitsOf_67 : decode cX3_bitsOf 67 = .ok (.ior, 1) := by decide +kernel
theorem dX3_bitsOf_68 : decode cX3_bitsOf 68 = .ok (.istore 5, 2) := by decide +kernel
theorem dX3_bitsOf_70 : decode cX3_bitsOf 70 = .ok (.iload 4, 2) := by decide +kernel
theorem dX3_bitsOf_72 : decode cX3_bitsOf 72 = .ok (.invokestatic 35, 3) := by decide +kernel
theorem dX3_bitsOf_75 : decode cX3_bitsOf 75 = .ok (.iconst 2, 1) := by decide +kernel
theorem dX3_bitsOf_76 : decode cX3_bitsOf 76 = .ok (.irem, 1) := by decide +kernel
theorem dX3_bitsOf_77 : decode cX3_bitsOf 77 = .ok (.bipush 11, 2) := by decide +kernel
theorem dX3_bitsOf_79 : decode cX3_bitsOf 79 = .ok (.ishl, 1) := by decide +kernel
theorem dX3_bitsOf_80 : decode cX3_bitsOf 80 = .ok (.istore 6, 2) := by decide +kernel
theorem dX3_bitsOf_82 : decode cX3_bitsOf 82 = .ok (.iload 5, 2) := by decide +kernel
theorem dX3_bitsOf_84 : decode cX3_bitsOf 84 = .ok (.invokestatic 35, 3) := by decide +kernel
theorem dX3_bitsOf_87 : decode cX3_bitsOf 87 = .ok (.iconst 2, 1) := by decide +kernel
theorem dX3_bitsOf_88 : decode cX3_bitsOf 88 = .ok (.irem, 1) := by decide +kernel
theorem dX3_bitsOf_89 : decode cX3_bitsOf 89 = .ok (.bipush 18, 2) := by decide +kernel
theorem dX3_bitsOf_91 : decode cX3_bitsOf 91 = .ok (.ishl, 1) := by decide +kernel
theorem dX3_bitsOf_92 : decode cX3_bitsOf 92 = .ok (.istore 7, 2) := by decide +kernel
theorem dX3_bitsOf_94 : decode cX3_bitsOf 94 = .ok (.iload_n 3, 1) := by decide +kernel
theorem dX3_bitsOf_95 : decode cX3_bitsOf 95 = .ok (.iload 4, 2) := by decide +kernel
theorem dX3_bitsOf_97 : decode cX3_bitsOf 97 = .ok (.ior, 1) := by decide +kernel
theorem dX3_bitsOf_98 : decode cX3_bitsOf 98 = .ok (.iload 6, 2) := by decide +kernel
theorem dX3_bitsOf_100 : decode cX3_bitsOf 100 = .ok (.ior, 1) := by decide +kernel
theorem dX3_bitsOf_101 : decode cX3_bitsOf 101 = .ok (.iload 5, 2) := by decide +kernel
theorem dX3_bitsOf_103 : decode cX3_bitsOf 103 = .ok (.ior, 1) := by decide +kernel
theorem dX3_bitsOf_104 : decode cX3_bitsOf 104 = .ok (.iload 7, 2) := by decide +kernel
theorem dX3_bitsOf_106 : decode cX3_bitsOf 106 = .ok (.ior, 1) := by decide +kernel
theorem dX3_bitsOf_107 : decode cX3_bitsOf 107 = .ok (.ireturn, 1) := by decide +kernel
theorem dX4_init_0 : decode cX4_init 0 = .ok (.aload_n 0, 1) := by decide +kernel
theorem dX4_init_1 : decode cX4_init 1 = .ok (.invokespecial 3, 3) := by decide +kernel
theorem dX4_init_4 : decode cX4_init 4 = .ok (.aload_n 0, 1) := by decide +kernel
theorem dX4_init_5 : decode cX4_init 5 = .ok (.sipush 11520, 3) := by decide +kernel
theorem dX4_init_8 : decode cX4_init 8 = .ok (.newarray .int, 2) := by decide +kernel
theorem dX4_init_10 : decode cX4_init 10 = .ok (.putfield 9, 3) := by decide +kernel
theorem dX4_init_13 : decode cX4_init 13 = .ok (.aload_n 0, 1) := by decide +kernel
theorem dX4_init_14 : decode cX4_init 14 = .ok (.bipush 60, 2) := by decide +kernel
theorem dX4_init_16 : decode cX4_init 16 = .ok (.newarray .int, 2) := by decide +kernel
theorem dX4_init_18 : decode cX4_init 18 = .ok (.putfield 15, 3) := by decide +kernel
theorem dX4_init_21 : decode cX4_init 21 = .ok (.aload_n 0, 1) := by decide +kernel
theorem dX4_init_22 : decode cX4_init 22 = .ok (.bipush 7, 2) := by decide +kernel
theorem dX4_init_24 : decode cX4_init 24 = .ok (.sipush 192, 3) := by decide +kernel
theorem dX4_init_27 : decode cX4_init 27 = .ok (.multianewarray 18 2, 4) := by decide +kernel
theorem dX4_init_31 : decode cX4_init 31 = .ok (.putfield 20, 3) := by decide +kernel
theorem dX4_init_34 : decode cX4_init 34 = .ok (.return_, 1) := by decide +kernel
theorem dX4_take_0 : decode cX4_take 0 = .ok (.aload_n 0, 1) := by decide +kernel
theorem dX4_take_1 : decode cX4_take 1 = .ok (.aload_n 1, 1) := by decide +kernel
theorem dX4_take_2 : decode cX4_take 2 = .ok (.invokevirtual 23, 3) := by decide +kernel
theorem dX4_take_5 : decode cX4_take 5 = .ok (.aload_n 0, 1) := by decide +kernel
theorem dX4_take_6 : decode cX4_take 6 = .ok (.aload_n 1, 1) := by decide +kernel
theorem dX4_take_7 : decode cX4_take 7 = .ok (.invokevirtual 27, 3) := by decide +kernel
theorem dX4_take_10 : decode cX4_take 10 = .ok (.iconst 0, 1) := by decide +kernel
theorem dX4_take_11 : decode cX4_take 11 = .ok (.istore_n 2, 1) := by decide +kernel
theorem dX4_take_12 : decode cX4_take 12 = .ok (.iload_n 2, 1) := by decide +kernel
theorem dX4_take_13 : decode cX4_take 13 = .ok (.sipush 192, 3) := by decide +kernel
theorem dX4_take_16 : decode cX4_take 16 = .ok (.if_icmp .ge 18, 3) := by decide +kernel
theorem dX4_take_19 : decode cX4_take 19 = .ok (.aload_n 0, 1) := by decide +kernel
theorem dX4_take_20 : decode cX4_take 20 = .ok (.iload_n 2, 1) := by decide +kernel
theorem dX4_take_21 : decode cX4_take 21 = .ok (.aload_n 1, 1) := by decide +kernel
theorem dX4_take_22 : decode cX4_take 22 = .ok (.getfield 30, 3) := by decide +kernel
theorem dX4_take_25 : decode cX4_take 25 = .ok (.invokevirtual 36, 3) := by decide +kernel
theorem dX4_take_28 : decode cX4_take 28 = .ok (.iinc 2 1, 3) := by decide +kernel
theorem dX4_take_31 : decode cX4_take 31 = .ok (.goto (-19), 3) := by decide +kernel
theorem dX4_take_34 : decode cX4_take 34 = .ok (.aload_n 0, 1) := by decide +kernel
theorem dX4_take_35 : decode cX4_take 35 = .ok (.invokevirtual 40, 3) := by decide +kernel
theorem dX4_take_38 : decode cX4_take 38 = .ok (.aload_n 0, 1) := by decide +kernel
theorem dX4_take_39 : decode cX4_take 39 = .ok (.aload_n 0, 1) := by decide +kernel
theorem dX4_take_40 : decode cX4_take 40 = .ok (.getfield 43, 3) := by decide +kernel
theorem dX4_take_43 : decode cX4_take 43 = .ok (.aload_n 1, 1) := by decide +kernel
theorem dX4_take_44 : decode cX4_take 44 = .ok (.getfield 30, 3) := by decide +kernel
theorem dX4_take_47 : decode cX4_take 47 = .ok (.iconst 1, 1) := by decide +kernel
theorem dX4_take_48 : decode cX4_take 48 = .ok (.isub, 1) := by decide +kernel
theorem dX4_take_49 : decode cX4_take 49 = .ok (.invokestatic 46, 3) := by decide +kernel
theorem dX4_take_52 : decode cX4_take 52 = .ok (.putfield 52, 3) := by decide +kernel
theorem dX4_take_55 : decode cX4_take 55 = .ok (.return_, 1) := by decide +kernel
theorem dX4_countByMinute_0 : decode cX4_countByMinute 0 = .ok (.iconst 0, 1) := by decide +kernel
theorem dX4_countByMinute_1 : decode cX4_countByMinute 1 = .ok (.istore_n 2, 1) := by decide +kernel
theorem dX4_countByMinute_2 : decode cX4_countByMinute 2 = .ok (.iload_n 2, 1) := by decide +kernel
theorem dX4_countByMinute_3 : decode cX4_countByMinute 3 = .ok (.bipush 60, 2) := by decide +kernel
theorem dX4_countByMinute_5 : decode cX4_countByMinute 5 = .ok (.if_icmp .ge 65, 3) := by decide +kernel
theorem dX4_countByMinute_8 : decode cX4_countByMinute 8 = .ok (.iconst 0, 1) := by decide +kernel
theorem dX4_countByMinute_9 : decode cX4_countByMinute 9 = .ok (.istore_n 3, 1) := by decide +kernel
theorem dX4_countByMinute_10 : decode cX4_countByMinute 10 = .ok (.iconst 0, 1) := by decide +kernel
theorem dX4_countByMinute_11 : decode cX4_countByMinute 11 = .ok (.istore 4, 2) := by decide +kernel
theorem dX4_countByMinute_13 : decode cX4_countByMinute 13 = .ok (.iload 4, 2) := by decide +kernel
theorem dX4_countByMinute_15 : decode cX4_countByMinute 15 = .ok (.aload_n 1, 1) := by decide +kernel
theorem dX4_countByMinute_16 : decode cX4_countByMinute 16 = .ok (.getfield 30, 3) := by decide +kernel
theorem dX4_countByMinute_19 : decode cX4_countByMinute 19 = .ok (.if_icmp .ge 38, 3) := by decide +kernel
theorem dX4_countByMinute_22 : decode cX4_countByMinute 22 = .ok (.bipush 8, 2) := by decide +kernel
theorem dX4_countByMinute_24 : decode cX4_countByMinute 24 = .ok (.iload_n 2, 1) := by decide +kernel
theorem dX4_countByMinute_25 : decode cX4_countByMinute 25 = .ok (.iload 4, 2) := by decide +kernel
theorem dX4_countByMinute_27 : decode cX4_countByMinute 27 = .ok (.iadd, 1) := by decide +kernel
theorem dX4_countByMinute_28 : decode cX4_countByMinute 28 = .ok (.bipush 60, 2) := by decide +kernel
theorem dX4_countByMinute_30 : decode cX4_countByMinute 30 = .ok (.irem, 1) := by decide +kernel
theorem dX4_countByMinute_31 : decode cX4_countByMinute 31 = .ok (.imul, 1) := by decide +kernel
theorem dX4_countByMinute_32 : decode cX4_countByMinute 32 = .ok (.invokestatic 55, 3) := by decide +kernel
theorem dX4_countByMinute_35 : decode cX4_countByMinute 35 = .ok (.istore 5, 2) := by decide +kernel
theorem dX4_countByMinute_37 : decode cX4_countByMinute 37 = .ok (.iload_n 3, 1) := by decide +kernel
theorem dX4_countByMinute_38 : decode cX4_countByMinute 38 = .ok (.aload_n 1, 1) := by decide +kernel
theorem dX4_countByMinute_39 : decode cX4_countByMinute 39 = .ok (.iload 4, 2) := by decide +kernel
theorem dX4_countByMinute_41 : decode cX4_countByMinute 41 = .ok (.iload 5, 2) := by decide +kernel
theorem dX4_countByMinute_43 : decode cX4_countByMinute 43 = .ok (.sipush 4080, 3) := by decide +kernel
theorem dX4_countByMinute_46 : decode cX4_countByMinute 46 = .ok (.invokevirtual 59, 3) := by decide +kernel
theorem dX4_countByMinute_49 : decode cX4_countByMinute 49 = .ok (.iadd, 1) := by decide +kernel
theorem dX4_countByMinute_50 : decode cX4_countByMinute 50 = .ok (.istore_n 3, 1) := by decide +kernel
theorem dX4_countByMinute_51 : decode cX4_countByMinute 51 = .ok (.iinc 4 1, 3) := by decide +kernel
theorem dX4_countByMinute_54 : decode cX4_countByMinute 54 = .ok (.goto (-41), 3) := by decide +kernel
theorem dX4_countByMinute_57 : decode cX4_countByMinute 57 = .ok (.aload_n 0, 1) := by decide +kernel
theorem dX4_countByMinute_58 : decode cX4_countByMinute 58 = .ok (.getfield 15, 3) := by decide +kernel
theorem dX4_countByMinute_61 : decode cX4_countByMinute 61 = .ok (.iload_n 2, 1) := by decide +kernel
theorem dX4_countByMinute_62 : decode cX4_countByMinute 62 = .ok (.iload_n 3, 1) := by decide +kernel
theorem dX4_countByMinute_63 : decode cX4_countByMinute 63 = .ok (.iastore, 1) := by decide +kernel
theorem dX4_countByMinute_64 : decode cX4_countByMinute 64 = .ok (.iinc 2 1, 3) := by decide +kernel
theorem dX4_countByMinute_67 : decode cX4_countByMinute 67 = .ok (.goto (-65), 3) := by decide +kernel
theorem dX4_countByMinute_70 : decode cX4_countByMinute 70 = .ok (.return_, 1) := by decide +kernel
theorem dX4_countByHour_0 : decode cX4_countByHour 0 = .ok (.iconst 0, 1) := by decide +kernel
theorem dX4_countByHour_1 : decode cX4_countByHour 1 = .ok (.istore_n 2, 1) := by decide +kernel
theorem dX4_countByHour_2 : decode cX4_countByHour 2 = .ok (.iload_n 2, 1) := by decide +kernel
theorem dX4_countByHour_3 : decode cX4_countByHour 3 = .ok (.sipush 192, 3) := by decide +kernel
theorem dX4_countByHour_6 : decode cX4_countByHour 6 = .ok (.if_icmp .ge 66, 3) := by decide +kernel
theorem dX4_countByHour_9 : decode cX4_countByHour 9 = .ok (.iload_n 2, 1) := by decide +kernel
theorem dX4_countByHour_10 : decode cX4_countByHour 10 = .ok (.iconst 0, 1) := by decide +kernel
theorem dX4_countByHour_11 : decode cX4_countByHour 11 = .ok (.invokestatic 63, 3) := by decide +kernel
theorem dX4_countByHour_14 : decode cX4_countByHour 14 = .ok (.invokestatic 55, 3) := by decide +kernel
theorem dX4_countByHour_17 : decode cX4_countByHour 17 = .ok (.istore_n 3, 1) := by decide +kernel
theorem dX4_countByHour_18 : decode cX4_countByHour 18 = .ok (.iconst 0, 1) := by decide +kernel
theorem dX4_countByHour_19 : decode cX4_countByHour 19 = .ok (.istore 4, 2) := by decide +kernel
theorem dX4_countByHour_21 : decode cX4_countByHour 21 = .ok (.iconst 0, 1) := by decide +kernel
theorem dX4_countByHour_22 : decode cX4_countByHour 22 = .ok (.istore 5, 2) := by decide +kernel
theorem dX4_countByHour_24 : decode cX4_countByHour 24 = .ok (.iload 5, 2) := by decide +kernel
theorem dX4_countByHour_26 : decode cX4_countByHour 26 = .ok (.aload_n 1, 1) := by decide +kernel
theorem dX4_countByHour_27 : decode cX4_countByHour 27 = .ok (.getfield 30, 3) := by decide +kernel
theorem dX4_countByHour_30 : decode cX4_countByHour 30 = .ok (.if_icmp .ge 36, 3) := by decide +kernel
theorem dX4_countByHour_33 : decode cX4_countByHour 33 = .ok (.iload 4, 2) := by decide +kernel
theorem dX4_countByHour_35 : decode cX4_countByHour 35 = .ok (.aload_n 1, 1) := by decide +kernel
theorem dX4_countByHour_36 : decode cX4_countByHour 36 = .ok (.iload 5, 2) := by decide +kernel
theorem dX4_countByHour_38 : decode cX4_countByHour 38 = .ok (.iload_n 3, 1) := by decide +kernel
theorem dX4_countByHour_39 : decode cX4_countByHour 39 = .ok (.ldc 66, 2) := by decide +kernel
theorem dX4_countByHour_41 : decode cX4_countByHour 41 = .ok (.invokevirtual 59, 3) := by decide +kernel
theorem dX4_countByHour_44 : decode cX4_countByHour 44 = .ok (.iadd, 1) := by decide +kernel
theorem dX4_countByHour_45 : decode cX4_countByHour 45 = .ok (.istore 4, 2) := by decide +kernel
theorem dX4_countByHour_47 : decode cX4_countByHour 47 = .ok (.aload_n 0, 1) := by decide +kernel
theorem dX4_countByHour_48 : decode cX4_countByHour 48 = .ok (.getfield 20, 3) := by decide +kernel
theorem dX4_countByHour_51 : decode cX4_countByHour 51 = .ok (.iload 5, 2) := by decide +kernel
theorem dX4_countByHour_53 : decode cX4_countByHour 53 = .ok (.iconst 1, 1) := by decide +kernel
theorem dX4_countByHour_54 : decode cX4_countByHour 54 = .ok (.iadd, 1) := by decide +kernel
theorem dX4_countByHour_55 : decode cX4_countByHour 55 = .ok (.aaload, 1) := by decide +kernel
theorem dX4_countByHour_56 : decode cX4_countByHour 56 = .ok (.iload_n 2, 1) := by decide +kernel
theorem dX4_countByHour_57 : decode cX4_countByHour 57 = .ok (.iload 4, 2) := by decide +kernel
theorem dX4_countByHour_59 : decode cX4_countByHour 59 = .ok (.iastore, 1) := by decide +kernel
theorem dX4_countByHour_60 : decode cX4_countByHour 60 = .ok (.iinc 5 1, 3) := by decide +kernel
theorem dX4_countByHour_63 : decode cX4_countByHour 63 = .ok (.goto (-39), 3) := by decide +kernel
theorem dX4_countByHour_66 : decode cX4_countByHour 66 = .ok (.iinc 2 1, 3) := by decide +kernel
theorem dX4_countByHour_69 : decode cX4_countByHour 69 = .ok (.goto (-67), 3) := by decide +kernel
theorem dX4_countByHour_72 : decode cX4_countByHour 72 = .ok (.return_, 1) := by decide +kernel
theorem dX4_addUp_0 : decode cX4_addUp 0 = .ok (.iload_n 1, 1) := by decide +kernel
theorem dX4_addUp_1 : decode cX4_addUp 1 = .ok (.bipush 59, 2) := by decide +kernel
theorem dX4_addUp_3 : decode cX4_addUp 3 = .ok (.invokestatic 63, 3) := by decide +kernel
theorem dX4_addUp_6 : decode cX4_addUp 6 = .ok (.invokestatic 67, 3) := by decide +kernel
theorem dX4_addUp_9 : decode cX4_addUp 9 = .ok (.istore_n 3, 1) := by decide +kernel
theorem dX4_addUp_10 : decode cX4_addUp 10 = .ok (.iload_n 3, 1) := by decide +kernel
theorem dX4_addUp_11 : decode cX4_addUp 11 = .ok (.sipush 480, 3) := by decide +kernel
theorem dX4_addUp_14 : decode cX4_addUp 14 = .ok (.idiv, 1) := by decide +kernel
theorem dX4_addUp_15 : decode cX4_addUp 15 = .ok (.bipush 8, 2) := by decide +kernel
theorem dX4_addUp_17 : decode cX4_addUp 17 = .ok (.imul, 1) := by decide +kernel
theorem dX4_addUp_18 : decode cX4_addUp 18 = .ok (.iload_n 3, 1) := by decide +kernel
theorem dX4_addUp_19 : decode cX4_addUp 19 = .ok (.bipush 8, 2) := by decide +kernel
theorem dX4_addUp_21 : decode cX4_addUp 21 = .ok (.irem, 1) := by decide +kernel
theorem dX4_addUp_22 : decode cX4_addUp 22 = .ok (.iadd, 1) := by decide +kernel
theorem dX4_addUp_23 : decode cX4_addUp 23 = .ok (.istore 4, 2) := by decide +kernel
theorem dX4_addUp_25 : decode cX4_addUp 25 = .ok (.iload_n 1, 1) := by decide +kernel
theorem dX4_addUp_26 : decode cX4_addUp 26 = .ok (.iconst 0, 1) := by decide +kernel
theorem dX4_addUp_27 : decode cX4_addUp 27 = .ok (.invokestatic 63, 3) := by decide +kernel
theorem dX4_addUp_30 : decode cX4_addUp 30 = .ok (.istore 5, 2) := by decide +kernel
theorem dX4_addUp_32 : decode cX4_addUp 32 = .ok (.iconst 0, 1) := by decide +kernel
theorem dX4_addUp_33 : decode cX4_addUp 33 = .ok (.istore 6, 2) := by decide +kernel
theorem dX4_addUp_35 : decode cX4_addUp 35 = .ok (.iload 6, 2) := by decide +kernel
theorem dX4_addUp_37 : decode cX4_addUp 37 = .ok (.bipush 60, 2) := by decide +kernel
theorem dX4_addUp_39 : decode cX4_addUp 39 = .ok (.if_icmp .ge 76, 3) := by decide +kernel
theorem dX4_addUp_42 : decode cX4_addUp 42 = .ok (.iload_n 2, 1) := by decide +kernel
theorem dX4_addUp_43 : decode cX4_addUp 43 = .ok (.bipush 60, 2) := by decide +kernel
theorem dX4_addUp_45 : decode cX4_addUp 45 = .ok (.iload 6, 2) := by decide +kernel
theorem dX4_addUp_47 : decode cX4_addUp 47 = .ok (.isub, 1) := by decide +kernel
theorem dX4_addUp_48 : decode cX4_addUp 48 = .ok (.invokestatic 70, 3) := by decide +kernel
theorem dX4_addUp_51 : decode cX4_addUp 51 = .ok (.istore 7, 2) := by decide +kernel
theorem dX4_addUp_53 : decode cX4_addUp 53 = .ok (.aload_n 0, 1) := by decide +kernel
theorem dX4_addUp_54 : decode cX4_addUp 54 = .ok (.getfield 20, 3) := by decide +kernel
theorem dX4_addUp_57 : decode cX4_addUp 57 = .ok (.iload 7, 2) := by decide +kernel
theorem dX4_addUp_59 : decode cX4_addUp 59 = .ok (.aaload, 1) := by decide +kernel
theorem dX4_addUp_60 : decode cX4_addUp 60 = .ok (.iload_n 1, 1) := by decide +kernel
theorem dX4_addUp_61 : decode cX4_addUp 61 = .ok (.iaload, 1) := by decide +kernel
theorem dX4_addUp_62 : decode cX4_addUp 62 = .ok (.istore 8, 2) := by decide +kernel
theorem dX4_addUp_64 : decode cX4_addUp 64 = .ok (.aload_n 0, 1) := by decide +kernel
theorem dX4_addUp_65 : decode cX4_addUp 65 = .ok (.getfield 20, 3) := by decide +kernel
theorem dX4_addUp_68 : decode cX4_addUp 68 = .ok (.iload_n 2, 1) := by decide +kernel
theorem dX4_addUp_69 : decode cX4_addUp 69 = .ok (.aaload, 1) := by decide +kernel
theorem dX4_addUp_70 : decode cX4_addUp 70 = .ok (.iload 4, 2) := by decide +kernel
theorem dX4_addUp_72 : decode cX4_addUp 72 = .ok (.iaload, 1) := by decide +kernel
theorem dX4_addUp_73 : decode cX4_addUp 73 = .ok (.aload_n 0, 1) := by decide +kernel
theorem dX4_addUp_74 : decode cX4_addUp 74 = .ok (.getfield 20, 3) := by decide +kernel
theorem dX4_addUp_77 : decode cX4_addUp 77 = .ok (.iload 7, 2) := by decide +kernel
theorem dX4_addUp_79 : decode cX4_addUp 79 = .ok (.aaload, 1) := by decide +kernel
theorem dX4_addUp_80 : decode cX4_addUp 80 = .ok (.iload 4, 2) := by decide +kernel
theorem dX4_addUp_82 : decode cX4_addUp 82 = .ok (.iaload, 1) := by decide +kernel
theorem dX4_addUp_83 : decode cX4_addUp 83 = .ok (.isub, 1) := by decide +kernel
theorem dX4_addUp_84 : decode cX4_addUp 84 = .ok (.istore 9, 2) := by decide +kernel
theorem dX4_addUp_86 : decode cX4_addUp 86 = .ok (.aload_n 0, 1) := by decide +kernel
theorem dX4_addUp_87 : decode cX4_addUp 87 = .ok (.getfield 9, 3) := by decide +kernel
theorem dX4_addUp_90 : decode cX4_addUp 90 = .ok (.iload 5, 2) := by decide +kernel
theorem dX4_addUp_92 : decode cX4_addUp 92 = .ok (.aload_n 0, 1) := by decide +kernel
theorem dX4_addUp_93 : decode cX4_addUp 93 = .ok (.getfield 15, 3) := by decide +kernel
theorem dX4_addUp_96 : decode cX4_addUp 96 = .ok (.iload 6, 2) := by decide +kernel
theorem dX4_addUp_98 : decode cX4_addUp 98 = .ok (.iaload, 1) := by decide +kernel
theorem dX4_addUp_99 : decode cX4_addUp 99 = .ok (.iload 8, 2) := by decide +kernel
theorem dX4_addUp_101 : decode cX4_addUp 101 = .ok (.iadd, 1) := by decide +kernel
theorem dX4_addUp_102 : decode cX4_addUp 102 = .ok (.iload 9, 2) := by decide +kernel
theorem dX4_addUp_104 : decode cX4_addUp 104 = .ok (.iadd, 1) := by decide +kernel
theorem dX4_addUp_105 : decode cX4_addUp 105 = .ok (.iastore, 1) := by decide +kernel
theorem dX4_addUp_106 : decode cX4_addUp 106 = .ok (.iinc 5 8, 3) := by decide +kernel
theorem dX4_addUp_109 : decode cX4_addUp 109 = .ok (.iinc 6 1, 3) := by decide +kernel
theorem dX4_addUp_112 : decode cX4_addUp 112 = .ok (.goto (-77), 3) := by decide +kernel
theorem dX4_addUp_115 : decode cX4_addUp 115 = .ok (.return_, 1) := by decide +kernel
theorem dX4_timeAt_0 : decode cX4_timeAt 0 = .ok (.bipush 8, 2) := by decide +kernel
theorem dX4_timeAt_2 : decode cX4_timeAt 2 = .ok (.bipush 60, 2) := by decide +kernel
theorem dX4_timeAt_4 : decode cX4_timeAt 4 = .ok (.iload_n 0, 1) := by decide +kernel
theorem dX4_timeAt_5 : decode cX4_timeAt 5 = .ok (.bipush 8, 2) := by decide +kernel
theorem dX4_timeAt_7 : decode cX4_timeAt 7 = .ok (.idiv, 1) := by decide +kernel
theorem dX4_timeAt_8 : decode cX4_timeAt 8 = .ok (.imul, 1) := by decide +kernel
theorem dX4_timeAt_9 : decode cX4_timeAt 9 = .ok (.iload_n 1, 1) := by decide +kernel
theorem dX4_timeAt_10 : decode cX4_timeAt 10 = .ok (.iadd, 1) := by decide +kernel
theorem dX4_timeAt_11 : decode cX4_timeAt 11 = .ok (.imul, 1) := by decide +kernel
theorem dX4_timeAt_12 : decode cX4_timeAt 12 = .ok (.iload_n 0, 1) := by decide +kernel
theorem dX4_timeAt_13 : decode cX4_timeAt 13 = .ok (.bipush 8, 2) := by decide +kernel
theorem dX4_timeAt_15 : decode cX4_timeAt 15 = .ok (.irem, 1) := by decide +kernel
theorem dX4_timeAt_16 : decode cX4_timeAt 16 = .ok (.iadd, 1) := by decide +kernel
theorem dX4_timeAt_17 : decode cX4_timeAt 17 = .ok (.ireturn, 1) := by decide +kernel
theorem dX4_choose_0 : decode cX4_choose 0 = .ok (.aload_n 0, 1) := by decide +kernel
theorem dX4_choose_1 : decode cX4_choose 1 = .ok (.iconst 0, 1) := by decide +kernel
theorem dX4_choose_2 : decode cX4_choose 2 = .ok (.putfield 43, 3) := by decide +kernel
theorem dX4_choose_5 : decode cX4_choose 5 = .ok (.aload_n 0, 1) := by decide +kernel
theorem dX4_choose_6 : decode cX4_choose 6 = .ok (.aload_n 0, 1) := by decide +kernel
theorem dX4_choose_7 : decode cX4_choose 7 = .ok (.getfield 9, 3) := by decide +kernel
theorem dX4_choose_10 : decode cX4_choose 10 = .ok (.iconst 0, 1) := by decide +kernel
theorem dX4_choose_11 : decode cX4_choose 11 = .ok (.iaload, 1) := by decide +kernel
theorem dX4_choose_12 : decode cX4_choose 12 = .ok (.putfield 75, 3) := by decide +kernel
theorem dX4_choose_15 : decode cX4_choose 15 = .ok (.bipush 115, 2) := by decide +kernel
theorem dX4_choose_17 : decode cX4_choose 17 = .ok (.istore_n 1, 1) := by decide +kernel
theorem dX4_choose_18 : decode cX4_choose 18 = .ok (.iconst 1, 1) := by decide +kernel
theorem dX4_choose_19 : decode cX4_choose 19 = .ok (.istore_n 2, 1) := by decide +kernel
theorem dX4_choose_20 : decode cX4_choose 20 = .ok (.iload_n 2, 1) := by decide +kernel
theorem dX4_choose_21 : decode cX4_choose 21 = .ok (.sipush 11520, 3) := by decide +kernel
theorem dX4_choose_24 : decode cX4_choose 24 = .ok (.if_icmp .ge 49, 3) := by decide +kernel
theorem dX4_choose_27 : decode cX4_choose 27 = .ok (.aload_n 0, 1) := by decide +kernel
theorem dX4_choose_28 : decode cX4_choose 28 = .ok (.getfield 9, 3) := by decide +kernel
theorem dX4_choose_31 : decode cX4_choose 31 = .ok (.iload_n 2, 1) := by decide +kernel
theorem dX4_choose_32 : decode cX4_choose 32 = .ok (.iaload, 1) := by decide +kernel
theorem dX4_choose_33 : decode cX4_choose 33 = .ok (.istore_n 3, 1) := by decide +kernel
theorem dX4_choose_34 : decode cX4_choose 34 = .ok (.iload_n 3, 1) := by decide +kernel
theorem dX4_choose_35 : decode cX4_choose 35 = .ok (.aload_n 0, 1) := by decide +kernel
theorem dX4_choose_36 : decode cX4_choose 36 = .ok (.getfield 75, 3) := by decide +kernel
theorem dX4_choose_39 : decode cX4_choose 39 = .ok (.if_icmp .ge 21, 3) := by decide +kernel
theorem dX4_choose_42 : decode cX4_choose 42 = .ok (.aload_n 0, 1) := by decide +kernel
theorem dX4_choose_43 : decode cX4_choose 43 = .ok (.getfield 75, 3) := by decide +kernel
theorem dX4_choose_46 : decode cX4_choose 46 = .ok (.istore_n 1, 1) := by decide +kernel
theorem dX4_choose_47 : decode cX4_choose 47 = .ok (.aload_n 0, 1) := by decide +kernel
theorem dX4_choose_48 : decode cX4_choose 48 = .ok (.iload_n 3, 1) := by decide +kernel
theorem dX4_choose_49 : decode cX4_choose 49 = .ok (.putfield 75, 3) := by decide +kernel
theorem dX4_choose_52 : decode cX4_choose 52 = .ok (.aload_n 0, 1) := by decide +kernel
theorem dX4_choose_53 : decode cX4_choose 53 = .ok (.iload_n 2, 1) := by decide +kernel
theorem dX4_choose_54 : decode cX4_choose 54 = .ok (.putfield 43, 3) := by decide +kernel
theorem dX4_choose_57 : decode cX4_choose 57 = .ok (.goto 10, 3) := by decide +kernel
theorem dX4_choose_60 : decode cX4_choose 60 = .ok (.iload_n 3, 1) := by decide +kernel
theorem dX4_choose_61 : decode cX4_choose 61 = .ok (.iload_n 1, 1) := by decide +kernel
theorem dX4_choose_62 : decode cX4_choose 62 = .ok (.if_icmp .ge 5, 3) := by decide +kernel
theorem dX4_choose_65 : decode cX4_choose 65 = .ok (.iload_n 3, 1) := by decide +kernel
theorem dX4_choose_66 : decode cX4_choose 66 = .ok (.istore_n 1, 1) := by decide +kernel
theorem dX4_choose_67 : decode cX4_choose 67 = .ok (.iinc 2 1, 3) := by decide +kernel
theorem dX4_choose_70 : decode cX4_choose 70 = .ok (.goto (-50), 3) := by decide +kernel
theorem dX4_choose_73 : decode cX4_choose 73 = .ok (.aload_n 0, 1) := by decide +kernel
theorem dX4_choose_74 : decode cX4_choose 74 = .ok (.iload_n 1, 1) := by decide +kernel
theorem dX4_choose_75 : decode cX4_choose 75 = .ok (.aload_n 0, 1) := by decide +kernel
theorem dX4_choose_76 : decode cX4_choose 76 = .ok (.getfield 75, 3) := by decide +kernel
theorem dX4_choose_79 : decode cX4_choose 79 = .ok (.isub, 1) := by decide +kernel
theorem dX4_choose_80 : decode cX4_choose 80 = .ok (.putfield 78, 3) := by decide +kernel
theorem dX4_choose_83 : decode cX4_choose 83 = .ok (.return_, 1) := by decide +kernel
theorem dX4_closeCount_0 : decode cX4_closeCount 0 = .ok (.iconst 0, 1) := by decide +kernel
theorem dX4_closeCount_1 : decode cX4_closeCount 1 = .ok (.istore_n 2, 1) := by decide +kernel
theorem dX4_closeCount_2 : decode cX4_closeCount 2 = .ok (.iconst 0, 1) := by decide +kernel
theorem dX4_closeCount_3 : decode cX4_closeCount 3 = .ok (.istore_n 3, 1) := by decide +kernel
theorem dX4_closeCount_4 : decode cX4_closeCount 4 = .ok (.iload_n 3, 1) := by decide +kernel
theorem dX4_closeCount_5 : decode cX4_closeCount 5 = .ok (.sipush 11520, 3) := by decide +kernel
theorem dX4_closeCount_8 : decode cX4_closeCount 8 = .ok (.if_icmp .ge 22, 3) := by decide +kernel
theorem dX4_closeCount_11 : decode cX4_closeCount 11 = .ok (.aload_n 0, 1) := by decide +kernel
theorem dX4_closeCount_12 : decode cX4_closeCount 12 = .ok (.getfield 9, 3) := by decide +kernel
theorem dX4_closeCount_15 : decode cX4_closeCount 15 = .ok (.iload_n 3, 1) := by decide +kernel
theorem dX4_closeCount_16 : decode cX4_closeCount 16 = .ok (.iaload, 1) := by decide +kernel
theorem dX4_closeCount_17 : decode cX4_closeCount 17 = .ok (.iload_n 1, 1) := by decide +kernel
theorem dX4_closeCount_18 : decode cX4_closeCount 18 = .ok (.if_icmp .gt 6, 3) := by decide +kernel
theorem dX4_closeCount_21 : decode cX4_closeCount 21 = .ok (.iinc 2 1, 3) := by decide +kernel
theorem dX4_closeCount_24 : decode cX4_closeCount 24 = .ok (.iinc 3 1, 3) := by decide +kernel
theorem dX4_closeCount_27 : decode cX4_closeCount 27 = .ok (.goto (-23), 3) := by decide +kernel
theorem dX4_closeCount_30 : decode cX4_closeCount 30 = .ok (.iload_n 2, 1) := by decide +kernel
theorem dX4_closeCount_31 : decode cX4_closeCount 31 = .ok (.ireturn, 1) := by decide +kernel
theorem dX4_closeTime_0 : decode cX4_closeTime 0 = .ok (.iconst 0, 1) := by decide +kernel
theorem dX4_closeTime_1 : decode cX4_closeTime 1 = .ok (.istore_n 3, 1) := by decide +kernel
theorem dX4_closeTime_2 : decode cX4_closeTime 2 = .ok (.iconst 0, 1) := by decide +kernel
theorem dX4_closeTime_3 : decode cX4_closeTime 3 = .ok (.istore 4, 2) := by decide +kernel
theorem dX4_closeTime_5 : decode cX4_closeTime 5 = .ok (.iload 4, 2) := by decide +kernel
theorem dX4_closeTime_7 : decode cX4_closeTime 7 = .ok (.sipush 11520, 3) := by decide +kernel
theorem dX4_closeTime_10 : decode cX4_closeTime 10 = .ok (.if_icmp .ge 31, 3) := by decide +kernel
theorem dX4_closeTime_13 : decode cX4_closeTime 13 = .ok (.aload_n 0, 1) := by decide +kernel
theorem dX4_closeTime_14 : decode cX4_closeTime 14 = .ok (.getfield 9, 3) := by decide +kernel
theorem dX4_closeTime_17 : decode cX4_closeTime 17 = .ok (.iload 4, 2) := by decide +kernel
theorem dX4_closeTime_19 : decode cX4_closeTime 19 = .ok (.iaload, 1) := by decide +kernel
theorem dX4_closeTime_20 : decode cX4_closeTime 20 = .ok (.iload_n 1, 1) := by decide +kernel
theorem dX4_closeTime_21 : decode cX4_closeTime 21 = .ok (.if_icmp .gt 14, 3) := by decide +kernel
theorem dX4_closeTime_24 : decode cX4_closeTime 24 = .ok (.iload_n 3, 1) := by decide +kernel
theorem dX4_closeTime_25 : decode cX4_closeTime 25 = .ok (.iload_n 2, 1) := by decide +kernel
theorem dX4_closeTime_26 : decode cX4_closeTime 26 = .ok (.if_icmp .ne 6, 3) := by decide +kernel
theorem dX4_closeTime_29 : decode cX4_closeTime 29 = .ok (.iload 4, 2) := by decide +kernel
theorem dX4_closeTime_31 : decode cX4_closeTime 31 = .ok (.ireturn, 1) := by decide +kernel
theorem dX4_closeTime_32 : decode cX4_closeTime 32 = .ok (.iinc 3 1, 3) := by decide +kernel
theorem dX4_closeTime_35 : decode cX4_closeTime 35 = .ok (.iinc 4 1, 3) := by decide +kernel
theorem dX4_closeTime_38 : decode cX4_closeTime 38 = .ok (.goto (-33), 3) := by decide +kernel
theorem dX4_closeTime_41 : decode cX4_closeTime 41 = .ok (.bipush (-9), 2) := by decide +kernel
theorem dX4_closeTime_43 : decode cX4_closeTime 43 = .ok (.ireturn, 1) := by decide +kernel
theorem dJ6_bitCount_0f7a4_0 : decode cJ6_bitCount_0f7a4 0 = .ok (.iload_n 0, 1) := by decide +kernel
theorem dJ6_bitCount_0f7a4_1 : decode cJ6_bitCount_0f7a4 1 = .ok (.iload_n 0, 1) := by decide +kernel
theorem dJ6_bitCount_0f7a4_2 : decode cJ6_bitCount_0f7a4 2 = .ok (.iconst 1, 1) := by decide +kernel
theorem dJ6_bitCount_0f7a4_3 : decode cJ6_bitCount_0f7a4 3 = .ok (.iushr, 1) := by decide +kernel
theorem dJ6_bitCount_0f7a4_4 : decode cJ6_bitCount_0f7a4 4 = .ok (.ldc_w 265, 3) := by decide +kernel
theorem dJ6_bitCount_0f7a4_7 : decode cJ6_bitCount_0f7a4 7 = .ok (.iand, 1) := by decide +kernel
theorem dJ6_bitCount_0f7a4_8 : decode cJ6_bitCount_0f7a4 8 = .ok (.isub, 1) := by decide +kernel
theorem dJ6_bitCount_0f7a4_9 : decode cJ6_bitCount_0f7a4 9 = .ok (.istore_n 0, 1) := by decide +kernel
theorem dJ6_bitCount_0f7a4_10 : decode cJ6_bitCount_0f7a4 10 = .ok (.iload_n 0, 1) := by decide +kernel
theorem dJ6_bitCount_0f7a4_11 : decode cJ6_bitCount_0f7a4 11 = .ok (.ldc_w 266, 3) := by decide +kernel
theorem dJ6_bitCount_0f7a4_14 : decode cJ6_bitCount_0f7a4 14 = .ok (.iand, 1) := by decide +kernel
theorem dJ6_bitCount_0f7a4_15 : decode cJ6_bitCount_0f7a4 15 = .ok (.iload_n 0, 1) := by decide +kernel
theorem dJ6_bitCount_0f7a4_16 : decode cJ6_bitCount_0f7a4 16 = .ok (.iconst 2, 1) := by decide +kernel
theorem dJ6_bitCount_0f7a4_17 : decode cJ6_bitCount_0f7a4 17 = .ok (.iushr, 1) := by decide +kernel
theorem dJ6_bitCount_0f7a4_18 : decode cJ6_bitCount_0f7a4 18 = .ok (.ldc_w 266, 3) := by decide +kernel
theorem dJ6_bitCount_0f7a4_21 : decode cJ6_bitCount_0f7a4 21 = .ok (.iand, 1) := by decide +kernel
theorem dJ6_bitCount_0f7a4_22 : decode cJ6_bitCount_0f7a4 22 = .ok (.iadd, 1) := by decide +kernel
theorem dJ6_bitCount_0f7a4_23 : decode cJ6_bitCount_0f7a4 23 = .ok (.istore_n 0, 1) := by decide +kernel
theorem dJ6_bitCount_0f7a4_24 : decode cJ6_bitCount_0f7a4 24 = .ok (.iload_n 0, 1) := by decide +kernel
theorem dJ6_bitCount_0f7a4_25 : decode cJ6_bitCount_0f7a4 25 = .ok (.iload_n 0, 1) := by decide +kernel
theorem dJ6_bitCount_0f7a4_26 : decode cJ6_bitCount_0f7a4 26 = .ok (.iconst 4, 1) := by decide +kernel
theorem dJ6_bitCount_0f7a4_27 : decode cJ6_bitCount_0f7a4 27 = .ok (.iushr, 1) := by decide +kernel
theorem dJ6_bitCount_0f7a4_28 : decode cJ6_bitCount_0f7a4 28 = .ok (.iadd, 1) := by decide +kernel
theorem dJ6_bitCount_0f7a4_29 : decode cJ6_bitCount_0f7a4 29 = .ok (.ldc_w 267, 3) := by decide +kernel
theorem dJ6_bitCount_0f7a4_32 : decode cJ6_bitCount_0f7a4 32 = .ok (.iand, 1) := by decide +kernel
theorem dJ6_bitCount_0f7a4_33 : decode cJ6_bitCount_0f7a4 33 = .ok (.istore_n 0, 1) := by decide +kernel
theorem dJ6_bitCount_0f7a4_34 : decode cJ6_bitCount_0f7a4 34 = .ok (.iload_n 0, 1) := by decide +kernel
theorem dJ6_bitCount_0f7a4_35 : decode cJ6_bitCount_0f7a4 35 = .ok (.iload_n 0, 1) := by decide +kernel
theorem dJ6_bitCount_0f7a4_36 : decode cJ6_bitCount_0f7a4 36 = .ok (.bipush 8, 2) := by decide +kernel
theorem dJ6_bitCount_0f7a4_38 : decode cJ6_bitCount_0f7a4 38 = .ok (.iushr, 1) := by decide +kernel
theorem dJ6_bitCount_0f7a4_39 : decode cJ6_bitCount_0f7a4 39 = .ok (.iadd, 1) := by decide +kernel
theorem dJ6_bitCount_0f7a4_40 : decode cJ6_bitCount_0f7a4 40 = .ok (.istore_n 0, 1) := by decide +kernel
theorem dJ6_bitCount_0f7a4_41 : decode cJ6_bitCount_0f7a4 41 = .ok (.iload_n 0, 1) := by decide +kernel
theorem dJ6_bitCount_0f7a4_42 : decode cJ6_bitCount_0f7a4 42 = .ok (.iload_n 0, 1) := by decide +kernel
theorem dJ6_bitCount_0f7a4_43 : decode cJ6_bitCount_0f7a4 43 = .ok (.bipush 16, 2) := by decide +kernel
theorem dJ6_bitCount_0f7a4_45 : decode cJ6_bitCount_0f7a4 45 = .ok (.iushr, 1) := by decide +kernel
theorem dJ6_bitCount_0f7a4_46 : decode cJ6_bitCount_0f7a4 46 = .ok (.iadd, 1) := by decide +kernel
theorem dJ6_bitCount_0f7a4_47 : decode cJ6_bitCount_0f7a4 47 = .ok (.istore_n 0, 1) := by decide +kernel
theorem dJ6_bitCount_0f7a4_48 : decode cJ6_bitCount_0f7a4 48 = .ok (.iload_n 0, 1) := by decide +kernel
theorem dJ6_bitCount_0f7a4_49 : decode cJ6_bitCount_0f7a4 49 = .ok (.bipush 63, 2) := by decide +kernel
theorem dJ6_bitCount_0f7a4_51 : decode cJ6_bitCount_0f7a4 51 = .ok (.iand, 1) := by decide +kernel
theorem dJ6_bitCount_0f7a4_52 : decode cJ6_bitCount_0f7a4 52 = .ok (.ireturn, 1) := by decide +kernel
theorem dJ9_floorMod_7cf53_0 : decode cJ9_floorMod_7cf53 0 = .ok (.iload_n 0, 1) := by decide +kernel
theorem dJ9_floorMod_7cf53_1 : decode cJ9_floorMod_7cf53 1 = .ok (.iload_n 1, 1) := by decide +kernel
theorem dJ9_floorMod_7cf53_2 : decode cJ9_floorMod_7cf53 2 = .ok (.irem, 1) := by decide +kernel
theorem dJ9_floorMod_7cf53_3 : decode cJ9_floorMod_7cf53 3 = .ok (.istore_n 2, 1) := by decide +kernel
theorem dJ9_floorMod_7cf53_4 : decode cJ9_floorMod_7cf53 4 = .ok (.iload_n 0, 1) := by decide +kernel
theorem dJ9_floorMod_7cf53_5 : decode cJ9_floorMod_7cf53 5 = .ok (.iload_n 1, 1) := by decide +kernel
theorem dJ9_floorMod_7cf53_6 : decode cJ9_floorMod_7cf53 6 = .ok (.ixor, 1) := by decide +kernel
theorem dJ9_floorMod_7cf53_7 : decode cJ9_floorMod_7cf53 7 = .ok (.ifCond .ge 11, 3) := by decide +kernel
theorem dJ9_floorMod_7cf53_10 : decode cJ9_floorMod_7cf53 10 = .ok (.iload_n 2, 1) := by decide +kernel
theorem dJ9_floorMod_7cf53_11 : decode cJ9_floorMod_7cf53 11 = .ok (.ifCond .eq 7, 3) := by decide +kernel
theorem dJ9_floorMod_7cf53_14 : decode cJ9_floorMod_7cf53 14 = .ok (.iload_n 2, 1) := by decide +kernel
theorem dJ9_floorMod_7cf53_15 : decode cJ9_floorMod_7cf53 15 = .ok (.iload_n 1, 1) := by decide +kernel
theorem dJ9_floorMod_7cf53_16 : decode cJ9_floorMod_7cf53 16 = .ok (.iadd, 1) := by decide +kernel
theorem dJ9_floorMod_7cf53_17 : decode cJ9_floorMod_7cf53 17 = .ok (.ireturn, 1) := by decide +kernel
theorem dJ9_floorMod_7cf53_18 : decode cJ9_floorMod_7cf53 18 = .ok (.iload_n 2, 1) := by decide +kernel
theorem dJ9_floorMod_7cf53_19 : decode cJ9_floorMod_7cf53 19 = .ok (.ireturn, 1) := by decide +kernel
theorem dJ9_min_7cf53_0 : decode cJ9_min_7cf53 0 = .ok (.iload_n 0, 1) := by decide +kernel
theorem dJ9_min_7cf53_1 : decode cJ9_min_7cf53 1 = .ok (.iload_n 1, 1) := by decide +kernel
theorem dJ9_min_7cf53_2 : decode cJ9_min_7cf53 2 = .ok (.if_icmp .gt 7, 3) := by decide +kernel
theorem dJ9_min_7cf53_5 : decode cJ9_min_7cf53 5 = .ok (.iload_n 0, 1) := by decide +kernel
theorem dJ9_min_7cf53_6 : decode cJ9_min_7cf53 6 = .ok (.goto 4, 3) := by decide +kernel
theorem dJ9_min_7cf53_9 : decode cJ9_min_7cf53 9 = .ok (.iload_n 1, 1) := by decide +kernel
theorem dJ9_min_7cf53_10 : decode cJ9_min_7cf53 10 = .ok (.ireturn, 1) := by decide +kernel
end
section
theorem dX5_init_0 : decode cX5_init 0 = .ok (.aload_n 0, 1) := by decide +kernel
theorem dX5_init_1 : decode cX5_init 1 = .ok (.invokespecial 3, 3) := by decide +kernel
theorem dX5_init_4 : decode cX5_init 4 = .ok (.aload_n 0, 1) := by decide +kernel
theorem dX5_init_5 : decode cX5_init 5 = .ok (.new 9, 3) := by decide +kernel
theorem dX5_init_8 : decode cX5_init 8 = .ok (.dup, 1) := by decide +kernel
theorem dX5_init_9 : decode cX5_init 9 = .ok (.invokespecial 11, 3) := by decide +kernel
theorem dX5_init_12 : decode cX5_init 12 = .ok (.putfield 12, 3) := by decide +kernel
theorem dX5_init_15 : decode cX5_init 15 = .ok (.aload_n 0, 1) := by decide +kernel
theorem dX5_init_16 : decode cX5_init 16 = .ok (.new 16, 3) := by decide +kernel
theorem dX5_init_19 : decode cX5_init 19 = .ok (.dup, 1) := by decide +kernel
theorem dX5_init_20 : decode cX5_init 20 = .ok (.invokespecial 18, 3) := by decide +kernel
theorem dX5_init_23 : decode cX5_init 23 = .ok (.putfield 19, 3) := by decide +kernel
theorem dX5_init_26 : decode cX5_init 26 = .ok (.aload_n 0, 1) := by decide +kernel
theorem dX5_init_27 : decode cX5_init 27 = .ok (.iconst 2, 1) := by decide +kernel
theorem dX5_init_28 : decode cX5_init 28 = .ok (.anewarray 9, 3) := by decide +kernel
theorem dX5_init_31 : decode cX5_init 31 = .ok (.putfield 23, 3) := by decide +kernel
theorem dX5_init_34 : decode cX5_init 34 = .ok (.aload_n 0, 1) := by decide +kernel
theorem dX5_init_35 : decode cX5_init 35 = .ok (.iconst 2, 1) := by decide +kernel
theorem dX5_init_36 : decode cX5_init 36 = .ok (.newarray .boolean, 2) := by decide +kernel
theorem dX5_init_38 : decode cX5_init 38 = .ok (.putfield 27, 3) := by decide +kernel
theorem dX5_init_41 : decode cX5_init 41 = .ok (.aload_n 0, 1) := by decide +kernel
theorem dX5_init_42 : decode cX5_init 42 = .ok (.new 31, 3) := by decide +kernel
theorem dX5_init_45 : decode cX5_init 45 = .ok (.dup, 1) := by decide +kernel
theorem dX5_init_46 : decode cX5_init 46 = .ok (.invokespecial 33, 3) := by decide +kernel
theorem dX5_init_49 : decode cX5_init 49 = .ok (.putfield 34, 3) := by decide +kernel
theorem dX5_init_52 : decode cX5_init 52 = .ok (.aload_n 0, 1) := by decide +kernel
theorem dX5_init_53 : decode cX5_init 53 = .ok (.new 38, 3) := by decide +kernel
theorem dX5_init_56 : decode cX5_init 56 = .ok (.dup, 1) := by decide +kernel
theorem dX5_init_57 : decode cX5_init 57 = .ok (.invokespecial 40, 3) := by decide +kernel
theorem dX5_init_60 : decode cX5_init 60 = .ok (.putfield 41, 3) := by decide +kernel
theorem dX5_init_63 : decode cX5_init 63 = .ok (.iconst 0, 1) := by decide +kernel
theorem dX5_init_64 : decode cX5_init 64 = .ok (.istore_n 1, 1) := by decide +kernel
theorem dX5_init_65 : decode cX5_init 65 = .ok (.iload_n 1, 1) := by decide +kernel
theorem dX5_init_66 : decode cX5_init 66 = .ok (.iconst 2, 1) := by decide +kernel
theorem dX5_init_67 : decode cX5_init 67 = .ok (.if_icmp .ge 22, 3) := by decide +kernel
theorem dX5_init_70 : decode cX5_init 70 = .ok (.aload_n 0, 1) := by decide +kernel
theorem dX5_init_71 : decode cX5_init 71 = .ok (.getfield 23, 3) := by decide +kernel
theorem dX5_init_74 : decode cX5_init 74 = .ok (.iload_n 1, 1) := by decide +kernel
theorem dX5_init_75 : decode cX5_init 75 = .ok (.new 9, 3) := by decide +kernel
theorem dX5_init_78 : decode cX5_init 78 = .ok (.dup, 1) := by decide +kernel
theorem dX5_init_79 : decode cX5_init 79 = .ok (.invokespecial 11, 3) := by decide +kernel
theorem dX5_init_82 : decode cX5_init 82 = .ok (.aastore, 1) := by decide +kernel
theorem dX5_init_83 : decode cX5_init 83 = .ok (.iinc 1 1, 3) := by decide +kernel
theorem dX5_init_86 : decode cX5_init 86 = .ok (.goto (-21), 3) := by decide +kernel
theorem dX5_init_89 : decode cX5_init 89 = .ok (.return_, 1) := by decide +kernel
theorem dX5_hears_0 : decode cX5_hears 0 = .ok (.iload_n 1, 1) := by decide +kernel
theorem dX5_hears_1 : decode cX5_hears 1 = .ok (.ifCond .lt 9, 3) := by decide +kernel
theorem dX5_hears_4 : decode cX5_hears 4 = .ok (.iload_n 1, 1) := by decide +kernel
theorem dX5_hears_5 : decode cX5_hears 5 = .ok (.bipush 30, 2) := by decide +kernel
theorem dX5_hears_7 : decode cX5_hears 7 = .ok (.if_icmp .le 5, 3) := by decide +kernel
theorem dX5_hears_10 : decode cX5_hears 10 = .ok (.iconst (-1), 1) := by decide +kernel
theorem dX5_hears_11 : decode cX5_hears 11 = .ok (.ireturn, 1) := by decide +kernel
theorem dX5_hears_12 : decode cX5_hears 12 = .ok (.aload_n 0, 1) := by decide +kernel
theorem dX5_hears_13 : decode cX5_hears 13 = .ok (.getfield 12, 3) := by decide +kernel
theorem dX5_hears_16 : decode cX5_hears 16 = .ok (.getfield 45, 3) := by decide +kernel
theorem dX5_hears_19 : decode cX5_hears 19 = .ok (.bipush 120, 2) := by decide +kernel
theorem dX5_hears_21 : decode cX5_hears 21 = .ok (.if_icmp .lt 6, 3) := by decide +kernel
theorem dX5_hears_24 : decode cX5_hears 24 = .ok (.bipush (-3), 2) := by decide +kernel
theorem dX5_hears_26 : decode cX5_hears 26 = .ok (.ireturn, 1) := by decide +kernel
theorem dX5_hears_27 : decode cX5_hears 27 = .ok (.aload_n 0, 1) := by decide +kernel
theorem dX5_hears_28 : decode cX5_hears 28 = .ok (.getfield 19, 3) := by decide +kernel
theorem dX5_hears_31 : decode cX5_hears 31 = .ok (.aload_n 0, 1) := by decide +kernel
theorem dX5_hears_32 : decode cX5_hears 32 = .ok (.getfield 12, 3) := by decide +kernel
theorem dX5_hears_35 : decode cX5_hears 35 = .ok (.invokevirtual 49, 3) := by decide +kernel
theorem dX5_hears_38 : decode cX5_hears 38 = .ok (.aload_n 0, 1) := by decide +kernel
theorem dX5_hears_39 : decode cX5_hears 39 = .ok (.getfield 12, 3) := by decide +kernel
theorem dX5_hears_42 : decode cX5_hears 42 = .ok (.iload_n 1, 1) := by decide +kernel
theorem dX5_hears_43 : decode cX5_hears 43 = .ok (.invokestatic 53, 3) := by decide +kernel
theorem dX5_hears_46 : decode cX5_hears 46 = .ok (.invokevirtual 57, 3) := by decide +kernel
theorem dX5_hears_49 : decode cX5_hears 49 = .ok (.aload_n 0, 1) := by decide +kernel
theorem dX5_hears_50 : decode cX5_hears 50 = .ok (.invokevirtual 61, 3) := by decide +kernel
theorem dX5_hears_53 : decode cX5_hears 53 = .ok (.aload_n 0, 1) := by decide +kernel
theorem dX5_hears_54 : decode cX5_hears 54 = .ok (.getfield 12, 3) := by decide +kernel
theorem dX5_hears_57 : decode cX5_hears 57 = .ok (.getfield 45, 3) := by decide +kernel
theorem dX5_hears_60 : decode cX5_hears 60 = .ok (.ireturn, 1) := by decide +kernel
theorem dX5_frames_0 : decode cX5_frames 0 = .ok (.iload_n 1, 1) := by decide +kernel
theorem dX5_frames_1 : decode cX5_frames 1 = .ok (.ifCond .lt 19, 3) := by decide +kernel
theorem dX5_frames_4 : decode cX5_frames 4 = .ok (.iload_n 1, 1) := by decide +kernel
theorem dX5_frames_5 : decode cX5_frames 5 = .ok (.ldc 64, 2) := by decide +kernel
theorem dX5_frames_7 : decode cX5_frames 7 = .ok (.if_icmp .gt 13, 3) := by decide +kernel
theorem dX5_frames_10 : decode cX5_frames 10 = .ok (.iload_n 2, 1) := by decide +kernel
theorem dX5_frames_11 : decode cX5_frames 11 = .ok (.ifCond .lt 9, 3) := by decide +kernel
theorem dX5_frames_14 : decode cX5_frames 14 = .ok (.iload_n 2, 1) := by decide +kernel
theorem dX5_frames_15 : decode cX5_frames 15 = .ok (.ldc 64, 2) := by decide +kernel
theorem dX5_frames_17 : decode cX5_frames 17 = .ok (.if_icmp .le 5, 3) := by decide +kernel
theorem dX5_frames_20 : decode cX5_frames 20 = .ok (.iconst (-1), 1) := by decide +kernel
theorem dX5_frames_21 : decode cX5_frames 21 = .ok (.ireturn, 1) := by decide +kernel
theorem dX5_frames_22 : decode cX5_frames 22 = .ok (.aload_n 0, 1) := by decide +kernel
theorem dX5_frames_23 : decode cX5_frames 23 = .ok (.getfield 12, 3) := by decide +kernel
theorem dX5_frames_26 : decode cX5_frames 26 = .ok (.getfield 45, 3) := by decide +kernel
theorem dX5_frames_29 : decode cX5_frames 29 = .ok (.bipush 20, 2) := by decide +kernel
theorem dX5_frames_31 : decode cX5_frames 31 = .ok (.iadd, 1) := by decide +kernel
theorem dX5_frames_32 : decode cX5_frames 32 = .ok (.bipush 120, 2) := by decide +kernel
theorem dX5_frames_34 : decode cX5_frames 34 = .ok (.if_icmp .le 6, 3) := by decide +kernel
theorem dX5_frames_37 : decode cX5_frames 37 = .ok (.bipush (-3), 2) := by decide +kernel
theorem dX5_frames_39 : decode cX5_frames 39 = .ok (.ireturn, 1) := by decide +kernel
theorem dX5_frames_40 : decode cX5_frames 40 = .ok (.aload_n 0, 1) := by decide +kernel
theorem dX5_frames_41 : decode cX5_frames 41 = .ok (.getfield 19, 3) := by decide +kernel
theorem dX5_frames_44 : decode cX5_frames 44 = .ok (.aload_n 0, 1) := by decide +kernel
theorem dX5_frames_45 : decode cX5_frames 45 = .ok (.getfield 12, 3) := by decide +kernel
theorem dX5_frames_48 : decode cX5_frames 48 = .ok (.invokevirtual 49, 3) := by decide +kernel
theorem dX5_frames_51 : decode cX5_frames 51 = .ok (.iconst 0, 1) := by decide +kernel
theorem dX5_frames_52 : decode cX5_frames 52 = .ok (.istore_n 3, 1) := by decide +kernel
theorem dX5_frames_53 : decode cX5_frames 53 = .ok (.iload_n 3, 1) := by decide +kernel
theorem dX5_frames_54 : decode cX5_frames 54 = .ok (.bipush 19, 2) := by decide +kernel
theorem dX5_frames_56 : decode cX5_frames 56 = .ok (.if_icmp .ge 46, 3) := by decide +kernel
theorem dX5_frames_59 : decode cX5_frames 59 = .ok (.iload_n 2, 1) := by decide +kernel
theorem dX5_frames_60 : decode cX5_frames 60 = .ok (.iload_n 3, 1) := by decide +kernel
theorem dX5_frames_61 : decode cX5_frames 61 = .ok (.ishr, 1) := by decide +kernel
theorem dX5_frames_62 : decode cX5_frames 62 = .ok (.iconst 1, 1) := by decide +kernel
theorem dX5_frames_63 : decode cX5_frames 63 = .ok (.iand, 1) := by decide +kernel
theorem dX5_frames_64 : decode cX5_frames 64 = .ok (.iconst 1, 1) := by decide +kernel
theorem dX5_frames_65 : decode cX5_frames 65 = .ok (.if_icmp .ne 7, 3) := by decide +kernel
theorem dX5_frames_68 : decode cX5_frames 68 = .ok (.iconst 1, 1) := by decide +kernel
theorem dX5_frames_69 : decode cX5_frames 69 = .ok (.goto 4, 3) := by decide +kernel
theorem dX5_frames_72 : decode cX5_frames 72 = .ok (.iconst 0, 1) := by decide +kernel
theorem dX5_frames_73 : decode cX5_frames 73 = .ok (.istore 4, 2) := by decide +kernel
theorem dX5_frames_75 : decode cX5_frames 75 = .ok (.aload_n 0, 1) := by decide +kernel
theorem dX5_frames_76 : decode cX5_frames 76 = .ok (.getfield 12, 3) := by decide +kernel
theorem dX5_frames_79 : decode cX5_frames 79 = .ok (.iload 4, 2) := by decide +kernel
theorem dX5_frames_81 : decode cX5_frames 81 = .ok (.ifCond .eq 7, 3) := by decide +kernel
theorem dX5_frames_84 : decode cX5_frames 84 = .ok (.iconst 2, 1) := by decide +kernel
theorem dX5_frames_85 : decode cX5_frames 85 = .ok (.goto 8, 3) := by decide +kernel
theorem dX5_frames_88 : decode cX5_frames 88 = .ok (.iload_n 1, 1) := by decide +kernel
theorem dX5_frames_89 : decode cX5_frames 89 = .ok (.iload_n 3, 1) := by decide +kernel
theorem dX5_frames_90 : decode cX5_frames 90 = .ok (.ishr, 1) := by decide +kernel
theorem dX5_frames_91 : decode cX5_frames 91 = .ok (.iconst 1, 1) := by decide +kernel
theorem dX5_frames_92 : decode cX5_frames 92 = .ok (.iand, 1) := by decide +kernel
theorem dX5_frames_93 : decode cX5_frames 93 = .ok (.invokevirtual 57, 3) := by decide +kernel
theorem dX5_frames_96 : decode cX5_frames 96 = .ok (.iinc 3 1, 3) := by decide +kernel
theorem dX5_frames_99 : decode cX5_frames 99 = .ok (.goto (-46), 3) := by decide +kernel
theorem dX5_frames_102 : decode cX5_frames 102 = .ok (.aload_n 0, 1) := by decide +kernel
theorem dX5_frames_103 : decode cX5_frames 103 = .ok (.getfield 12, 3) := by decide +kernel
theorem dX5_frames_106 : decode cX5_frames 106 = .ok (.iconst 3, 1) := by decide +kernel
theorem dX5_frames_107 : decode cX5_frames 107 = .ok (.invokevirtual 57, 3) := by decide +kernel
theorem dX5_frames_110 : decode cX5_frames 110 = .ok (.aload_n 0, 1) := by decide +kernel
theorem dX5_frames_111 : decode cX5_frames 111 = .ok (.invokevirtual 61, 3) := by decide +kernel
theorem dX5_frames_114 : decode cX5_frames 114 = .ok (.aload_n 0, 1) := by decide +kernel
theorem dX5_frames_115 : decode cX5_frames 115 = .ok (.getfield 12, 3) := by decide +kernel
theorem dX5_frames_118 : decode cX5_frames 118 = .ok (.getfield 45, 3) := by decide +kernel
theorem dX5_frames_121 : decode cX5_frames 121 = .ok (.ireturn, 1) := by decide +kernel
theorem dX5_loses_0 : decode cX5_loses 0 = .ok (.iload_n 1, 1) := by decide +kernel
theorem dX5_loses_1 : decode cX5_loses 1 = .ok (.iconst 1, 1) := by decide +kernel
theorem dX5_loses_2 : decode cX5_loses 2 = .ok (.if_icmp .lt 14, 3) := by decide +kernel
theorem dX5_loses_5 : decode cX5_loses 5 = .ok (.iload_n 1, 1) := by decide +kernel
theorem dX5_loses_6 : decode cX5_loses 6 = .ok (.aload_n 0, 1) := by decide +kernel
theorem dX5_loses_7 : decode cX5_loses 7 = .ok (.getfield 12, 3) := by decide +kernel
theorem dX5_loses_10 : decode cX5_loses 10 = .ok (.getfield 45, 3) := by decide +kernel
theorem dX5_loses_13 : decode cX5_loses 13 = .ok (.if_icmp .le 5, 3) := by decide +kernel
theorem dX5_loses_16 : decode cX5_loses 16 = .ok (.iconst (-1), 1) := by decide +kernel
theorem dX5_loses_17 : decode cX5_loses 17 = .ok (.ireturn, 1) := by decide +kernel
theorem dX5_loses_18 : decode cX5_loses 18 = .ok (.aload_n 0, 1) := by decide +kernel
theorem dX5_loses_19 : decode cX5_loses 19 = .ok (.getfield 19, 3) := by decide +kernel
theorem dX5_loses_22 : decode cX5_loses 22 = .ok (.aload_n 0, 1) := by decide +kernel
theorem dX5_loses_23 : decode cX5_loses 23 = .ok (.getfield 12, 3) := by decide +kernel
theorem dX5_loses_26 : decode cX5_loses 26 = .ok (.invokevirtual 49, 3) := by decide +kernel
theorem dX5_loses_29 : decode cX5_loses 29 = .ok (.aload_n 0, 1) := by decide +kernel
theorem dX5_loses_30 : decode cX5_loses 30 = .ok (.getfield 12, 3) := by decide +kernel
theorem dX5_loses_33 : decode cX5_loses 33 = .ok (.iload_n 1, 1) := by decide +kernel
theorem dX5_loses_34 : decode cX5_loses 34 = .ok (.invokevirtual 65, 3) := by decide +kernel
theorem dX5_loses_37 : decode cX5_loses 37 = .ok (.aload_n 0, 1) := by decide +kernel
theorem dX5_loses_38 : decode cX5_loses 38 = .ok (.invokevirtual 61, 3) := by decide +kernel
theorem dX5_loses_41 : decode cX5_loses 41 = .ok (.aload_n 0, 1) := by decide +kernel
theorem dX5_loses_42 : decode cX5_loses 42 = .ok (.getfield 12, 3) := by decide +kernel
theorem dX5_loses_45 : decode cX5_loses 45 = .ok (.getfield 45, 3) := by decide +kernel
theorem dX5_loses_48 : decode cX5_loses 48 = .ok (.ireturn, 1) := by decide +kernel
theorem dX5_needs_0 : decode cX5_needs 0 = .ok (.iload_n 1, 1) := by decide +kernel
theorem dX5_needs_1 : decode cX5_needs 1 = .ok (.iconst 1, 1) := by decide +kernel
theorem dX5_needs_2 : decode cX5_needs 2 = .ok (.if_icmp .lt 9, 3) := by decide +kernel
theorem dX5_needs_5 : decode cX5_needs 5 = .ok (.iload_n 1, 1) := by decide +kernel
theorem dX5_needs_6 : decode cX5_needs 6 = .ok (.bipush 9, 2) := by decide +kernel
theorem dX5_needs_8 : decode cX5_needs 8 = .ok (.if_icmp .le 5, 3) := by decide +kernel
theorem dX5_needs_11 : decode cX5_needs 11 = .ok (.iconst (-1), 1) := by decide +kernel
theorem dX5_needs_12 : decode cX5_needs 12 = .ok (.ireturn, 1) := by decide +kernel
theorem dX5_needs_13 : decode cX5_needs 13 = .ok (.aload_n 0, 1) := by decide +kernel
theorem dX5_needs_14 : decode cX5_needs 14 = .ok (.getfield 19, 3) := by decide +kernel
theorem dX5_needs_17 : decode cX5_needs 17 = .ok (.aload_n 0, 1) := by decide +kernel
theorem dX5_needs_18 : decode cX5_needs 18 = .ok (.getfield 12, 3) := by decide +kernel
theorem dX5_needs_21 : decode cX5_needs 21 = .ok (.invokevirtual 49, 3) := by decide +kernel
theorem dX5_needs_24 : decode cX5_needs 24 = .ok (.aload_n 0, 1) := by decide +kernel
theorem dX5_needs_25 : decode cX5_needs 25 = .ok (.getfield 12, 3) := by decide +kernel
theorem dX5_needs_28 : decode cX5_needs 28 = .ok (.getfield 68, 3) := by decide +kernel
theorem dX5_needs_31 : decode cX5_needs 31 = .ok (.istore_n 2, 1) := by decide +kernel
theorem dX5_needs_32 : decode cX5_needs 32 = .ok (.aload_n 0, 1) := by decide +kernel
theorem dX5_needs_33 : decode cX5_needs 33 = .ok (.getfield 12, 3) := by decide +kernel
theorem dX5_needs_36 : decode cX5_needs 36 = .ok (.iload_n 1, 1) := by decide +kernel
theorem dX5_needs_37 : decode cX5_needs 37 = .ok (.putfield 68, 3) := by decide +kernel
theorem dX5_needs_40 : decode cX5_needs 40 = .ok (.iload_n 2, 1) := by decide +kernel
theorem dX5_needs_41 : decode cX5_needs 41 = .ok (.ireturn, 1) := by decide +kernel
theorem dX5_drifts_0 : decode cX5_drifts 0 = .ok (.iload_n 1, 1) := by decide +kernel
theorem dX5_drifts_1 : decode cX5_drifts 1 = .ok (.ifCond .lt 9, 3) := by decide +kernel
theorem dX5_drifts_4 : decode cX5_drifts 4 = .ok (.iload_n 1, 1) := by decide +kernel
theorem dX5_drifts_5 : decode cX5_drifts 5 = .ok (.bipush 50, 2) := by decide +kernel
theorem dX5_drifts_7 : decode cX5_drifts 7 = .ok (.if_icmp .le 5, 3) := by decide +kernel
theorem dX5_drifts_10 : decode cX5_drifts 10 = .ok (.iconst (-1), 1) := by decide +kernel
theorem dX5_drifts_11 : decode cX5_drifts 11 = .ok (.ireturn, 1) := by decide +kernel
theorem dX5_drifts_12 : decode cX5_drifts 12 = .ok (.aload_n 0, 1) := by decide +kernel
theorem dX5_drifts_13 : decode cX5_drifts 13 = .ok (.getfield 19, 3) := by decide +kernel
theorem dX5_drifts_16 : decode cX5_drifts 16 = .ok (.aload_n 0, 1) := by decide +kernel
theorem dX5_drifts_17 : decode cX5_drifts 17 = .ok (.getfield 12, 3) := by decide +kernel
theorem dX5_drifts_20 : decode cX5_drifts 20 = .ok (.invokevirtual 49, 3) := by decide +kernel
theorem dX5_drifts_23 : decode cX5_drifts 23 = .ok (.aload_n 0, 1) := by decide +kernel
theorem dX5_drifts_24 : decode cX5_drifts 24 = .ok (.getfield 12, 3) := by decide +kernel
theorem dX5_drifts_27 : decode cX5_drifts 27 = .ok (.getfield 71, 3) := by decide +kernel
theorem dX5_drifts_30 : decode cX5_drifts 30 = .ok (.istore_n 2, 1) := by decide +kernel
theorem dX5_drifts_31 : decode cX5_drifts 31 = .ok (.aload_n 0, 1) := by decide +kernel
theorem dX5_drifts_32 : decode cX5_drifts 32 = .ok (.getfield 12, 3) := by decide +kernel
theorem dX5_drifts_35 : decode cX5_drifts 35 = .ok (.iload_n 1, 1) := by decide +kernel
theorem dX5_drifts_36 : decode cX5_drifts 36 = .ok (.putfield 71, 3) := by decide +kernel
theorem dX5_drifts_39 : decode cX5_drifts 39 = .ok (.iload_n 2, 1) := by decide +kernel
theorem dX5_drifts_40 : decode cX5_drifts 40 = .ok (.ireturn, 1) := by decide +kernel
theorem dX5_sets_0 : decode cX5_sets 0 = .ok (.aload_n 0, 1) := by decide +kernel
theorem dX5_sets_1 : decode cX5_sets 1 = .ok (.invokevirtual 74, 3) := by decide +kernel
theorem dX5_sets_4 : decode cX5_sets 4 = .ok (.ifCond .ne 6, 3) := by decide +kernel
theorem dX5_sets_7 : decode cX5_sets 7 = .ok (.bipush (-2), 2) := by decide +kernel
theorem dX5_sets_9 : decode cX5_sets 9 = .ok (.ireturn, 1) := by decide +kernel
theorem dX5_sets_10 : decode cX5_sets 10 = .ok (.aload_n 0, 1) := by decide +kernel
theorem dX5_sets_11 : decode cX5_sets 11 = .ok (.getfield 19, 3) := by decide +kernel
theorem dX5_sets_14 : decode cX5_sets 14 = .ok (.aload_n 0, 1) := by decide +kernel
theorem dX5_sets_15 : decode cX5_sets 15 = .ok (.getfield 12, 3) := by decide +kernel
theorem dX5_sets_18 : decode cX5_sets 18 = .ok (.invokevirtual 49, 3) := by decide +kernel
theorem dX5_sets_21 : decode cX5_sets 21 = .ok (.aload_n 0, 1) := by decide +kernel
theorem dX5_sets_22 : decode cX5_sets 22 = .ok (.getfield 12, 3) := by decide +kernel
theorem dX5_sets_25 : decode cX5_sets 25 = .ok (.aload_n 0, 1) := by decide +kernel
theorem dX5_sets_26 : decode cX5_sets 26 = .ok (.invokevirtual 78, 3) := by decide +kernel
theorem dX5_sets_29 : decode cX5_sets 29 = .ok (.getfield 82, 3) := by decide +kernel
theorem dX5_sets_32 : decode cX5_sets 32 = .ok (.putfield 85, 3) := by decide +kernel
theorem dX5_sets_35 : decode cX5_sets 35 = .ok (.aload_n 0, 1) := by decide +kernel
theorem dX5_sets_36 : decode cX5_sets 36 = .ok (.getfield 12, 3) := by decide +kernel
theorem dX5_sets_39 : decode cX5_sets 39 = .ok (.iconst 0, 1) := by decide +kernel
theorem dX5_sets_40 : decode cX5_sets 40 = .ok (.putfield 88, 3) := by decide +kernel
theorem dX5_sets_43 : decode cX5_sets 43 = .ok (.aload_n 0, 1) := by decide +kernel
theorem dX5_sets_44 : decode cX5_sets 44 = .ok (.getfield 12, 3) := by decide +kernel
theorem dX5_sets_47 : decode cX5_sets 47 = .ok (.getfield 85, 3) := by decide +kernel
theorem dX5_sets_50 : decode cX5_sets 50 = .ok (.invokestatic 91, 3) := by decide +kernel
theorem dX5_sets_53 : decode cX5_sets 53 = .ok (.ireturn, 1) := by decide +kernel
theorem dX5_goes_0 : decode cX5_goes 0 = .ok (.iload_n 1, 1) := by decide +kernel
theorem dX5_goes_1 : decode cX5_goes 1 = .ok (.iconst 1, 1) := by decide +kernel
theorem dX5_goes_2 : decode cX5_goes 2 = .ok (.if_icmp .lt 10, 3) := by decide +kernel
theorem dX5_goes_5 : decode cX5_goes 5 = .ok (.iload_n 1, 1) := by decide +kernel
theorem dX5_goes_6 : decode cX5_goes 6 = .ok (.sipush 999, 3) := by decide +kernel
theorem dX5_goes_9 : decode cX5_goes 9 = .ok (.if_icmp .le 5, 3) := by decide +kernel
theorem dX5_goes_12 : decode cX5_goes 12 = .ok (.iconst (-1), 1) := by decide +kernel
theorem dX5_goes_13 : decode cX5_goes 13 = .ok (.ireturn, 1) := by decide +kernel
theorem dX5_goes_14 : decode cX5_goes 14 = .ok (.aload_n 0, 1) := by decide +kernel
theorem dX5_goes_15 : decode cX5_goes 15 = .ok (.getfield 12, 3) := by decide +kernel
theorem dX5_goes_18 : decode cX5_goes 18 = .ok (.getfield 85, 3) := by decide +kernel
theorem dX5_goes_21 : decode cX5_goes 21 = .ok (.iconst (-1), 1) := by decide +kernel
theorem dX5_goes_22 : decode cX5_goes 22 = .ok (.if_icmp .ne 6, 3) := by decide +kernel
theorem dX5_goes_25 : decode cX5_goes 25 = .ok (.bipush (-2), 2) := by decide +kernel
theorem dX5_goes_27 : decode cX5_goes 27 = .ok (.ireturn, 1) := by decide +kernel
theorem dX5_goes_28 : decode cX5_goes 28 = .ok (.aload_n 0, 1) := by decide +kernel
theorem dX5_goes_29 : decode cX5_goes 29 = .ok (.getfield 19, 3) := by decide +kernel
theorem dX5_goes_32 : decode cX5_goes 32 = .ok (.aload_n 0, 1) := by decide +kernel
theorem dX5_goes_33 : decode cX5_goes 33 = .ok (.getfield 12, 3) := by decide +kernel
theorem dX5_goes_36 : decode cX5_goes 36 = .ok (.invokevirtual 49, 3) := by decide +kernel
theorem dX5_goes_39 : decode cX5_goes 39 = .ok (.aload_n 0, 1) := by decide +kernel
theorem dX5_goes_40 : decode cX5_goes 40 = .ok (.getfield 12, 3) := by decide +kernel
theorem dX5_goes_43 : decode cX5_goes 43 = .ok (.aload_n 0, 1) := by decide +kernel
theorem dX5_goes_44 : decode cX5_goes 44 = .ok (.getfield 12, 3) := by decide +kernel
theorem dX5_goes_47 : decode cX5_goes 47 = .ok (.getfield 85, 3) := by decide +kernel
theorem dX5_goes_50 : decode cX5_goes 50 = .ok (.iload_n 1, 1) := by decide +kernel
theorem dX5_goes_51 : decode cX5_goes 51 = .ok (.invokestatic 96, 3) := by decide +kernel
theorem dX5_goes_54 : decode cX5_goes 54 = .ok (.putfield 85, 3) := by decide +kernel
theorem dX5_goes_57 : decode cX5_goes 57 = .ok (.aload_n 0, 1) := by decide +kernel
theorem dX5_goes_58 : decode cX5_goes 58 = .ok (.getfield 12, 3) := by decide +kernel
theorem dX5_goes_61 : decode cX5_goes 61 = .ok (.aload_n 0, 1) := by decide +kernel
theorem dX5_goes_62 : decode cX5_goes 62 = .ok (.getfield 12, 3) := by decide +kernel
theorem dX5_goes_65 : decode cX5_goes 65 = .ok (.getfield 88, 3) := by decide +kernel
theorem dX5_goes_68 : decode cX5_goes 68 = .ok (.iload_n 1, 1) := by decide +kernel
theorem dX5_goes_69 : decode cX5_goes 69 = .ok (.iadd, 1) := by decide +kernel
theorem dX5_goes_70 : decode cX5_goes 70 = .ok (.sipush 9999, 3) := by decide +kernel
theorem dX5_goes_73 : decode cX5_goes 73 = .ok (.invokestatic 100, 3) := by decide +kernel
theorem dX5_goes_76 : decode cX5_goes 76 = .ok (.putfield 88, 3) := by decide +kernel
theorem dX5_goes_79 : decode cX5_goes 79 = .ok (.aload_n 0, 1) := by decide +kernel
theorem dX5_goes_80 : decode cX5_goes 80 = .ok (.getfield 12, 3) := by decide +kernel
theorem dX5_goes_83 : decode cX5_goes 83 = .ok (.getfield 85, 3) := by decide +kernel
theorem dX5_goes_86 : decode cX5_goes 86 = .ok (.invokestatic 91, 3) := by decide +kernel
theorem dX5_goes_89 : decode cX5_goes 89 = .ok (.ireturn, 1) := by decide +kernel
theorem dX5_undo_0 : decode cX5_undo 0 = .ok (.aload_n 0, 1) := by decide +kernel
theorem dX5_undo_1 : decode cX5_undo 1 = .ok (.getfield 19, 3) := by decide +kernel
theorem dX5_undo_4 : decode cX5_undo 4 = .ok (.getfield 105, 3) := by decide +kernel
theorem dX5_undo_7 : decode cX5_undo 7 = .ok (.ifCond .ne 6, 3) := by decide +kernel
theorem dX5_undo_10 : decode cX5_undo 10 = .ok (.bipush (-2), 2) := by decide +kernel
theorem dX5_undo_12 : decode cX5_undo 12 = .ok (.ireturn, 1) := by decide +kernel
theorem dX5_undo_13 : decode cX5_undo 13 = .ok (.aload_n 0, 1) := by decide +kernel
theorem dX5_undo_14 : decode cX5_undo 14 = .ok (.getfield 19, 3) := by decide +kernel
theorem dX5_undo_17 : decode cX5_undo 17 = .ok (.aload_n 0, 1) := by decide +kernel
theorem dX5_undo_18 : decode cX5_undo 18 = .ok (.getfield 12, 3) := by decide +kernel
theorem dX5_undo_21 : decode cX5_undo 21 = .ok (.invokevirtual 106, 3) := by decide +kernel
theorem dX5_undo_24 : decode cX5_undo 24 = .ok (.aload_n 0, 1) := by decide +kernel
theorem dX5_undo_25 : decode cX5_undo 25 = .ok (.invokevirtual 61, 3) := by decide +kernel
theorem dX5_undo_28 : decode cX5_undo 28 = .ok (.aload_n 0, 1) := by decide +kernel
theorem dX5_undo_29 : decode cX5_undo 29 = .ok (.getfield 19, 3) := by decide +kernel
theorem dX5_undo_32 : decode cX5_undo 32 = .ok (.getfield 105, 3) := by decide +kernel
theorem dX5_undo_35 : decode cX5_undo 35 = .ok (.ireturn, 1) := by decide +kernel
theorem dX5_symbol_0 : decode cX5_symbol 0 = .ok (.iload_n 1, 1) := by decide +kernel
theorem dX5_symbol_1 : decode cX5_symbol 1 = .ok (.ifCond .lt 14, 3) := by decide +kernel
theorem dX5_symbol_4 : decode cX5_symbol 4 = .ok (.iload_n 1, 1) := by decide +kernel
theorem dX5_symbol_5 : decode cX5_symbol 5 = .ok (.aload_n 0, 1) := by decide +kernel
theorem dX5_symbol_6 : decode cX5_symbol 6 = .ok (.getfield 12, 3) := by decide +kernel
theorem dX5_symbol_9 : decode cX5_symbol 9 = .ok (.getfield 45, 3) := by decide +kernel
theorem dX5_symbol_12 : decode cX5_symbol 12 = .ok (.if_icmp .lt 7, 3) := by decide +kernel
theorem dX5_symbol_15 : decode cX5_symbol 15 = .ok (.iconst (-1), 1) := by decide +kernel
theorem dX5_symbol_16 : decode cX5_symbol 16 = .ok (.goto 12, 3) := by decide +kernel
theorem dX5_symbol_19 : decode cX5_symbol 19 = .ok (.aload_n 0, 1) := by decide +kernel
theorem dX5_symbol_20 : decode cX5_symbol 20 = .ok (.getfield 12, 3) := by decide +kernel
theorem dX5_symbol_23 : decode cX5_symbol 23 = .ok (.getfield 109, 3) := by decide +kernel
theorem dX5_symbol_26 : decode cX5_symbol 26 = .ok (.iload_n 1, 1) := by decide +kernel
theorem dX5_symbol_27 : decode cX5_symbol 27 = .ok (.baload, 1) := by decide +kernel
theorem dX5_symbol_28 : decode cX5_symbol 28 = .ok (.ireturn, 1) := by decide +kernel
theorem dX5_read_0 : decode cX5_read 0 = .ok (.aload_n 0, 1) := by decide +kernel
theorem dX5_read_1 : decode cX5_read 1 = .ok (.invokevirtual 113, 3) := by decide +kernel
theorem dX5_read_4 : decode cX5_read 4 = .ok (.astore_n 3, 1) := by decide +kernel
theorem dX5_read_5 : decode cX5_read 5 = .ok (.iload_n 1, 1) := by decide +kernel
theorem dX5_read_6 : decode cX5_read 6 = .ok (.ifCond .lt 21, 3) := by decide +kernel
theorem dX5_read_9 : decode cX5_read 9 = .ok (.iload_n 1, 1) := by decide +kernel
theorem dX5_read_10 : decode cX5_read 10 = .ok (.aload_n 3, 1) := by decide +kernel
theorem dX5_read_11 : decode cX5_read 11 = .ok (.getfield 117, 3) := by decide +kernel
theorem dX5_read_14 : decode cX5_read 14 = .ok (.if_icmp .ge 13, 3) := by decide +kernel
theorem dX5_read_17 : decode cX5_read 17 = .ok (.iload_n 2, 1) := by decide +kernel
theorem dX5_read_18 : decode cX5_read 18 = .ok (.ifCond .lt 9, 3) := by decide +kernel
theorem dX5_read_21 : decode cX5_read 21 = .ok (.iload_n 2, 1) := by decide +kernel
theorem dX5_read_22 : decode cX5_read 22 = .ok (.bipush 8, 2) := by decide +kernel
theorem dX5_read_24 : decode cX5_read 24 = .ok (.if_icmp .le 5, 3) := by decide +kernel
theorem dX5_read_27 : decode cX5_read 27 = .ok (.iconst (-1), 1) := by decide +kernel
theorem dX5_read_28 : decode cX5_read 28 = .ok (.ireturn, 1) := by decide +kernel
theorem dX5_read_29 : decode cX5_read 29 = .ok (.iload_n 2, 1) := by decide +kernel
theorem dX5_read_30 : decode cX5_read 30 = .ok (.tableswitch 102 0 8 #[50, 56, 65, 73, 79, 102, 102, 102, 85], 50) := by decide +kernel
theorem dX5_read_80 : decode cX5_read 80 = .ok (.aload_n 3, 1) := by decide +kernel
theorem dX5_read_81 : decode cX5_read 81 = .ok (.iload_n 1, 1) := by decide +kernel
theorem dX5_read_82 : decode cX5_read 82 = .ok (.invokevirtual 120, 3) := by decide +kernel
theorem dX5_read_85 : decode cX5_read 85 = .ok (.ireturn, 1) := by decide +kernel
theorem dX5_read_86 : decode cX5_read 86 = .ok (.aload_n 3, 1) := by decide +kernel
theorem dX5_read_87 : decode cX5_read 87 = .ok (.iload_n 1, 1) := by decide +kernel
theorem dX5_read_88 : decode cX5_read 88 = .ok (.sipush 4080, 3) := by decide +kernel
theorem dX5_read_91 : decode cX5_read 91 = .ok (.invokevirtual 123, 3) := by decide +kernel
theorem dX5_read_94 : decode cX5_read 94 = .ok (.ireturn, 1) := by decide +kernel
theorem dX5_read_95 : decode cX5_read 95 = .ok (.aload_n 3, 1) := by decide +kernel
theorem dX5_read_96 : decode cX5_read 96 = .ok (.iload_n 1, 1) := by decide +kernel
theorem dX5_read_97 : decode cX5_read 97 = .ok (.ldc 126, 2) := by decide +kernel
theorem dX5_read_99 : decode cX5_read 99 = .ok (.invokevirtual 123, 3) := by decide +kernel
theorem dX5_read_102 : decode cX5_read 102 = .ok (.ireturn, 1) := by decide +kernel
theorem dX5_read_103 : decode cX5_read 103 = .ok (.aload_n 3, 1) := by decide +kernel
theorem dX5_read_104 : decode cX5_read 104 = .ok (.iload_n 1, 1) := by decide +kernel
theorem dX5_read_105 : decode cX5_read 105 = .ok (.invokevirtual 127, 3) := by decide +kernel
theorem dX5_read_108 : decode cX5_read 108 = .ok (.ireturn, 1) := by decide +kernel
theorem dX5_read_109 : decode cX5_read 109 = .ok (.aload_n 3, 1) := by decide +kernel
theorem dX5_read_110 : decode cX5_read 110 = .ok (.iload_n 1, 1) := by decide +kernel
theorem dX5_read_111 : decode cX5_read 111 = .ok (.invokevirtual 130, 3) := by decide +kernel
theorem dX5_read_114 : decode cX5_read 114 = .ok (.ireturn, 1) := by decide +kernel
theorem dX5_read_115 : decode cX5_read 115 = .ok (.aload_n 3, 1) := by decide +kernel
theorem dX5_read_116 : decode cX5_read 116 = .ok (.iload_n 1, 1) := by decide +kernel
theorem dX5_read_117 : decode cX5_read 117 = .ok (.aload_n 0, 1) := by decide +kernel
theorem dX5_read_118 : decode cX5_read 118 = .ok (.invokevirtual 78, 3) := by decide +kernel
theorem dX5_read_121 : decode cX5_read 121 = .ok (.getfield 133, 3) := by decide +kernel
theorem dX5_read_124 : decode cX5_read 124 = .ok (.iload_n 1, 1) := by decide +kernel
theorem dX5_read_125 : decode cX5_read 125 = .ok (.invokestatic 96, 3) := by decide +kernel
theorem dX5_read_128 : decode cX5_read 128 = .ok (.invokevirtual 136, 3) := by decide +kernel
theorem dX5_read_131 : decode cX5_read 131 = .ok (.ireturn, 1) := by decide +kernel
theorem dX5_read_132 : decode cX5_read 132 = .ok (.aload_n 0, 1) := by decide +kernel
theorem dX5_read_133 : decode cX5_read 133 = .ok (.aload_n 3, 1) := by decide +kernel
theorem dX5_read_134 : decode cX5_read 134 = .ok (.iload_n 1, 1) := by decide +kernel
theorem dX5_read_135 : decode cX5_read 135 = .ok (.invokevirtual 120, 3) := by decide +kernel
theorem dX5_read_138 : decode cX5_read 138 = .ok (.iload_n 2, 1) := by decide +kernel
theorem dX5_read_139 : decode cX5_read 139 = .ok (.iadd, 1) := by decide +kernel
theorem dX5_read_140 : decode cX5_read 140 = .ok (.iconst 4, 1) := by decide +kernel
theorem dX5_read_141 : decode cX5_read 141 = .ok (.isub, 1) := by decide +kernel
theorem dX5_read_142 : decode cX5_read 142 = .ok (.invokevirtual 139, 3) := by decide +kernel
theorem dX5_read_145 : decode cX5_read 145 = .ok (.ireturn, 1) := by decide +kernel
theorem dX5_vote_0 : decode cX5_vote 0 = .ok (.iload_n 1, 1) := by decide +kernel
theorem dX5_vote_1 : decode cX5_vote 1 = .ok (.ifCond .lt 9, 3) := by decide +kernel
theorem dX5_vote_4 : decode cX5_vote 4 = .ok (.iload_n 1, 1) := by decide +kernel
theorem dX5_vote_5 : decode cX5_vote 5 = .ok (.bipush 10, 2) := by decide +kernel
theorem dX5_vote_7 : decode cX5_vote 7 = .ok (.if_icmp .le 5, 3) := by decide +kernel
theorem dX5_vote_10 : decode cX5_vote 10 = .ok (.iconst (-1), 1) := by decide +kernel
theorem dX5_vote_11 : decode cX5_vote 11 = .ok (.ireturn, 1) := by decide +kernel
theorem dX5_vote_12 : decode cX5_vote 12 = .ok (.aload_n 0, 1) := by decide +kernel
theorem dX5_vote_13 : decode cX5_vote 13 = .ok (.invokevirtual 113, 3) := by decide +kernel
theorem dX5_vote_16 : decode cX5_vote 16 = .ok (.getfield 117, 3) := by decide +kernel
theorem dX5_vote_19 : decode cX5_vote 19 = .ok (.ifCond .ne 6, 3) := by decide +kernel
theorem dX5_vote_22 : decode cX5_vote 22 = .ok (.bipush (-9), 2) := by decide +kernel
theorem dX5_vote_24 : decode cX5_vote 24 = .ok (.ireturn, 1) := by decide +kernel
theorem dX5_vote_25 : decode cX5_vote 25 = .ok (.aload_n 0, 1) := by decide +kernel
theorem dX5_vote_26 : decode cX5_vote 26 = .ok (.invokevirtual 78, 3) := by decide +kernel
theorem dX5_vote_29 : decode cX5_vote 29 = .ok (.astore_n 2, 1) := by decide +kernel
theorem dX5_vote_30 : decode cX5_vote 30 = .ok (.iload_n 1, 1) := by decide +kernel
theorem dX5_vote_31 : decode cX5_vote 31 = .ok (.tableswitch 48 4 6 #[25, 30, 35], 25) := by decide +kernel
theorem dX5_vote_56 : decode cX5_vote 56 = .ok (.aload_n 2, 1) := by decide +kernel
theorem dX5_vote_57 : decode cX5_vote 57 = .ok (.getfield 142, 3) := by decide +kernel
theorem dX5_vote_60 : decode cX5_vote 60 = .ok (.ireturn, 1) := by decide +kernel
theorem dX5_vote_61 : decode cX5_vote 61 = .ok (.aload_n 2, 1) := by decide +kernel
theorem dX5_vote_62 : decode cX5_vote 62 = .ok (.getfield 145, 3) := by decide +kernel
theorem dX5_vote_65 : decode cX5_vote 65 = .ok (.ireturn, 1) := by decide +kernel
theorem dX5_vote_66 : decode cX5_vote 66 = .ok (.aload_n 0, 1) := by decide +kernel
theorem dX5_vote_67 : decode cX5_vote 67 = .ok (.invokevirtual 74, 3) := by decide +kernel
theorem dX5_vote_70 : decode cX5_vote 70 = .ok (.ifCond .eq 7, 3) := by decide +kernel
theorem dX5_vote_73 : decode cX5_vote 73 = .ok (.iconst 1, 1) := by decide +kernel
theorem dX5_vote_74 : decode cX5_vote 74 = .ok (.goto 4, 3) := by decide +kernel
theorem dX5_vote_77 : decode cX5_vote 77 = .ok (.iconst 0, 1) := by decide +kernel
theorem dX5_vote_78 : decode cX5_vote 78 = .ok (.ireturn, 1) := by decide +kernel
theorem dX5_vote_79 : decode cX5_vote 79 = .ok (.iload_n 1, 1) := by decide +kernel
theorem dX5_vote_80 : decode cX5_vote 80 = .ok (.iconst 4, 1) := by decide +kernel
theorem dX5_vote_81 : decode cX5_vote 81 = .ok (.if_icmp .ge 14, 3) := by decide +kernel
theorem dX5_vote_84 : decode cX5_vote 84 = .ok (.aload_n 2, 1) := by decide +kernel
theorem dX5_vote_85 : decode cX5_vote 85 = .ok (.getfield 133, 3) := by decide +kernel
theorem dX5_vote_88 : decode cX5_vote 88 = .ok (.iload_n 1, 1) := by decide +kernel
theorem dX5_vote_89 : decode cX5_vote 89 = .ok (.invokestatic 148, 3) := by decide +kernel
theorem dX5_vote_92 : decode cX5_vote 92 = .ok (.goto 14, 3) := by decide +kernel
theorem dX5_vote_95 : decode cX5_vote 95 = .ok (.aload_n 2, 1) := by decide +kernel
theorem dX5_vote_96 : decode cX5_vote 96 = .ok (.getfield 82, 3) := by decide +kernel
theorem dX5_vote_99 : decode cX5_vote 99 = .ok (.iload_n 1, 1) := by decide +kernel
theorem dX5_vote_100 : decode cX5_vote 100 = .ok (.bipush 7, 2) := by decide +kernel
theorem dX5_vote_102 : decode cX5_vote 102 = .ok (.isub, 1) := by decide +kernel
theorem dX5_vote_103 : decode cX5_vote 103 = .ok (.invokestatic 148, 3) := by decide +kernel
theorem dX5_vote_106 : decode cX5_vote 106 = .ok (.ireturn, 1) := by decide +kernel
theorem dX5_misses_0 : decode cX5_misses 0 = .ok (.iload_n 1, 1) := by decide +kernel
theorem dX5_misses_1 : decode cX5_misses 1 = .ok (.iload_n 2, 1) := by decide +kernel
theorem dX5_misses_2 : decode cX5_misses 2 = .ok (.iload_n 3, 1) := by decide +kernel
theorem dX5_misses_3 : decode cX5_misses 3 = .ok (.iload 4, 2) := by decide +kernel
theorem dX5_misses_5 : decode cX5_misses 5 = .ok (.invokestatic 151, 3) := by decide +kernel
theorem dX5_misses_8 : decode cX5_misses 8 = .ok (.ifCond .ne 5, 3) := by decide +kernel
theorem dX5_misses_11 : decode cX5_misses 11 = .ok (.iconst (-1), 1) := by decide +kernel
theorem dX5_misses_12 : decode cX5_misses 12 = .ok (.ireturn, 1) := by decide +kernel
theorem dX5_misses_13 : decode cX5_misses 13 = .ok (.aload_n 0, 1) := by decide +kernel
theorem dX5_misses_14 : decode cX5_misses 14 = .ok (.invokevirtual 113, 3) := by decide +kernel
theorem dX5_misses_17 : decode cX5_misses 17 = .ok (.iload_n 1, 1) := by decide +kernel
theorem dX5_misses_18 : decode cX5_misses 18 = .ok (.iload_n 2, 1) := by decide +kernel
theorem dX5_misses_19 : decode cX5_misses 19 = .ok (.iload_n 3, 1) := by decide +kernel
theorem dX5_misses_20 : decode cX5_misses 20 = .ok (.iload 4, 2) := by decide +kernel
theorem dX5_misses_22 : decode cX5_misses 22 = .ok (.invokestatic 155, 3) := by decide +kernel
theorem dX5_misses_25 : decode cX5_misses 25 = .ok (.invokevirtual 159, 3) := by decide +kernel
theorem dX5_misses_28 : decode cX5_misses 28 = .ok (.ireturn, 1) := by decide +kernel
theorem dX5_close_0 : decode cX5_close 0 = .ok (.iload_n 1, 1) := by decide +kernel
theorem dX5_close_1 : decode cX5_close 1 = .ok (.ifCond .lt 14, 3) := by decide +kernel
theorem dX5_close_4 : decode cX5_close 4 = .ok (.iload_n 1, 1) := by decide +kernel
theorem dX5_close_5 : decode cX5_close 5 = .ok (.bipush 120, 2) := by decide +kernel
theorem dX5_close_7 : decode cX5_close 7 = .ok (.if_icmp .gt 8, 3) := by decide +kernel
theorem dX5_close_10 : decode cX5_close 10 = .ok (.iload_n 2, 1) := by decide +kernel
theorem dX5_close_11 : decode cX5_close 11 = .ok (.iconst (-1), 1) := by decide +kernel
theorem dX5_close_12 : decode cX5_close 12 = .ok (.if_icmp .ge 5, 3) := by decide +kernel
theorem dX5_close_15 : decode cX5_close 15 = .ok (.iconst (-1), 1) := by decide +kernel
theorem dX5_close_16 : decode cX5_close 16 = .ok (.ireturn, 1) := by decide +kernel
theorem dX5_close_17 : decode cX5_close 17 = .ok (.aload_n 0, 1) := by decide +kernel
theorem dX5_close_18 : decode cX5_close 18 = .ok (.invokevirtual 78, 3) := by decide +kernel
theorem dX5_close_21 : decode cX5_close 21 = .ok (.astore_n 3, 1) := by decide +kernel
theorem dX5_close_22 : decode cX5_close 22 = .ok (.iload_n 2, 1) := by decide +kernel
theorem dX5_close_23 : decode cX5_close 23 = .ok (.iconst (-1), 1) := by decide +kernel
theorem dX5_close_24 : decode cX5_close 24 = .ok (.if_icmp .ne 11, 3) := by decide +kernel
theorem dX5_close_27 : decode cX5_close 27 = .ok (.aload_n 3, 1) := by decide +kernel
theorem dX5_close_28 : decode cX5_close 28 = .ok (.iload_n 1, 1) := by decide +kernel
theorem dX5_close_29 : decode cX5_close 29 = .ok (.invokevirtual 162, 3) := by decide +kernel
theorem dX5_close_32 : decode cX5_close 32 = .ok (.goto 9, 3) := by decide +kernel
theorem dX5_close_35 : decode cX5_close 35 = .ok (.aload_n 3, 1) := by decide +kernel
theorem dX5_close_36 : decode cX5_close 36 = .ok (.iload_n 1, 1) := by decide +kernel
theorem dX5_close_37 : decode cX5_close 37 = .ok (.iload_n 2, 1) := by decide +kernel
theorem dX5_close_38 : decode cX5_close 38 = .ok (.invokevirtual 165, 3) := by decide +kernel
theorem dX5_close_41 : decode cX5_close 41 = .ok (.ireturn, 1) := by decide +kernel
theorem dX5_bits_0 : decode cX5_bits 0 = .ok (.iload_n 1, 1) := by decide +kernel
theorem dX5_bits_1 : decode cX5_bits 1 = .ok (.iload_n 2, 1) := by decide +kernel
theorem dX5_bits_2 : decode cX5_bits 2 = .ok (.iload_n 3, 1) := by decide +kernel
theorem dX5_bits_3 : decode cX5_bits 3 = .ok (.iload 4, 2) := by decide +kernel
theorem dX5_bits_5 : decode cX5_bits 5 = .ok (.invokestatic 151, 3) := by decide +kernel
theorem dX5_bits_8 : decode cX5_bits 8 = .ok (.ifCond .ne 5, 3) := by decide +kernel
theorem dX5_bits_11 : decode cX5_bits 11 = .ok (.iconst (-1), 1) := by decide +kernel
theorem dX5_bits_12 : decode cX5_bits 12 = .ok (.ireturn, 1) := by decide +kernel
theorem dX5_bits_13 : decode cX5_bits 13 = .ok (.iload_n 1, 1) := by decide +kernel
theorem dX5_bits_14 : decode cX5_bits 14 = .ok (.iload_n 2, 1) := by decide +kernel
theorem dX5_bits_15 : decode cX5_bits 15 = .ok (.iload_n 3, 1) := by decide +kernel
theorem dX5_bits_16 : decode cX5_bits 16 = .ok (.iload 4, 2) := by decide +kernel
theorem dX5_bits_18 : decode cX5_bits 18 = .ok (.invokestatic 155, 3) := by decide +kernel
theorem dX5_bits_21 : decode cX5_bits 21 = .ok (.invokestatic 168, 3) := by decide +kernel
theorem dX5_bits_24 : decode cX5_bits 24 = .ok (.ireturn, 1) := by decide +kernel
theorem dX5_clock_0 : decode cX5_clock 0 = .ok (.iload_n 1, 1) := by decide +kernel
theorem dX5_clock_1 : decode cX5_clock 1 = .ok (.ifCond .lt 20, 3) := by decide +kernel
theorem dX5_clock_4 : decode cX5_clock 4 = .ok (.iload_n 1, 1) := by decide +kernel
theorem dX5_clock_5 : decode cX5_clock 5 = .ok (.bipush 7, 2) := by decide +kernel
theorem dX5_clock_7 : decode cX5_clock 7 = .ok (.if_icmp .gt 14, 3) := by decide +kernel
theorem dX5_clock_10 : decode cX5_clock 10 = .ok (.aload_n 0, 1) := by decide +kernel
theorem dX5_clock_11 : decode cX5_clock 11 = .ok (.getfield 12, 3) := by decide +kernel
theorem dX5_clock_14 : decode cX5_clock 14 = .ok (.getfield 85, 3) := by decide +kernel
theorem dX5_clock_17 : decode cX5_clock 17 = .ok (.iconst (-1), 1) := by decide +kernel
theorem dX5_clock_18 : decode cX5_clock 18 = .ok (.if_icmp .ne 6, 3) := by decide +kernel
theorem dX5_clock_21 : decode cX5_clock 21 = .ok (.ldc 171, 2) := by decide +kernel
theorem dX5_clock_23 : decode cX5_clock 23 = .ok (.ireturn, 1) := by decide +kernel
theorem dX5_clock_24 : decode cX5_clock 24 = .ok (.iload_n 1, 1) := by decide +kernel
theorem dX5_clock_25 : decode cX5_clock 25 = .ok (.tableswitch 65 4 7 #[31, 39, 44, 60], 31) := by decide +kernel
theorem dX5_clock_56 : decode cX5_clock 56 = .ok (.aload_n 0, 1) := by decide +kernel
theorem dX5_clock_57 : decode cX5_clock 57 = .ok (.getfield 12, 3) := by decide +kernel
theorem dX5_clock_60 : decode cX5_clock 60 = .ok (.getfield 88, 3) := by decide +kernel
theorem dX5_clock_63 : decode cX5_clock 63 = .ok (.ireturn, 1) := by decide +kernel
theorem dX5_clock_64 : decode cX5_clock 64 = .ok (.aload_n 0, 1) := by decide +kernel
theorem dX5_clock_65 : decode cX5_clock 65 = .ok (.invokevirtual 172, 3) := by decide +kernel
theorem dX5_clock_68 : decode cX5_clock 68 = .ok (.ireturn, 1) := by decide +kernel
theorem dX5_clock_69 : decode cX5_clock 69 = .ok (.aload_n 0, 1) := by decide +kernel
theorem dX5_clock_70 : decode cX5_clock 70 = .ok (.invokevirtual 172, 3) := by decide +kernel
theorem dX5_clock_73 : decode cX5_clock 73 = .ok (.sipush 500, 3) := by decide +kernel
theorem dX5_clock_76 : decode cX5_clock 76 = .ok (.if_icmp .le 7, 3) := by decide +kernel
theorem dX5_clock_79 : decode cX5_clock 79 = .ok (.iconst 1, 1) := by decide +kernel
theorem dX5_clock_80 : decode cX5_clock 80 = .ok (.goto 4, 3) := by decide +kernel
theorem dX5_clock_83 : decode cX5_clock 83 = .ok (.iconst 0, 1) := by decide +kernel
theorem dX5_clock_84 : decode cX5_clock 84 = .ok (.ireturn, 1) := by decide +kernel
theorem dX5_clock_85 : decode cX5_clock 85 = .ok (.aload_n 0, 1) := by decide +kernel
theorem dX5_clock_86 : decode cX5_clock 86 = .ok (.invokevirtual 176, 3) := by decide +kernel
theorem dX5_clock_89 : decode cX5_clock 89 = .ok (.ireturn, 1) := by decide +kernel
theorem dX5_clock_90 : decode cX5_clock 90 = .ok (.aload_n 0, 1) := by decide +kernel
theorem dX5_clock_91 : decode cX5_clock 91 = .ok (.getfield 12, 3) := by decide +kernel
theorem dX5_clock_94 : decode cX5_clock 94 = .ok (.getfield 85, 3) := by decide +kernel
theorem dX5_clock_97 : decode cX5_clock 97 = .ok (.iload_n 1, 1) := by decide +kernel
theorem dX5_clock_98 : decode cX5_clock 98 = .ok (.invokestatic 148, 3) := by decide +kernel
theorem dX5_clock_101 : decode cX5_clock 101 = .ok (.ireturn, 1) := by decide +kernel
theorem dX5_keep_0 : decode cX5_keep 0 = .ok (.iload_n 1, 1) := by decide +kernel
theorem dX5_keep_1 : decode cX5_keep 1 = .ok (.ifCond .lt 8, 3) := by decide +kernel
theorem dX5_keep_4 : decode cX5_keep 4 = .ok (.iload_n 1, 1) := by decide +kernel
theorem dX5_keep_5 : decode cX5_keep 5 = .ok (.iconst 2, 1) := by decide +kernel
theorem dX5_keep_6 : decode cX5_keep 6 = .ok (.if_icmp .lt 5, 3) := by decide +kernel
theorem dX5_keep_9 : decode cX5_keep 9 = .ok (.iconst (-1), 1) := by decide +kernel
theorem dX5_keep_10 : decode cX5_keep 10 = .ok (.ireturn, 1) := by decide +kernel
theorem dX5_keep_11 : decode cX5_keep 11 = .ok (.aload_n 0, 1) := by decide +kernel
theorem dX5_keep_12 : decode cX5_keep 12 = .ok (.getfield 23, 3) := by decide +kernel
theorem dX5_keep_15 : decode cX5_keep 15 = .ok (.iload_n 1, 1) := by decide +kernel
theorem dX5_keep_16 : decode cX5_keep 16 = .ok (.aaload, 1) := by decide +kernel
theorem dX5_keep_17 : decode cX5_keep 17 = .ok (.aload_n 0, 1) := by decide +kernel
theorem dX5_keep_18 : decode cX5_keep 18 = .ok (.getfield 12, 3) := by decide +kernel
theorem dX5_keep_21 : decode cX5_keep 21 = .ok (.invokevirtual 179, 3) := by decide +kernel
theorem dX5_keep_24 : decode cX5_keep 24 = .ok (.aload_n 0, 1) := by decide +kernel
theorem dX5_keep_25 : decode cX5_keep 25 = .ok (.getfield 27, 3) := by decide +kernel
theorem dX5_keep_28 : decode cX5_keep 28 = .ok (.iload_n 1, 1) := by decide +kernel
theorem dX5_keep_29 : decode cX5_keep 29 = .ok (.iconst 1, 1) := by decide +kernel
theorem dX5_keep_30 : decode cX5_keep 30 = .ok (.bastore, 1) := by decide +kernel
theorem dX5_keep_31 : decode cX5_keep 31 = .ok (.aload_n 0, 1) := by decide +kernel
theorem dX5_keep_32 : decode cX5_keep 32 = .ok (.getfield 12, 3) := by decide +kernel
theorem dX5_keep_35 : decode cX5_keep 35 = .ok (.getfield 45, 3) := by decide +kernel
theorem dX5_keep_38 : decode cX5_keep 38 = .ok (.ireturn, 1) := by decide +kernel
theorem dX5_back_0 : decode cX5_back 0 = .ok (.iload_n 1, 1) := by decide +kernel
theorem dX5_back_1 : decode cX5_back 1 = .ok (.ifCond .lt 8, 3) := by decide +kernel
theorem dX5_back_4 : decode cX5_back 4 = .ok (.iload_n 1, 1) := by decide +kernel
theorem dX5_back_5 : decode cX5_back 5 = .ok (.iconst 2, 1) := by decide +kernel
theorem dX5_back_6 : decode cX5_back 6 = .ok (.if_icmp .lt 5, 3) := by decide +kernel
theorem dX5_back_9 : decode cX5_back 9 = .ok (.iconst (-1), 1) := by decide +kernel
theorem dX5_back_10 : decode cX5_back 10 = .ok (.ireturn, 1) := by decide +kernel
theorem dX5_back_11 : decode cX5_back 11 = .ok (.aload_n 0, 1) := by decide +kernel
theorem dX5_back_12 : decode cX5_back 12 = .ok (.getfield 27, 3) := by decide +kernel
theorem dX5_back_15 : decode cX5_back 15 = .ok (.iload_n 1, 1) := by decide +kernel
theorem dX5_back_16 : decode cX5_back 16 = .ok (.baload, 1) := by decide +kernel
theorem dX5_back_17 : decode cX5_back 17 = .ok (.ifCond .ne 6, 3) := by decide +kernel
theorem dX5_back_20 : decode cX5_back 20 = .ok (.bipush (-2), 2) := by decide +kernel
theorem dX5_back_22 : decode cX5_back 22 = .ok (.ireturn, 1) := by decide +kernel
theorem dX5_back_23 : decode cX5_back 23 = .ok (.aload_n 0, 1) := by decide +kernel
theorem dX5_back_24 : decode cX5_back 24 = .ok (.getfield 12, 3) := by decide +kernel
theorem dX5_back_27 : decode cX5_back 27 = .ok (.aload_n 0, 1) := by decide +kernel
theorem dX5_back_28 : decode cX5_back 28 = .ok (.getfield 23, 3) := by decide +kernel
theorem dX5_back_31 : decode cX5_back 31 = .ok (.iload_n 1, 1) := by decide +kernel
theorem dX5_back_32 : decode cX5_back 32 = .ok (.aaload, 1) := by decide +kernel
theorem dX5_back_33 : decode cX5_back 33 = .ok (.invokevirtual 179, 3) := by decide +kernel
theorem dX5_back_36 : decode cX5_back 36 = .ok (.aload_n 0, 1) := by decide +kernel
theorem dX5_back_37 : decode cX5_back 37 = .ok (.getfield 19, 3) := by decide +kernel
theorem dX5_back_40 : decode cX5_back 40 = .ok (.invokevirtual 182, 3) := by decide +kernel
theorem dX5_back_43 : decode cX5_back 43 = .ok (.aload_n 0, 1) := by decide +kernel
theorem dX5_back_44 : decode cX5_back 44 = .ok (.invokevirtual 61, 3) := by decide +kernel
theorem dX5_back_47 : decode cX5_back 47 = .ok (.aload_n 0, 1) := by decide +kernel
theorem dX5_back_48 : decode cX5_back 48 = .ok (.getfield 12, 3) := by decide +kernel
theorem dX5_back_51 : decode cX5_back 51 = .ok (.getfield 45, 3) := by decide +kernel
theorem dX5_back_54 : decode cX5_back 54 = .ok (.ireturn, 1) := by decide +kernel
theorem dX5_count_0 : decode cX5_count 0 = .ok (.iload_n 1, 1) := by decide +kernel
theorem dX5_count_1 : decode cX5_count 1 = .ok (.tableswitch 108 0 6 #[43, 51, 59, 67, 75, 83, 100], 43) := by decide +kernel
theorem dX5_count_44 : decode cX5_count 44 = .ok (.aload_n 0, 1) := by decide +kernel
theorem dX5_count_45 : decode cX5_count 45 = .ok (.getfield 12, 3) := by decide +kernel
theorem dX5_count_48 : decode cX5_count 48 = .ok (.getfield 45, 3) := by decide +kernel
theorem dX5_count_51 : decode cX5_count 51 = .ok (.ireturn, 1) := by decide +kernel
theorem dX5_count_52 : decode cX5_count 52 = .ok (.aload_n 0, 1) := by decide +kernel
theorem dX5_count_53 : decode cX5_count 53 = .ok (.invokevirtual 113, 3) := by decide +kernel
theorem dX5_count_56 : decode cX5_count 56 = .ok (.getfield 185, 3) := by decide +kernel
theorem dX5_count_59 : decode cX5_count 59 = .ok (.ireturn, 1) := by decide +kernel
theorem dX5_count_60 : decode cX5_count 60 = .ok (.aload_n 0, 1) := by decide +kernel
theorem dX5_count_61 : decode cX5_count 61 = .ok (.invokevirtual 113, 3) := by decide +kernel
theorem dX5_count_64 : decode cX5_count 64 = .ok (.getfield 117, 3) := by decide +kernel
theorem dX5_count_67 : decode cX5_count 67 = .ok (.ireturn, 1) := by decide +kernel
theorem dX5_count_68 : decode cX5_count 68 = .ok (.aload_n 0, 1) := by decide +kernel
theorem dX5_count_69 : decode cX5_count 69 = .ok (.getfield 12, 3) := by decide +kernel
theorem dX5_count_72 : decode cX5_count 72 = .ok (.getfield 68, 3) := by decide +kernel
theorem dX5_count_75 : decode cX5_count 75 = .ok (.ireturn, 1) := by decide +kernel
theorem dX5_count_76 : decode cX5_count 76 = .ok (.aload_n 0, 1) := by decide +kernel
theorem dX5_count_77 : decode cX5_count 77 = .ok (.getfield 12, 3) := by decide +kernel
theorem dX5_count_80 : decode cX5_count 80 = .ok (.getfield 71, 3) := by decide +kernel
theorem dX5_count_83 : decode cX5_count 83 = .ok (.ireturn, 1) := by decide +kernel
theorem dX5_count_84 : decode cX5_count 84 = .ok (.aload_n 0, 1) := by decide +kernel
theorem dX5_count_85 : decode cX5_count 85 = .ok (.getfield 12, 3) := by decide +kernel
theorem dX5_count_88 : decode cX5_count 88 = .ok (.getfield 85, 3) := by decide +kernel
theorem dX5_count_91 : decode cX5_count 91 = .ok (.iconst (-1), 1) := by decide +kernel
theorem dX5_count_92 : decode cX5_count 92 = .ok (.if_icmp .ne 7, 3) := by decide +kernel
theorem dX5_count_95 : decode cX5_count 95 = .ok (.iconst 0, 1) := by decide +kernel
theorem dX5_count_96 : decode cX5_count 96 = .ok (.goto 4, 3) := by decide +kernel
theorem dX5_count_99 : decode cX5_count 99 = .ok (.iconst 1, 1) := by decide +kernel
theorem dX5_count_100 : decode cX5_count 100 = .ok (.ireturn, 1) := by decide +kernel
theorem dX5_count_101 : decode cX5_count 101 = .ok (.aload_n 0, 1) := by decide +kernel
theorem dX5_count_102 : decode cX5_count 102 = .ok (.getfield 19, 3) := by decide +kernel
theorem dX5_count_105 : decode cX5_count 105 = .ok (.getfield 105, 3) := by decide +kernel
theorem dX5_count_108 : decode cX5_count 108 = .ok (.ireturn, 1) := by decide +kernel
theorem dX5_count_109 : decode cX5_count 109 = .ok (.iconst (-1), 1) := by decide +kernel
theorem dX5_count_110 : decode cX5_count 110 = .ok (.ireturn, 1) := by decide +kernel
theorem dX5_symbolOfLength_0 : decode cX5_symbolOfLength 0 = .ok (.iload_n 0, 1) := by decide +kernel
theorem dX5_symbolOfLength_1 : decode cX5_symbolOfLength 1 = .ok (.ifCond .ne 5, 3) := by decide +kernel
theorem dX5_symbolOfLength_4 : decode cX5_symbolOfLength 4 = .ok (.iconst 3, 1) := by decide +kernel
theorem dX5_symbolOfLength_5 : decode cX5_symbolOfLength 5 = .ok (.ireturn, 1) := by decide +kernel
theorem dX5_symbolOfLength_6 : decode cX5_symbolOfLength 6 = .ok (.iload_n 0, 1) := by decide +kernel
theorem dX5_symbolOfLength_7 : decode cX5_symbolOfLength 7 = .ok (.bipush 8, 2) := by decide +kernel
theorem dX5_symbolOfLength_9 : decode cX5_symbolOfLength 9 = .ok (.if_icmp .lt 11, 3) := by decide +kernel
theorem dX5_symbolOfLength_12 : decode cX5_symbolOfLength 12 = .ok (.iload_n 0, 1) := by decide +kernel
theorem dX5_symbolOfLength_13 : decode cX5_symbolOfLength 13 = .ok (.bipush 12, 2) := by decide +kernel
theorem dX5_symbolOfLength_15 : decode cX5_symbolOfLength 15 = .ok (.if_icmp .gt 5, 3) := by decide +kernel
theorem dX5_symbolOfLength_18 : decode cX5_symbolOfLength 18 = .ok (.iconst 0, 1) := by decide +kernel
theorem dX5_symbolOfLength_19 : decode cX5_symbolOfLength 19 = .ok (.ireturn, 1) := by decide +kernel
theorem dX5_symbolOfLength_20 : decode cX5_symbolOfLength 20 = .ok (.iload_n 0, 1) := by decide +kernel
theorem dX5_symbolOfLength_21 : decode cX5_symbolOfLength 21 = .ok (.bipush 18, 2) := by decide +kernel
theorem dX5_symbolOfLength_23 : decode cX5_symbolOfLength 23 = .ok (.if_icmp .lt 13, 3) := by decide +kernel
theorem dX5_symbolOfLength_26 : decode cX5_symbolOfLength 26 = .ok (.iload_n 0, 1) := by decide +kernel
theorem dX5_symbolOfLength_27 : decode cX5_symbolOfLength 27 = .ok (.bipush 22, 2) := by decide +kernel
theorem dX5_symbolOfLength_29 : decode cX5_symbolOfLength 29 = .ok (.if_icmp .gt 7, 3) := by decide +kernel
theorem dX5_symbolOfLength_32 : decode cX5_symbolOfLength 32 = .ok (.iconst 1, 1) := by decide +kernel
theorem dX5_symbolOfLength_33 : decode cX5_symbolOfLength 33 = .ok (.goto 4, 3) := by decide +kernel
theorem dX5_symbolOfLength_36 : decode cX5_symbolOfLength 36 = .ok (.iconst 2, 1) := by decide +kernel
theorem dX5_symbolOfLength_37 : decode cX5_symbolOfLength 37 = .ok (.ireturn, 1) := by decide +kernel
theorem dX5_rowChanged_0 : decode cX5_rowChanged 0 = .ok (.aload_n 0, 1) := by decide +kernel
theorem dX5_rowChanged_1 : decode cX5_rowChanged 1 = .ok (.iconst 0, 1) := by decide +kernel
theorem dX5_rowChanged_2 : decode cX5_rowChanged 2 = .ok (.putfield 188, 3) := by decide +kernel
theorem dX5_rowChanged_5 : decode cX5_rowChanged 5 = .ok (.aload_n 0, 1) := by decide +kernel
theorem dX5_rowChanged_6 : decode cX5_rowChanged 6 = .ok (.iconst 0, 1) := by decide +kernel
theorem dX5_rowChanged_7 : decode cX5_rowChanged 7 = .ok (.putfield 192, 3) := by decide +kernel
theorem dX5_rowChanged_10 : decode cX5_rowChanged 10 = .ok (.return_, 1) := by decide +kernel
theorem dX5_fittingFrames_0 : decode cX5_fittingFrames 0 = .ok (.aload_n 0, 1) := by decide +kernel
theorem dX5_fittingFrames_1 : decode cX5_fittingFrames 1 = .ok (.getfield 188, 3) := by decide +kernel
theorem dX5_fittingFrames_4 : decode cX5_fittingFrames 4 = .ok (.ifCond .ne 19, 3) := by decide +kernel
theorem dX5_fittingFrames_7 : decode cX5_fittingFrames 7 = .ok (.aload_n 0, 1) := by decide +kernel
theorem dX5_fittingFrames_8 : decode cX5_fittingFrames 8 = .ok (.getfield 34, 3) := by decide +kernel
theorem dX5_fittingFrames_11 : decode cX5_fittingFrames 11 = .ok (.aload_n 0, 1) := by decide +kernel
theorem dX5_fittingFrames_12 : decode cX5_fittingFrames 12 = .ok (.getfield 12, 3) := by decide +kernel
theorem dX5_fittingFrames_15 : decode cX5_fittingFrames 15 = .ok (.invokevirtual 195, 3) := by decide +kernel
theorem dX5_fittingFrames_18 : decode cX5_fittingFrames 18 = .ok (.aload_n 0, 1) := by decide +kernel
theorem dX5_fittingFrames_19 : decode cX5_fittingFrames 19 = .ok (.iconst 1, 1) := by decide +kernel
theorem dX5_fittingFrames_20 : decode cX5_fittingFrames 20 = .ok (.putfield 188, 3) := by decide +kernel
theorem dX5_fittingFrames_23 : decode cX5_fittingFrames 23 = .ok (.aload_n 0, 1) := by decide +kernel
theorem dX5_fittingFrames_24 : decode cX5_fittingFrames 24 = .ok (.getfield 34, 3) := by decide +kernel
theorem dX5_fittingFrames_27 : decode cX5_fittingFrames 27 = .ok (.areturn, 1) := by decide +kernel
theorem dX5_fittingVote_0 : decode cX5_fittingVote 0 = .ok (.aload_n 0, 1) := by decide +kernel
theorem dX5_fittingVote_1 : decode cX5_fittingVote 1 = .ok (.getfield 192, 3) := by decide +kernel
theorem dX5_fittingVote_4 : decode cX5_fittingVote 4 = .ok (.ifCond .ne 19, 3) := by decide +kernel
theorem dX5_fittingVote_7 : decode cX5_fittingVote 7 = .ok (.aload_n 0, 1) := by decide +kernel
theorem dX5_fittingVote_8 : decode cX5_fittingVote 8 = .ok (.getfield 41, 3) := by decide +kernel
theorem dX5_fittingVote_11 : decode cX5_fittingVote 11 = .ok (.aload_n 0, 1) := by decide +kernel
theorem dX5_fittingVote_12 : decode cX5_fittingVote 12 = .ok (.invokevirtual 113, 3) := by decide +kernel
theorem dX5_fittingVote_15 : decode cX5_fittingVote 15 = .ok (.invokevirtual 198, 3) := by decide +kernel
theorem dX5_fittingVote_18 : decode cX5_fittingVote 18 = .ok (.aload_n 0, 1) := by decide +kernel
theorem dX5_fittingVote_19 : decode cX5_fittingVote 19 = .ok (.iconst 1, 1) := by decide +kernel
theorem dX5_fittingVote_20 : decode cX5_fittingVote 20 = .ok (.putfield 192, 3) := by decide +kernel
theorem dX5_fittingVote_23 : decode cX5_fittingVote 23 = .ok (.aload_n 0, 1) := by decide +kernel
theorem dX5_fittingVote_24 : decode cX5_fittingVote 24 = .ok (.getfield 41, 3) := by decide +kernel
theorem dX5_fittingVote_27 : decode cX5_fittingVote 27 = .ok (.areturn, 1) := by decide +kernel
theorem dX5_isShown_0 : decode cX5_isShown 0 = .ok (.aload_n 0, 1) := by decide +kernel
theorem dX5_isShown_1 : decode cX5_isShown 1 = .ok (.invokevirtual 113, 3) := by decide +kernel
theorem dX5_isShown_4 : decode cX5_isShown 4 = .ok (.getfield 117, 3) := by decide +kernel
theorem dX5_isShown_7 : decode cX5_isShown 7 = .ok (.ifCond .le 24, 3) := by decide +kernel
theorem dX5_isShown_10 : decode cX5_isShown 10 = .ok (.aload_n 0, 1) := by decide +kernel
theorem dX5_isShown_11 : decode cX5_isShown 11 = .ok (.invokevirtual 78, 3) := by decide +kernel
theorem dX5_isShown_14 : decode cX5_isShown 14 = .ok (.getfield 145, 3) := by decide +kernel
theorem dX5_isShown_17 : decode cX5_isShown 17 = .ok (.aload_n 0, 1) := by decide +kernel
theorem dX5_isShown_18 : decode cX5_isShown 18 = .ok (.getfield 12, 3) := by decide +kernel
theorem dX5_isShown_21 : decode cX5_isShown 21 = .ok (.getfield 68, 3) := by decide +kernel
theorem dX5_isShown_24 : decode cX5_isShown 24 = .ok (.if_icmp .lt 7, 3) := by decide +kernel
theorem dX5_isShown_27 : decode cX5_isShown 27 = .ok (.iconst 1, 1) := by decide +kernel
theorem dX5_isShown_28 : decode cX5_isShown 28 = .ok (.goto 4, 3) := by decide +kernel
theorem dX5_isShown_31 : decode cX5_isShown 31 = .ok (.iconst 0, 1) := by decide +kernel
theorem dX5_isShown_32 : decode cX5_isShown 32 = .ok (.ireturn, 1) := by decide +kernel
theorem dX5_drifted_0 : decode cX5_drifted 0 = .ok (.aload_n 0, 1) := by decide +kernel
theorem dX5_drifted_1 : decode cX5_drifted 1 = .ok (.getfield 12, 3) := by decide +kernel
theorem dX5_drifted_4 : decode cX5_drifted 4 = .ok (.getfield 71, 3) := by decide +kernel
theorem dX5_drifted_7 : decode cX5_drifted 7 = .ok (.aload_n 0, 1) := by decide +kernel
theorem dX5_drifted_8 : decode cX5_drifted 8 = .ok (.getfield 12, 3) := by decide +kernel
theorem dX5_drifted_11 : decode cX5_drifted 11 = .ok (.getfield 88, 3) := by decide +kernel
theorem dX5_drifted_14 : decode cX5_drifted 14 = .ok (.imul, 1) := by decide +kernel
theorem dX5_drifted_15 : decode cX5_drifted 15 = .ok (.ireturn, 1) := by decide +kernel
theorem dX5_apart_0 : decode cX5_apart 0 = .ok (.aload_n 0, 1) := by decide +kernel
theorem dX5_apart_1 : decode cX5_apart 1 = .ok (.invokevirtual 113, 3) := by decide +kernel
theorem dX5_apart_4 : decode cX5_apart 4 = .ok (.getfield 117, 3) := by decide +kernel
theorem dX5_apart_7 : decode cX5_apart 7 = .ok (.ifCond .ne 6, 3) := by decide +kernel
theorem dX5_apart_10 : decode cX5_apart 10 = .ok (.ldc 171, 2) := by decide +kernel
theorem dX5_apart_12 : decode cX5_apart 12 = .ok (.ireturn, 1) := by decide +kernel
theorem dX5_apart_13 : decode cX5_apart 13 = .ok (.aload_n 0, 1) := by decide +kernel
theorem dX5_apart_14 : decode cX5_apart 14 = .ok (.getfield 12, 3) := by decide +kernel
theorem dX5_apart_17 : decode cX5_apart 17 = .ok (.getfield 85, 3) := by decide +kernel
theorem dX5_apart_20 : decode cX5_apart 20 = .ok (.invokestatic 91, 3) := by decide +kernel
theorem dX5_apart_23 : decode cX5_apart 23 = .ok (.aload_n 0, 1) := by decide +kernel
theorem dX5_apart_24 : decode cX5_apart 24 = .ok (.invokevirtual 78, 3) := by decide +kernel
theorem dX5_apart_27 : decode cX5_apart 27 = .ok (.getfield 82, 3) := by decide +kernel
theorem dX5_apart_30 : decode cX5_apart 30 = .ok (.invokestatic 91, 3) := by decide +kernel
theorem dX5_apart_33 : decode cX5_apart 33 = .ok (.isub, 1) := by decide +kernel
theorem dX5_apart_34 : decode cX5_apart 34 = .ok (.istore_n 1, 1) := by decide +kernel
theorem dX5_apart_35 : decode cX5_apart 35 = .ok (.iload_n 1, 1) := by decide +kernel
theorem dX5_apart_36 : decode cX5_apart 36 = .ok (.sipush 1440, 3) := by decide +kernel
theorem dX5_apart_39 : decode cX5_apart 39 = .ok (.invokestatic 202, 3) := by decide +kernel
theorem dX5_apart_42 : decode cX5_apart 42 = .ok (.istore_n 2, 1) := by decide +kernel
theorem dX5_apart_43 : decode cX5_apart 43 = .ok (.iload_n 2, 1) := by decide +kernel
theorem dX5_apart_44 : decode cX5_apart 44 = .ok (.sipush 720, 3) := by decide +kernel
theorem dX5_apart_47 : decode cX5_apart 47 = .ok (.if_icmp .le 11, 3) := by decide +kernel
theorem dX5_apart_50 : decode cX5_apart 50 = .ok (.iload_n 2, 1) := by decide +kernel
theorem dX5_apart_51 : decode cX5_apart 51 = .ok (.sipush 1440, 3) := by decide +kernel
theorem dX5_apart_54 : decode cX5_apart 54 = .ok (.isub, 1) := by decide +kernel
theorem dX5_apart_55 : decode cX5_apart 55 = .ok (.goto 4, 3) := by decide +kernel
theorem dX5_apart_58 : decode cX5_apart 58 = .ok (.iload_n 2, 1) := by decide +kernel
theorem dX5_apart_59 : decode cX5_apart 59 = .ok (.ireturn, 1) := by decide +kernel
end
section
theorem dX6_init_0 : decode cX6_init 0 = .ok (.aload_n 0, 1) := by decide +kernel
theorem dX6_init_1 : decode cX6_init 1 = .ok (.invokespecial 1, 3) := by decide +kernel
theorem dX6_init_4 : decode cX6_init 4 = .ok (.aload_n 0, 1) := by decide +kernel
theorem dX6_init_5 : decode cX6_init 5 = .ok (.bipush 126, 2) := by decide +kernel
theorem dX6_init_7 : decode cX6_init 7 = .ok (.newarray .int, 2) := by decide +kernel
theorem dX6_init_9 : decode cX6_init 9 = .ok (.putfield 7, 3) := by decide +kernel
theorem dX6_init_12 : decode cX6_init 12 = .ok (.aload_n 0, 1) := by decide +kernel
theorem dX6_init_13 : decode cX6_init 13 = .ok (.sipush 1260, 3) := by decide +kernel
theorem dX6_init_16 : decode cX6_init 16 = .ok (.newarray .int, 2) := by decide +kernel
theorem dX6_init_18 : decode cX6_init 18 = .ok (.putfield 13, 3) := by decide +kernel
theorem dX6_init_21 : decode cX6_init 21 = .ok (.aload_n 0, 1) := by decide +kernel
theorem dX6_init_22 : decode cX6_init 22 = .ok (.iconst 2, 1) := by decide +kernel
theorem dX6_init_23 : decode cX6_init 23 = .ok (.newarray .boolean, 2) := by decide +kernel
theorem dX6_init_25 : decode cX6_init 25 = .ok (.putfield 16, 3) := by decide +kernel
theorem dX6_init_28 : decode cX6_init 28 = .ok (.aload_n 0, 1) := by decide +kernel
theorem dX6_init_29 : decode cX6_init 29 = .ok (.sipush 252, 3) := by decide +kernel
theorem dX6_init_32 : decode cX6_init 32 = .ok (.newarray .int, 2) := by decide +kernel
theorem dX6_init_34 : decode cX6_init 34 = .ok (.putfield 20, 3) := by decide +kernel
theorem dX6_init_37 : decode cX6_init 37 = .ok (.aload_n 0, 1) := by decide +kernel
theorem dX6_init_38 : decode cX6_init 38 = .ok (.bipush 6, 2) := by decide +kernel
theorem dX6_init_40 : decode cX6_init 40 = .ok (.newarray .int, 2) := by decide +kernel
theorem dX6_init_42 : decode cX6_init 42 = .ok (.putfield 23, 3) := by decide +kernel
theorem dX6_init_45 : decode cX6_init 45 = .ok (.aload_n 0, 1) := by decide +kernel
theorem dX6_init_46 : decode cX6_init 46 = .ok (.bipush 6, 2) := by decide +kernel
theorem dX6_init_48 : decode cX6_init 48 = .ok (.newarray .int, 2) := by decide +kernel
theorem dX6_init_50 : decode cX6_init 50 = .ok (.putfield 26, 3) := by decide +kernel
theorem dX6_init_53 : decode cX6_init 53 = .ok (.aload_n 0, 1) := by decide +kernel
theorem dX6_init_54 : decode cX6_init 54 = .ok (.sipush 11520, 3) := by decide +kernel
theorem dX6_init_57 : decode cX6_init 57 = .ok (.newarray .int, 2) := by decide +kernel
theorem dX6_init_59 : decode cX6_init 59 = .ok (.putfield 29, 3) := by decide +kernel
theorem dX6_init_62 : decode cX6_init 62 = .ok (.aload_n 0, 1) := by decide +kernel
theorem dX6_init_63 : decode cX6_init 63 = .ok (.getfield 7, 3) := by decide +kernel
theorem dX6_init_66 : decode cX6_init 66 = .ok (.iconst 1, 1) := by decide +kernel
theorem dX6_init_67 : decode cX6_init 67 = .ok (.iconst 3, 1) := by decide +kernel
theorem dX6_init_68 : decode cX6_init 68 = .ok (.iastore, 1) := by decide +kernel
theorem dX6_init_69 : decode cX6_init 69 = .ok (.aload_n 0, 1) := by decide +kernel
theorem dX6_init_70 : decode cX6_init 70 = .ok (.getfield 7, 3) := by decide +kernel
theorem dX6_init_73 : decode cX6_init 73 = .ok (.iconst 2, 1) := by decide +kernel
theorem dX6_init_74 : decode cX6_init 74 = .ok (.iconst 5, 1) := by decide +kernel
theorem dX6_init_75 : decode cX6_init 75 = .ok (.iastore, 1) := by decide +kernel
theorem dX6_init_76 : decode cX6_init 76 = .ok (.aload_n 0, 1) := by decide +kernel
theorem dX6_init_77 : decode cX6_init 77 = .ok (.getfield 7, 3) := by decide +kernel
theorem dX6_init_80 : decode cX6_init 80 = .ok (.iconst 3, 1) := by decide +kernel
theorem dX6_init_81 : decode cX6_init 81 = .ok (.bipush (-9), 2) := by decide +kernel
theorem dX6_init_83 : decode cX6_init 83 = .ok (.iastore, 1) := by decide +kernel
theorem dX6_init_84 : decode cX6_init 84 = .ok (.return_, 1) := by decide +kernel
theorem dX6_in_0 : decode cX6_in 0 = .ok (.iload_n 0, 1) := by decide +kernel
theorem dX6_in_1 : decode cX6_in 1 = .ok (.iload_n 1, 1) := by decide +kernel
theorem dX6_in_2 : decode cX6_in 2 = .ok (.if_icmp .lt 12, 3) := by decide +kernel
theorem dX6_in_5 : decode cX6_in 5 = .ok (.iload_n 0, 1) := by decide +kernel
theorem dX6_in_6 : decode cX6_in 6 = .ok (.iload_n 2, 1) := by decide +kernel
theorem dX6_in_7 : decode cX6_in 7 = .ok (.if_icmp .gt 7, 3) := by decide +kernel
theorem dX6_in_10 : decode cX6_in 10 = .ok (.iconst 1, 1) := by decide +kernel
theorem dX6_in_11 : decode cX6_in 11 = .ok (.goto 4, 3) := by decide +kernel
theorem dX6_in_14 : decode cX6_in 14 = .ok (.iconst 0, 1) := by decide +kernel
theorem dX6_in_15 : decode cX6_in 15 = .ok (.ireturn, 1) := by decide +kernel
theorem dX6_has_0 : decode cX6_has 0 = .ok (.iload_n 0, 1) := by decide +kernel
theorem dX6_has_1 : decode cX6_has 1 = .ok (.iload_n 1, 1) := by decide +kernel
theorem dX6_has_2 : decode cX6_has 2 = .ok (.ishr, 1) := by decide +kernel
theorem dX6_has_3 : decode cX6_has 3 = .ok (.iconst 1, 1) := by decide +kernel
theorem dX6_has_4 : decode cX6_has 4 = .ok (.iand, 1) := by decide +kernel
theorem dX6_has_5 : decode cX6_has 5 = .ok (.iconst 1, 1) := by decide +kernel
theorem dX6_has_6 : decode cX6_has 6 = .ok (.if_icmp .ne 7, 3) := by decide +kernel
theorem dX6_has_9 : decode cX6_has 9 = .ok (.iconst 1, 1) := by decide +kernel
theorem dX6_has_10 : decode cX6_has 10 = .ok (.goto 4, 3) := by decide +kernel
theorem dX6_has_13 : decode cX6_has 13 = .ok (.iconst 0, 1) := by decide +kernel
theorem dX6_has_14 : decode cX6_has 14 = .ok (.ireturn, 1) := by decide +kernel
theorem dX6_many_0 : decode cX6_many 0 = .ok (.iconst 0, 1) := by decide +kernel
theorem dX6_many_1 : decode cX6_many 1 = .ok (.istore_n 1, 1) := by decide +kernel
theorem dX6_many_2 : decode cX6_many 2 = .ok (.iload_n 0, 1) := by decide +kernel
theorem dX6_many_3 : decode cX6_many 3 = .ok (.istore_n 2, 1) := by decide +kernel
theorem dX6_many_4 : decode cX6_many 4 = .ok (.iload_n 2, 1) := by decide +kernel
theorem dX6_many_5 : decode cX6_many 5 = .ok (.ifCond .eq 15, 3) := by decide +kernel
theorem dX6_many_8 : decode cX6_many 8 = .ok (.iinc 1 1, 3) := by decide +kernel
theorem dX6_many_11 : decode cX6_many 11 = .ok (.iload_n 2, 1) := by decide +kernel
theorem dX6_many_12 : decode cX6_many 12 = .ok (.iload_n 2, 1) := by decide +kernel
theorem dX6_many_13 : decode cX6_many 13 = .ok (.iconst 1, 1) := by decide +kernel
theorem dX6_many_14 : decode cX6_many 14 = .ok (.isub, 1) := by decide +kernel
theorem dX6_many_15 : decode cX6_many 15 = .ok (.iand, 1) := by decide +kernel
theorem dX6_many_16 : decode cX6_many 16 = .ok (.istore_n 2, 1) := by decide +kernel
theorem dX6_many_17 : decode cX6_many 17 = .ok (.goto (-13), 3) := by decide +kernel
theorem dX6_many_20 : decode cX6_many 20 = .ok (.iload_n 1, 1) := by decide +kernel
theorem dX6_many_21 : decode cX6_many 21 = .ok (.ireturn, 1) := by decide +kernel
theorem dX6_figures_0 : decode cX6_figures 0 = .ok (.iload_n 0, 1) := by decide +kernel
theorem dX6_figures_1 : decode cX6_figures 1 = .ok (.bipush 10, 2) := by decide +kernel
theorem dX6_figures_3 : decode cX6_figures 3 = .ok (.irem, 1) := by decide +kernel
theorem dX6_figures_4 : decode cX6_figures 4 = .ok (.iload_n 1, 1) := by decide +kernel
theorem dX6_figures_5 : decode cX6_figures 5 = .ok (.ishl, 1) := by decide +kernel
theorem dX6_figures_6 : decode cX6_figures 6 = .ok (.iload_n 0, 1) := by decide +kernel
theorem dX6_figures_7 : decode cX6_figures 7 = .ok (.bipush 10, 2) := by decide +kernel
theorem dX6_figures_9 : decode cX6_figures 9 = .ok (.idiv, 1) := by decide +kernel
theorem dX6_figures_10 : decode cX6_figures 10 = .ok (.iload_n 1, 1) := by decide +kernel
theorem dX6_figures_11 : decode cX6_figures 11 = .ok (.iconst 4, 1) := by decide +kernel
theorem dX6_figures_12 : decode cX6_figures 12 = .ok (.iadd, 1) := by decide +kernel
theorem dX6_figures_13 : decode cX6_figures 13 = .ok (.ishl, 1) := by decide +kernel
theorem dX6_figures_14 : decode cX6_figures 14 = .ok (.ior, 1) := by decide +kernel
theorem dX6_figures_15 : decode cX6_figures 15 = .ok (.ireturn, 1) := by decide +kernel
theorem dX6_bitsOf_0 : decode cX6_bitsOf 0 = .ok (.iload_n 0, 1) := by decide +kernel
theorem dX6_bitsOf_1 : decode cX6_bitsOf 1 = .ok (.bipush 8, 2) := by decide +kernel
theorem dX6_bitsOf_3 : decode cX6_bitsOf 3 = .ok (.idiv, 1) := by decide +kernel
theorem dX6_bitsOf_4 : decode cX6_bitsOf 4 = .ok (.istore_n 1, 1) := by decide +kernel
theorem dX6_bitsOf_5 : decode cX6_bitsOf 5 = .ok (.iload_n 0, 1) := by decide +kernel
theorem dX6_bitsOf_6 : decode cX6_bitsOf 6 = .ok (.iconst 1, 1) := by decide +kernel
theorem dX6_bitsOf_7 : decode cX6_bitsOf 7 = .ok (.invokestatic 32, 3) := by decide +kernel
theorem dX6_bitsOf_10 : decode cX6_bitsOf 10 = .ok (.ifCond .eq 7, 3) := by decide +kernel
theorem dX6_bitsOf_13 : decode cX6_bitsOf 13 = .ok (.iconst 2, 1) := by decide +kernel
theorem dX6_bitsOf_14 : decode cX6_bitsOf 14 = .ok (.goto 4, 3) := by decide +kernel
theorem dX6_bitsOf_17 : decode cX6_bitsOf 17 = .ok (.iconst 0, 1) := by decide +kernel
theorem dX6_bitsOf_18 : decode cX6_bitsOf 18 = .ok (.istore_n 2, 1) := by decide +kernel
theorem dX6_bitsOf_19 : decode cX6_bitsOf 19 = .ok (.iload_n 2, 1) := by decide +kernel
theorem dX6_bitsOf_20 : decode cX6_bitsOf 20 = .ok (.iload_n 0, 1) := by decide +kernel
theorem dX6_bitsOf_21 : decode cX6_bitsOf 21 = .ok (.iconst 0, 1) := by decide +kernel
theorem dX6_bitsOf_22 : decode cX6_bitsOf 22 = .ok (.invokestatic 32, 3) := by decide +kernel
theorem dX6_bitsOf_25 : decode cX6_bitsOf 25 = .ok (.ifCond .eq 7, 3) := by decide +kernel
theorem dX6_bitsOf_28 : decode cX6_bitsOf 28 = .ok (.iconst 4, 1) := by decide +kernel
theorem dX6_bitsOf_29 : decode cX6_bitsOf 29 = .ok (.goto 4, 3) := by decide +kernel
theorem dX6_bitsOf_32 : decode cX6_bitsOf 32 = .ok (.iconst 0, 1) := by decide +kernel
theorem dX6_bitsOf_33 : decode cX6_bitsOf 33 = .ok (.ior, 1) := by decide +kernel
theorem dX6_bitsOf_34 : decode cX6_bitsOf 34 = .ok (.istore_n 2, 1) := by decide +kernel
theorem dX6_bitsOf_35 : decode cX6_bitsOf 35 = .ok (.iload_n 2, 1) := by decide +kernel
theorem dX6_bitsOf_36 : decode cX6_bitsOf 36 = .ok (.iload_n 0, 1) := by decide +kernel
theorem dX6_bitsOf_37 : decode cX6_bitsOf 37 = .ok (.iconst 2, 1) := by decide +kernel
theorem dX6_bitsOf_38 : decode cX6_bitsOf 38 = .ok (.invokestatic 32, 3) := by decide +kernel
theorem dX6_bitsOf_41 : decode cX6_bitsOf 41 = .ok (.ifCond .eq 8, 3) := by decide +kernel
theorem dX6_bitsOf_44 : decode cX6_bitsOf 44 = .ok (.bipush 8, 2) := by decide +kernel
theorem dX6_bitsOf_46 : decode cX6_bitsOf 46 = .ok (.goto 4, 3) := by decide +kernel
theorem dX6_bitsOf_49 : decode cX6_bitsOf 49 = .ok (.iconst 0, 1) := by decide +kernel
theorem dX6_bitsOf_50 : decode cX6_bitsOf 50 = .ok (.ior, 1) := by decide +kernel
theorem dX6_bitsOf_51 : decode cX6_bitsOf 51 = .ok (.istore_n 2, 1) := by decide +kernel
theorem dX6_bitsOf_52 : decode cX6_bitsOf 52 = .ok (.iload_n 1, 1) := by decide +kernel
theorem dX6_bitsOf_53 : decode cX6_bitsOf 53 = .ok (.bipush 60, 2) := by decide +kernel
theorem dX6_bitsOf_55 : decode cX6_bitsOf 55 = .ok (.irem, 1) := by decide +kernel
theorem dX6_bitsOf_56 : decode cX6_bitsOf 56 = .ok (.iconst 4, 1) := by decide +kernel
theorem dX6_bitsOf_57 : decode cX6_bitsOf 57 = .ok (.invokestatic 36, 3) := by decide +kernel
theorem dX6_bitsOf_60 : decode cX6_bitsOf 60 = .ok (.istore_n 3, 1) := by decide +kernel
theorem dX6_bitsOf_61 : decode cX6_bitsOf 61 = .ok (.iload_n 1, 1) := by decide +kernel
theorem dX6_bitsOf_62 : decode cX6_bitsOf 62 = .ok (.bipush 60, 2) := by decide +kernel
theorem dX6_bitsOf_64 : decode cX6_bitsOf 64 = .ok (.idiv, 1) := by decide +kernel
theorem dX6_bitsOf_65 : decode cX6_bitsOf 65 = .ok (.bipush 12, 2) := by decide +kernel
theorem dX6_bitsOf_67 : decode cX6_bitsOf 67 = .ok (.invokestatic 36, 3) := by decide +kernel
theorem dX6_bitsOf_70 : decode cX6_bitsOf 70 = .ok (.istore 4, 2) := by decide +kernel
theorem dX6_bitsOf_72 : decode cX6_bitsOf 72 = .ok (.iload_n 3, 1) := by decide +kernel
theorem dX6_bitsOf_73 : decode cX6_bitsOf 73 = .ok (.iload_n 3, 1) := by decide +kernel
theorem dX6_bitsOf_74 : decode cX6_bitsOf 74 = .ok (.invokestatic 40, 3) := by decide +kernel
theorem dX6_bitsOf_77 : decode cX6_bitsOf 77 = .ok (.iconst 2, 1) := by decide +kernel
theorem dX6_bitsOf_78 : decode cX6_bitsOf 78 = .ok (.irem, 1) := by decide +kernel
theorem dX6_bitsOf_79 : decode cX6_bitsOf 79 = .ok (.bipush 11, 2) := by decide +kernel
theorem dX6_bitsOf_81 : decode cX6_bitsOf 81 = .ok (.ishl, 1) := by decide +kernel
theorem dX6_bitsOf_82 : decode cX6_bitsOf 82 = .ok (.ior, 1) := by decide +kernel
theorem dX6_bitsOf_83 : decode cX6_bitsOf 83 = .ok (.istore_n 3, 1) := by decide +kernel
theorem dX6_bitsOf_84 : decode cX6_bitsOf 84 = .ok (.iload 4, 2) := by decide +kernel
theorem dX6_bitsOf_86 : decode cX6_bitsOf 86 = .ok (.iload 4, 2) := by decide +kernel
theorem dX6_bitsOf_88 : decode cX6_bitsOf 88 = .ok (.invokestatic 40, 3) := by decide +kernel
theorem dX6_bitsOf_91 : decode cX6_bitsOf 91 = .ok (.iconst 2, 1) := by decide +kernel
theorem dX6_bitsOf_92 : decode cX6_bitsOf 92 = .ok (.irem, 1) := by decide +kernel
theorem dX6_bitsOf_93 : decode cX6_bitsOf 93 = .ok (.bipush 18, 2) := by decide +kernel
theorem dX6_bitsOf_95 : decode cX6_bitsOf 95 = .ok (.ishl, 1) := by decide +kernel
theorem dX6_bitsOf_96 : decode cX6_bitsOf 96 = .ok (.ior, 1) := by decide +kernel
theorem dX6_bitsOf_97 : decode cX6_bitsOf 97 = .ok (.istore 4, 2) := by decide +kernel
theorem dX6_bitsOf_99 : decode cX6_bitsOf 99 = .ok (.iload_n 2, 1) := by decide +kernel
theorem dX6_bitsOf_100 : decode cX6_bitsOf 100 = .ok (.iload_n 3, 1) := by decide +kernel
theorem dX6_bitsOf_101 : decode cX6_bitsOf 101 = .ok (.ior, 1) := by decide +kernel
theorem dX6_bitsOf_102 : decode cX6_bitsOf 102 = .ok (.iload 4, 2) := by decide +kernel
theorem dX6_bitsOf_104 : decode cX6_bitsOf 104 = .ok (.ior, 1) := by decide +kernel
theorem dX6_bitsOf_105 : decode cX6_bitsOf 105 = .ok (.ireturn, 1) := by decide +kernel
theorem dX6_nextOf_0 : decode cX6_nextOf 0 = .ok (.iload_n 0, 1) := by decide +kernel
theorem dX6_nextOf_1 : decode cX6_nextOf 1 = .ok (.bipush 8, 2) := by decide +kernel
theorem dX6_nextOf_3 : decode cX6_nextOf 3 = .ok (.idiv, 1) := by decide +kernel
theorem dX6_nextOf_4 : decode cX6_nextOf 4 = .ok (.iconst 1, 1) := by decide +kernel
theorem dX6_nextOf_5 : decode cX6_nextOf 5 = .ok (.iadd, 1) := by decide +kernel
theorem dX6_nextOf_6 : decode cX6_nextOf 6 = .ok (.sipush 1440, 3) := by decide +kernel
theorem dX6_nextOf_9 : decode cX6_nextOf 9 = .ok (.irem, 1) := by decide +kernel
theorem dX6_nextOf_10 : decode cX6_nextOf 10 = .ok (.istore_n 1, 1) := by decide +kernel
theorem dX6_nextOf_11 : decode cX6_nextOf 11 = .ok (.iload_n 1, 1) := by decide +kernel
theorem dX6_nextOf_12 : decode cX6_nextOf 12 = .ok (.bipush 60, 2) := by decide +kernel
theorem dX6_nextOf_14 : decode cX6_nextOf 14 = .ok (.irem, 1) := by decide +kernel
theorem dX6_nextOf_15 : decode cX6_nextOf 15 = .ok (.ifCond .eq 13, 3) := by decide +kernel
theorem dX6_nextOf_18 : decode cX6_nextOf 18 = .ok (.bipush 8, 2) := by decide +kernel
theorem dX6_nextOf_20 : decode cX6_nextOf 20 = .ok (.iload_n 1, 1) := by decide +kernel
theorem dX6_nextOf_21 : decode cX6_nextOf 21 = .ok (.imul, 1) := by decide +kernel
theorem dX6_nextOf_22 : decode cX6_nextOf 22 = .ok (.iload_n 0, 1) := by decide +kernel
theorem dX6_nextOf_23 : decode cX6_nextOf 23 = .ok (.bipush 8, 2) := by decide +kernel
theorem dX6_nextOf_25 : decode cX6_nextOf 25 = .ok (.irem, 1) := by decide +kernel
theorem dX6_nextOf_26 : decode cX6_nextOf 26 = .ok (.iadd, 1) := by decide +kernel
theorem dX6_nextOf_27 : decode cX6_nextOf 27 = .ok (.ireturn, 1) := by decide +kernel
theorem dX6_nextOf_28 : decode cX6_nextOf 28 = .ok (.iload_n 0, 1) := by decide +kernel
theorem dX6_nextOf_29 : decode cX6_nextOf 29 = .ok (.iconst 2, 1) := by decide +kernel
theorem dX6_nextOf_30 : decode cX6_nextOf 30 = .ok (.invokestatic 32, 3) := by decide +kernel
theorem dX6_nextOf_33 : decode cX6_nextOf 33 = .ok (.istore_n 2, 1) := by decide +kernel
theorem dX6_nextOf_34 : decode cX6_nextOf 34 = .ok (.iload_n 0, 1) := by decide +kernel
theorem dX6_nextOf_35 : decode cX6_nextOf 35 = .ok (.iconst 1, 1) := by decide +kernel
theorem dX6_nextOf_36 : decode cX6_nextOf 36 = .ok (.invokestatic 32, 3) := by decide +kernel
theorem dX6_nextOf_39 : decode cX6_nextOf 39 = .ok (.ifCond .eq 32, 3) := by decide +kernel
theorem dX6_nextOf_42 : decode cX6_nextOf 42 = .ok (.iload_n 2, 1) := by decide +kernel
theorem dX6_nextOf_43 : decode cX6_nextOf 43 = .ok (.ifCond .ne 7, 3) := by decide +kernel
theorem dX6_nextOf_46 : decode cX6_nextOf 46 = .ok (.iconst 1, 1) := by decide +kernel
theorem dX6_nextOf_47 : decode cX6_nextOf 47 = .ok (.goto 4, 3) := by decide +kernel
theorem dX6_nextOf_50 : decode cX6_nextOf 50 = .ok (.iconst 0, 1) := by decide +kernel
theorem dX6_nextOf_51 : decode cX6_nextOf 51 = .ok (.istore_n 2, 1) := by decide +kernel
theorem dX6_nextOf_52 : decode cX6_nextOf 52 = .ok (.iload_n 1, 1) := by decide +kernel
theorem dX6_nextOf_53 : decode cX6_nextOf 53 = .ok (.iload_n 2, 1) := by decide +kernel
theorem dX6_nextOf_54 : decode cX6_nextOf 54 = .ok (.ifCond .eq 8, 3) := by decide +kernel
theorem dX6_nextOf_57 : decode cX6_nextOf 57 = .ok (.bipush 60, 2) := by decide +kernel
theorem dX6_nextOf_59 : decode cX6_nextOf 59 = .ok (.goto 6, 3) := by decide +kernel
theorem dX6_nextOf_62 : decode cX6_nextOf 62 = .ok (.sipush 1380, 3) := by decide +kernel
theorem dX6_nextOf_65 : decode cX6_nextOf 65 = .ok (.iadd, 1) := by decide +kernel
theorem dX6_nextOf_66 : decode cX6_nextOf 66 = .ok (.sipush 1440, 3) := by decide +kernel
theorem dX6_nextOf_69 : decode cX6_nextOf 69 = .ok (.irem, 1) := by decide +kernel
theorem dX6_nextOf_70 : decode cX6_nextOf 70 = .ok (.istore_n 1, 1) := by decide +kernel
theorem dX6_nextOf_71 : decode cX6_nextOf 71 = .ok (.bipush 8, 2) := by decide +kernel
theorem dX6_nextOf_73 : decode cX6_nextOf 73 = .ok (.iload_n 1, 1) := by decide +kernel
theorem dX6_nextOf_74 : decode cX6_nextOf 74 = .ok (.imul, 1) := by decide +kernel
theorem dX6_nextOf_75 : decode cX6_nextOf 75 = .ok (.iload_n 2, 1) := by decide +kernel
theorem dX6_nextOf_76 : decode cX6_nextOf 76 = .ok (.ifCond .eq 7, 3) := by decide +kernel
theorem dX6_nextOf_79 : decode cX6_nextOf 79 = .ok (.iconst 4, 1) := by decide +kernel
theorem dX6_nextOf_80 : decode cX6_nextOf 80 = .ok (.goto 4, 3) := by decide +kernel
theorem dX6_nextOf_83 : decode cX6_nextOf 83 = .ok (.iconst 0, 1) := by decide +kernel
theorem dX6_nextOf_84 : decode cX6_nextOf 84 = .ok (.iadd, 1) := by decide +kernel
theorem dX6_nextOf_85 : decode cX6_nextOf 85 = .ok (.ireturn, 1) := by decide +kernel
theorem dX6_later_0 : decode cX6_later 0 = .ok (.iload_n 0, 1) := by decide +kernel
theorem dX6_later_1 : decode cX6_later 1 = .ok (.istore_n 2, 1) := by decide +kernel
theorem dX6_later_2 : decode cX6_later 2 = .ok (.iconst 0, 1) := by decide +kernel
theorem dX6_later_3 : decode cX6_later 3 = .ok (.istore_n 3, 1) := by decide +kernel
theorem dX6_later_4 : decode cX6_later 4 = .ok (.iload_n 3, 1) := by decide +kernel
theorem dX6_later_5 : decode cX6_later 5 = .ok (.iload_n 1, 1) := by decide +kernel
theorem dX6_later_6 : decode cX6_later 6 = .ok (.if_icmp .ge 14, 3) := by decide +kernel
theorem dX6_later_9 : decode cX6_later 9 = .ok (.iload_n 2, 1) := by decide +kernel
theorem dX6_later_10 : decode cX6_later 10 = .ok (.invokestatic 44, 3) := by decide +kernel
theorem dX6_later_13 : decode cX6_later 13 = .ok (.istore_n 2, 1) := by decide +kernel
theorem dX6_later_14 : decode cX6_later 14 = .ok (.iinc 3 1, 3) := by decide +kernel
theorem dX6_later_17 : decode cX6_later 17 = .ok (.goto (-13), 3) := by decide +kernel
theorem dX6_later_20 : decode cX6_later 20 = .ok (.iload_n 2, 1) := by decide +kernel
theorem dX6_later_21 : decode cX6_later 21 = .ok (.ireturn, 1) := by decide +kernel
theorem dX6_isTime_0 : decode cX6_isTime 0 = .ok (.iload_n 0, 1) := by decide +kernel
theorem dX6_isTime_1 : decode cX6_isTime 1 = .ok (.iconst 0, 1) := by decide +kernel
theorem dX6_isTime_2 : decode cX6_isTime 2 = .ok (.sipush 1439, 3) := by decide +kernel
theorem dX6_isTime_5 : decode cX6_isTime 5 = .ok (.invokestatic 47, 3) := by decide +kernel
theorem dX6_isTime_8 : decode cX6_isTime 8 = .ok (.ifCond .eq 34, 3) := by decide +kernel
theorem dX6_isTime_11 : decode cX6_isTime 11 = .ok (.iload_n 1, 1) := by decide +kernel
theorem dX6_isTime_12 : decode cX6_isTime 12 = .ok (.iconst 0, 1) := by decide +kernel
theorem dX6_isTime_13 : decode cX6_isTime 13 = .ok (.iconst 1, 1) := by decide +kernel
theorem dX6_isTime_14 : decode cX6_isTime 14 = .ok (.invokestatic 47, 3) := by decide +kernel
theorem dX6_isTime_17 : decode cX6_isTime 17 = .ok (.ifCond .eq 25, 3) := by decide +kernel
theorem dX6_isTime_20 : decode cX6_isTime 20 = .ok (.iload_n 2, 1) := by decide +kernel
theorem dX6_isTime_21 : decode cX6_isTime 21 = .ok (.iconst 0, 1) := by decide +kernel
theorem dX6_isTime_22 : decode cX6_isTime 22 = .ok (.iconst 1, 1) := by decide +kernel
theorem dX6_isTime_23 : decode cX6_isTime 23 = .ok (.invokestatic 47, 3) := by decide +kernel
theorem dX6_isTime_26 : decode cX6_isTime 26 = .ok (.ifCond .eq 16, 3) := by decide +kernel
theorem dX6_isTime_29 : decode cX6_isTime 29 = .ok (.iload_n 3, 1) := by decide +kernel
theorem dX6_isTime_30 : decode cX6_isTime 30 = .ok (.iconst 0, 1) := by decide +kernel
theorem dX6_isTime_31 : decode cX6_isTime 31 = .ok (.iconst 1, 1) := by decide +kernel
theorem dX6_isTime_32 : decode cX6_isTime 32 = .ok (.invokestatic 47, 3) := by decide +kernel
theorem dX6_isTime_35 : decode cX6_isTime 35 = .ok (.ifCond .eq 7, 3) := by decide +kernel
theorem dX6_isTime_38 : decode cX6_isTime 38 = .ok (.iconst 1, 1) := by decide +kernel
theorem dX6_isTime_39 : decode cX6_isTime 39 = .ok (.goto 4, 3) := by decide +kernel
theorem dX6_isTime_42 : decode cX6_isTime 42 = .ok (.iconst 0, 1) := by decide +kernel
theorem dX6_isTime_43 : decode cX6_isTime 43 = .ok (.ireturn, 1) := by decide +kernel
theorem dX6_codeOf_0 : decode cX6_codeOf 0 = .ok (.bipush 8, 2) := by decide +kernel
theorem dX6_codeOf_2 : decode cX6_codeOf 2 = .ok (.iload_n 0, 1) := by decide +kernel
theorem dX6_codeOf_3 : decode cX6_codeOf 3 = .ok (.imul, 1) := by decide +kernel
theorem dX6_codeOf_4 : decode cX6_codeOf 4 = .ok (.iconst 4, 1) := by decide +kernel
theorem dX6_codeOf_5 : decode cX6_codeOf 5 = .ok (.iload_n 1, 1) := by decide +kernel
theorem dX6_codeOf_6 : decode cX6_codeOf 6 = .ok (.imul, 1) := by decide +kernel
theorem dX6_codeOf_7 : decode cX6_codeOf 7 = .ok (.iadd, 1) := by decide +kernel
theorem dX6_codeOf_8 : decode cX6_codeOf 8 = .ok (.iconst 2, 1) := by decide +kernel
theorem dX6_codeOf_9 : decode cX6_codeOf 9 = .ok (.iload_n 2, 1) := by decide +kernel
theorem dX6_codeOf_10 : decode cX6_codeOf 10 = .ok (.imul, 1) := by decide +kernel
theorem dX6_codeOf_11 : decode cX6_codeOf 11 = .ok (.iadd, 1) := by decide +kernel
theorem dX6_codeOf_12 : decode cX6_codeOf 12 = .ok (.iload_n 3, 1) := by decide +kernel
theorem dX6_codeOf_13 : decode cX6_codeOf 13 = .ok (.iadd, 1) := by decide +kernel
theorem dX6_codeOf_14 : decode cX6_codeOf 14 = .ok (.ireturn, 1) := by decide +kernel
theorem dX6_partOf_0 : decode cX6_partOf 0 = .ok (.iload_n 1, 1) := by decide +kernel
theorem dX6_partOf_1 : decode cX6_partOf 1 = .ok (.ifCond .ne 10, 3) := by decide +kernel
theorem dX6_partOf_4 : decode cX6_partOf 4 = .ok (.iload_n 0, 1) := by decide +kernel
theorem dX6_partOf_5 : decode cX6_partOf 5 = .ok (.bipush 8, 2) := by decide +kernel
theorem dX6_partOf_7 : decode cX6_partOf 7 = .ok (.idiv, 1) := by decide +kernel
theorem dX6_partOf_8 : decode cX6_partOf 8 = .ok (.goto 32, 3) := by decide +kernel
theorem dX6_partOf_11 : decode cX6_partOf 11 = .ok (.iload_n 1, 1) := by decide +kernel
theorem dX6_partOf_12 : decode cX6_partOf 12 = .ok (.iconst 1, 1) := by decide +kernel
theorem dX6_partOf_13 : decode cX6_partOf 13 = .ok (.if_icmp .ne 11, 3) := by decide +kernel
theorem dX6_partOf_16 : decode cX6_partOf 16 = .ok (.iload_n 0, 1) := by decide +kernel
theorem dX6_partOf_17 : decode cX6_partOf 17 = .ok (.iconst 4, 1) := by decide +kernel
theorem dX6_partOf_18 : decode cX6_partOf 18 = .ok (.idiv, 1) := by decide +kernel
theorem dX6_partOf_19 : decode cX6_partOf 19 = .ok (.iconst 2, 1) := by decide +kernel
theorem dX6_partOf_20 : decode cX6_partOf 20 = .ok (.irem, 1) := by decide +kernel
theorem dX6_partOf_21 : decode cX6_partOf 21 = .ok (.goto 19, 3) := by decide +kernel
theorem dX6_partOf_24 : decode cX6_partOf 24 = .ok (.iload_n 1, 1) := by decide +kernel
theorem dX6_partOf_25 : decode cX6_partOf 25 = .ok (.iconst 2, 1) := by decide +kernel
theorem dX6_partOf_26 : decode cX6_partOf 26 = .ok (.if_icmp .ne 11, 3) := by decide +kernel
theorem dX6_partOf_29 : decode cX6_partOf 29 = .ok (.iload_n 0, 1) := by decide +kernel
theorem dX6_partOf_30 : decode cX6_partOf 30 = .ok (.iconst 2, 1) := by decide +kernel
theorem dX6_partOf_31 : decode cX6_partOf 31 = .ok (.idiv, 1) := by decide +kernel
theorem dX6_partOf_32 : decode cX6_partOf 32 = .ok (.iconst 2, 1) := by decide +kernel
theorem dX6_partOf_33 : decode cX6_partOf 33 = .ok (.irem, 1) := by decide +kernel
theorem dX6_partOf_34 : decode cX6_partOf 34 = .ok (.goto 6, 3) := by decide +kernel
theorem dX6_partOf_37 : decode cX6_partOf 37 = .ok (.iload_n 0, 1) := by decide +kernel
theorem dX6_partOf_38 : decode cX6_partOf 38 = .ok (.iconst 2, 1) := by decide +kernel
theorem dX6_partOf_39 : decode cX6_partOf 39 = .ok (.irem, 1) := by decide +kernel
theorem dX6_partOf_40 : decode cX6_partOf 40 = .ok (.ireturn, 1) := by decide +kernel
theorem dX6_remember_0 : decode cX6_remember 0 = .ok (.iconst 0, 1) := by decide +kernel
theorem dX6_remember_1 : decode cX6_remember 1 = .ok (.istore_n 1, 1) := by decide +kernel
theorem dX6_remember_2 : decode cX6_remember 2 = .ok (.iload_n 1, 1) := by decide +kernel
theorem dX6_remember_3 : decode cX6_remember 3 = .ok (.bipush 126, 2) := by decide +kernel
theorem dX6_remember_5 : decode cX6_remember 5 = .ok (.if_icmp .ge 29, 3) := by decide +kernel
theorem dX6_remember_8 : decode cX6_remember 8 = .ok (.aload_n 0, 1) := by decide +kernel
theorem dX6_remember_9 : decode cX6_remember 9 = .ok (.getfield 13, 3) := by decide +kernel
theorem dX6_remember_12 : decode cX6_remember 12 = .ok (.bipush 126, 2) := by decide +kernel
theorem dX6_remember_14 : decode cX6_remember 14 = .ok (.aload_n 0, 1) := by decide +kernel
theorem dX6_remember_15 : decode cX6_remember 15 = .ok (.getfield 51, 3) := by decide +kernel
theorem dX6_remember_18 : decode cX6_remember 18 = .ok (.imul, 1) := by decide +kernel
theorem dX6_remember_19 : decode cX6_remember 19 = .ok (.iload_n 1, 1) := by decide +kernel
theorem dX6_remember_20 : decode cX6_remember 20 = .ok (.iadd, 1) := by decide +kernel
theorem dX6_remember_21 : decode cX6_remember 21 = .ok (.aload_n 0, 1) := by decide +kernel
theorem dX6_remember_22 : decode cX6_remember 22 = .ok (.getfield 7, 3) := by decide +kernel
theorem dX6_remember_25 : decode cX6_remember 25 = .ok (.iload_n 1, 1) := by decide +kernel
theorem dX6_remember_26 : decode cX6_remember 26 = .ok (.iaload, 1) := by decide +kernel
theorem dX6_remember_27 : decode cX6_remember 27 = .ok (.iastore, 1) := by decide +kernel
theorem dX6_remember_28 : decode cX6_remember 28 = .ok (.iinc 1 1, 3) := by decide +kernel
theorem dX6_remember_31 : decode cX6_remember 31 = .ok (.goto (-29), 3) := by decide +kernel
theorem dX6_remember_34 : decode cX6_remember 34 = .ok (.aload_n 0, 1) := by decide +kernel
theorem dX6_remember_35 : decode cX6_remember 35 = .ok (.aload_n 0, 1) := by decide +kernel
theorem dX6_remember_36 : decode cX6_remember 36 = .ok (.getfield 51, 3) := by decide +kernel
theorem dX6_remember_39 : decode cX6_remember 39 = .ok (.iconst 1, 1) := by decide +kernel
theorem dX6_remember_40 : decode cX6_remember 40 = .ok (.iadd, 1) := by decide +kernel
theorem dX6_remember_41 : decode cX6_remember 41 = .ok (.bipush 10, 2) := by decide +kernel
theorem dX6_remember_43 : decode cX6_remember 43 = .ok (.irem, 1) := by decide +kernel
theorem dX6_remember_44 : decode cX6_remember 44 = .ok (.putfield 51, 3) := by decide +kernel
theorem dX6_remember_47 : decode cX6_remember 47 = .ok (.aload_n 0, 1) := by decide +kernel
theorem dX6_remember_48 : decode cX6_remember 48 = .ok (.dup, 1) := by decide +kernel
theorem dX6_remember_49 : decode cX6_remember 49 = .ok (.getfield 55, 3) := by decide +kernel
theorem dX6_remember_52 : decode cX6_remember 52 = .ok (.aload_n 0, 1) := by decide +kernel
theorem dX6_remember_53 : decode cX6_remember 53 = .ok (.getfield 55, 3) := by decide +kernel
theorem dX6_remember_56 : decode cX6_remember 56 = .ok (.bipush 10, 2) := by decide +kernel
theorem dX6_remember_58 : decode cX6_remember 58 = .ok (.if_icmp .ge 7, 3) := by decide +kernel
theorem dX6_remember_61 : decode cX6_remember 61 = .ok (.iconst 1, 1) := by decide +kernel
theorem dX6_remember_62 : decode cX6_remember 62 = .ok (.goto 4, 3) := by decide +kernel
theorem dX6_remember_65 : decode cX6_remember 65 = .ok (.iconst 0, 1) := by decide +kernel
theorem dX6_remember_66 : decode cX6_remember 66 = .ok (.iadd, 1) := by decide +kernel
theorem dX6_remember_67 : decode cX6_remember 67 = .ok (.putfield 55, 3) := by decide +kernel
theorem dX6_remember_70 : decode cX6_remember 70 = .ok (.aload_n 0, 1) := by decide +kernel
theorem dX6_remember_71 : decode cX6_remember 71 = .ok (.iconst 0, 1) := by decide +kernel
theorem dX6_remember_72 : decode cX6_remember 72 = .ok (.putfield 58, 3) := by decide +kernel
theorem dX6_remember_75 : decode cX6_remember 75 = .ok (.return_, 1) := by decide +kernel
theorem dX6_comes_0 : decode cX6_comes 0 = .ok (.aload_n 0, 1) := by decide +kernel
theorem dX6_comes_1 : decode cX6_comes 1 = .ok (.getfield 7, 3) := by decide +kernel
theorem dX6_comes_4 : decode cX6_comes 4 = .ok (.bipush 6, 2) := by decide +kernel
theorem dX6_comes_6 : decode cX6_comes 6 = .ok (.aload_n 0, 1) := by decide +kernel
theorem dX6_comes_7 : decode cX6_comes 7 = .ok (.getfield 7, 3) := by decide +kernel
theorem dX6_comes_10 : decode cX6_comes 10 = .ok (.iconst 0, 1) := by decide +kernel
theorem dX6_comes_11 : decode cX6_comes 11 = .ok (.iaload, 1) := by decide +kernel
theorem dX6_comes_12 : decode cX6_comes 12 = .ok (.iadd, 1) := by decide +kernel
theorem dX6_comes_13 : decode cX6_comes 13 = .ok (.iload_n 1, 1) := by decide +kernel
theorem dX6_comes_14 : decode cX6_comes 14 = .ok (.iastore, 1) := by decide +kernel
theorem dX6_comes_15 : decode cX6_comes 15 = .ok (.aload_n 0, 1) := by decide +kernel
theorem dX6_comes_16 : decode cX6_comes 16 = .ok (.getfield 7, 3) := by decide +kernel
theorem dX6_comes_19 : decode cX6_comes 19 = .ok (.iconst 0, 1) := by decide +kernel
theorem dX6_comes_20 : decode cX6_comes 20 = .ok (.dup2, 1) := by decide +kernel
theorem dX6_comes_21 : decode cX6_comes 21 = .ok (.iaload, 1) := by decide +kernel
theorem dX6_comes_22 : decode cX6_comes 22 = .ok (.iconst 1, 1) := by decide +kernel
theorem dX6_comes_23 : decode cX6_comes 23 = .ok (.iadd, 1) := by decide +kernel
theorem dX6_comes_24 : decode cX6_comes 24 = .ok (.iastore, 1) := by decide +kernel
theorem dX6_comes_25 : decode cX6_comes 25 = .ok (.return_, 1) := by decide +kernel
theorem dX6_hears_0 : decode cX6_hears 0 = .ok (.iload_n 1, 1) := by decide +kernel
theorem dX6_hears_1 : decode cX6_hears 1 = .ok (.iconst 0, 1) := by decide +kernel
theorem dX6_hears_2 : decode cX6_hears 2 = .ok (.bipush 30, 2) := by decide +kernel
theorem dX6_hears_4 : decode cX6_hears 4 = .ok (.invokestatic 47, 3) := by decide +kernel
theorem dX6_hears_7 : decode cX6_hears 7 = .ok (.ifCond .ne 5, 3) := by decide +kernel
theorem dX6_hears_10 : decode cX6_hears 10 = .ok (.iconst (-1), 1) := by decide +kernel
theorem dX6_hears_11 : decode cX6_hears 11 = .ok (.ireturn, 1) := by decide +kernel
theorem dX6_hears_12 : decode cX6_hears 12 = .ok (.aload_n 0, 1) := by decide +kernel
theorem dX6_hears_13 : decode cX6_hears 13 = .ok (.getfield 7, 3) := by decide +kernel
theorem dX6_hears_16 : decode cX6_hears 16 = .ok (.iconst 0, 1) := by decide +kernel
theorem dX6_hears_17 : decode cX6_hears 17 = .ok (.iaload, 1) := by decide +kernel
theorem dX6_hears_18 : decode cX6_hears 18 = .ok (.bipush 120, 2) := by decide +kernel
theorem dX6_hears_20 : decode cX6_hears 20 = .ok (.if_icmp .ne 6, 3) := by decide +kernel
theorem dX6_hears_23 : decode cX6_hears 23 = .ok (.bipush (-3), 2) := by decide +kernel
theorem dX6_hears_25 : decode cX6_hears 25 = .ok (.ireturn, 1) := by decide +kernel
theorem dX6_hears_26 : decode cX6_hears 26 = .ok (.aload_n 0, 1) := by decide +kernel
theorem dX6_hears_27 : decode cX6_hears 27 = .ok (.invokevirtual 62, 3) := by decide +kernel
theorem dX6_hears_30 : decode cX6_hears 30 = .ok (.aload_n 0, 1) := by decide +kernel
theorem dX6_hears_31 : decode cX6_hears 31 = .ok (.iload_n 1, 1) := by decide +kernel
theorem dX6_hears_32 : decode cX6_hears 32 = .ok (.ifCond .ne 7, 3) := by decide +kernel
theorem dX6_hears_35 : decode cX6_hears 35 = .ok (.iconst 3, 1) := by decide +kernel
theorem dX6_hears_36 : decode cX6_hears 36 = .ok (.goto 34, 3) := by decide +kernel
theorem dX6_hears_39 : decode cX6_hears 39 = .ok (.iload_n 1, 1) := by decide +kernel
theorem dX6_hears_40 : decode cX6_hears 40 = .ok (.bipush 8, 2) := by decide +kernel
theorem dX6_hears_42 : decode cX6_hears 42 = .ok (.bipush 12, 2) := by decide +kernel
theorem dX6_hears_44 : decode cX6_hears 44 = .ok (.invokestatic 47, 3) := by decide +kernel
theorem dX6_hears_47 : decode cX6_hears 47 = .ok (.ifCond .eq 7, 3) := by decide +kernel
theorem dX6_hears_50 : decode cX6_hears 50 = .ok (.iconst 0, 1) := by decide +kernel
theorem dX6_hears_51 : decode cX6_hears 51 = .ok (.goto 19, 3) := by decide +kernel
theorem dX6_hears_54 : decode cX6_hears 54 = .ok (.iload_n 1, 1) := by decide +kernel
theorem dX6_hears_55 : decode cX6_hears 55 = .ok (.bipush 18, 2) := by decide +kernel
theorem dX6_hears_57 : decode cX6_hears 57 = .ok (.bipush 22, 2) := by decide +kernel
theorem dX6_hears_59 : decode cX6_hears 59 = .ok (.invokestatic 47, 3) := by decide +kernel
theorem dX6_hears_62 : decode cX6_hears 62 = .ok (.ifCond .eq 7, 3) := by decide +kernel
theorem dX6_hears_65 : decode cX6_hears 65 = .ok (.iconst 1, 1) := by decide +kernel
theorem dX6_hears_66 : decode cX6_hears 66 = .ok (.goto 4, 3) := by decide +kernel
theorem dX6_hears_69 : decode cX6_hears 69 = .ok (.iconst 2, 1) := by decide +kernel
theorem dX6_hears_70 : decode cX6_hears 70 = .ok (.invokevirtual 65, 3) := by decide +kernel
theorem dX6_hears_73 : decode cX6_hears 73 = .ok (.aload_n 0, 1) := by decide +kernel
theorem dX6_hears_74 : decode cX6_hears 74 = .ok (.getfield 7, 3) := by decide +kernel
theorem dX6_hears_77 : decode cX6_hears 77 = .ok (.iconst 0, 1) := by decide +kernel
theorem dX6_hears_78 : decode cX6_hears 78 = .ok (.iaload, 1) := by decide +kernel
theorem dX6_hears_79 : decode cX6_hears 79 = .ok (.ireturn, 1) := by decide +kernel
theorem dX6_frames_0 : decode cX6_frames 0 = .ok (.iload_n 1, 1) := by decide +kernel
theorem dX6_frames_1 : decode cX6_frames 1 = .ok (.iconst 0, 1) := by decide +kernel
theorem dX6_frames_2 : decode cX6_frames 2 = .ok (.ldc 69, 2) := by decide +kernel
theorem dX6_frames_4 : decode cX6_frames 4 = .ok (.invokestatic 47, 3) := by decide +kernel
theorem dX6_frames_7 : decode cX6_frames 7 = .ok (.ifCond .eq 13, 3) := by decide +kernel
theorem dX6_frames_10 : decode cX6_frames 10 = .ok (.iload_n 2, 1) := by decide +kernel
theorem dX6_frames_11 : decode cX6_frames 11 = .ok (.iconst 0, 1) := by decide +kernel
theorem dX6_frames_12 : decode cX6_frames 12 = .ok (.ldc 69, 2) := by decide +kernel
theorem dX6_frames_14 : decode cX6_frames 14 = .ok (.invokestatic 47, 3) := by decide +kernel
theorem dX6_frames_17 : decode cX6_frames 17 = .ok (.ifCond .ne 5, 3) := by decide +kernel
theorem dX6_frames_20 : decode cX6_frames 20 = .ok (.iconst (-1), 1) := by decide +kernel
theorem dX6_frames_21 : decode cX6_frames 21 = .ok (.ireturn, 1) := by decide +kernel
theorem dX6_frames_22 : decode cX6_frames 22 = .ok (.aload_n 0, 1) := by decide +kernel
theorem dX6_frames_23 : decode cX6_frames 23 = .ok (.getfield 7, 3) := by decide +kernel
theorem dX6_frames_26 : decode cX6_frames 26 = .ok (.iconst 0, 1) := by decide +kernel
theorem dX6_frames_27 : decode cX6_frames 27 = .ok (.iaload, 1) := by decide +kernel
theorem dX6_frames_28 : decode cX6_frames 28 = .ok (.bipush 19, 2) := by decide +kernel
theorem dX6_frames_30 : decode cX6_frames 30 = .ok (.iadd, 1) := by decide +kernel
theorem dX6_frames_31 : decode cX6_frames 31 = .ok (.iconst 1, 1) := by decide +kernel
theorem dX6_frames_32 : decode cX6_frames 32 = .ok (.iadd, 1) := by decide +kernel
theorem dX6_frames_33 : decode cX6_frames 33 = .ok (.bipush 120, 2) := by decide +kernel
theorem dX6_frames_35 : decode cX6_frames 35 = .ok (.if_icmp .le 6, 3) := by decide +kernel
theorem dX6_frames_38 : decode cX6_frames 38 = .ok (.bipush (-3), 2) := by decide +kernel
theorem dX6_frames_40 : decode cX6_frames 40 = .ok (.ireturn, 1) := by decide +kernel
theorem dX6_frames_41 : decode cX6_frames 41 = .ok (.aload_n 0, 1) := by decide +kernel
theorem dX6_frames_42 : decode cX6_frames 42 = .ok (.invokevirtual 62, 3) := by decide +kernel
theorem dX6_frames_45 : decode cX6_frames 45 = .ok (.iconst 0, 1) := by decide +kernel
theorem dX6_frames_46 : decode cX6_frames 46 = .ok (.istore_n 3, 1) := by decide +kernel
theorem dX6_frames_47 : decode cX6_frames 47 = .ok (.iload_n 3, 1) := by decide +kernel
theorem dX6_frames_48 : decode cX6_frames 48 = .ok (.bipush 19, 2) := by decide +kernel
theorem dX6_frames_50 : decode cX6_frames 50 = .ok (.if_icmp .ge 38, 3) := by decide +kernel
theorem dX6_frames_53 : decode cX6_frames 53 = .ok (.aload_n 0, 1) := by decide +kernel
theorem dX6_frames_54 : decode cX6_frames 54 = .ok (.iload_n 2, 1) := by decide +kernel
theorem dX6_frames_55 : decode cX6_frames 55 = .ok (.iload_n 3, 1) := by decide +kernel
theorem dX6_frames_56 : decode cX6_frames 56 = .ok (.invokestatic 32, 3) := by decide +kernel
theorem dX6_frames_59 : decode cX6_frames 59 = .ok (.ifCond .eq 7, 3) := by decide +kernel
theorem dX6_frames_62 : decode cX6_frames 62 = .ok (.iconst 2, 1) := by decide +kernel
theorem dX6_frames_63 : decode cX6_frames 63 = .ok (.goto 16, 3) := by decide +kernel
theorem dX6_frames_66 : decode cX6_frames 66 = .ok (.iload_n 1, 1) := by decide +kernel
theorem dX6_frames_67 : decode cX6_frames 67 = .ok (.iload_n 3, 1) := by decide +kernel
theorem dX6_frames_68 : decode cX6_frames 68 = .ok (.invokestatic 32, 3) := by decide +kernel
theorem dX6_frames_71 : decode cX6_frames 71 = .ok (.ifCond .eq 7, 3) := by decide +kernel
theorem dX6_frames_74 : decode cX6_frames 74 = .ok (.iconst 1, 1) := by decide +kernel
theorem dX6_frames_75 : decode cX6_frames 75 = .ok (.goto 4, 3) := by decide +kernel
theorem dX6_frames_78 : decode cX6_frames 78 = .ok (.iconst 0, 1) := by decide +kernel
theorem dX6_frames_79 : decode cX6_frames 79 = .ok (.invokevirtual 65, 3) := by decide +kernel
theorem dX6_frames_82 : decode cX6_frames 82 = .ok (.iinc 3 1, 3) := by decide +kernel
theorem dX6_frames_85 : decode cX6_frames 85 = .ok (.goto (-38), 3) := by decide +kernel
theorem dX6_frames_88 : decode cX6_frames 88 = .ok (.aload_n 0, 1) := by decide +kernel
theorem dX6_frames_89 : decode cX6_frames 89 = .ok (.iconst 3, 1) := by decide +kernel
theorem dX6_frames_90 : decode cX6_frames 90 = .ok (.invokevirtual 65, 3) := by decide +kernel
theorem dX6_frames_93 : decode cX6_frames 93 = .ok (.aload_n 0, 1) := by decide +kernel
theorem dX6_frames_94 : decode cX6_frames 94 = .ok (.getfield 7, 3) := by decide +kernel
theorem dX6_frames_97 : decode cX6_frames 97 = .ok (.iconst 0, 1) := by decide +kernel
theorem dX6_frames_98 : decode cX6_frames 98 = .ok (.iaload, 1) := by decide +kernel
theorem dX6_frames_99 : decode cX6_frames 99 = .ok (.ireturn, 1) := by decide +kernel
theorem dX6_loses_0 : decode cX6_loses 0 = .ok (.iload_n 1, 1) := by decide +kernel
theorem dX6_loses_1 : decode cX6_loses 1 = .ok (.iconst 1, 1) := by decide +kernel
theorem dX6_loses_2 : decode cX6_loses 2 = .ok (.aload_n 0, 1) := by decide +kernel
theorem dX6_loses_3 : decode cX6_loses 3 = .ok (.getfield 7, 3) := by decide +kernel
theorem dX6_loses_6 : decode cX6_loses 6 = .ok (.iconst 0, 1) := by decide +kernel
theorem dX6_loses_7 : decode cX6_loses 7 = .ok (.iaload, 1) := by decide +kernel
theorem dX6_loses_8 : decode cX6_loses 8 = .ok (.invokestatic 47, 3) := by decide +kernel
theorem dX6_loses_11 : decode cX6_loses 11 = .ok (.ifCond .ne 5, 3) := by decide +kernel
theorem dX6_loses_14 : decode cX6_loses 14 = .ok (.iconst (-1), 1) := by decide +kernel
theorem dX6_loses_15 : decode cX6_loses 15 = .ok (.ireturn, 1) := by decide +kernel
theorem dX6_loses_16 : decode cX6_loses 16 = .ok (.aload_n 0, 1) := by decide +kernel
theorem dX6_loses_17 : decode cX6_loses 17 = .ok (.invokevirtual 62, 3) := by decide +kernel
theorem dX6_loses_20 : decode cX6_loses 20 = .ok (.aload_n 0, 1) := by decide +kernel
theorem dX6_loses_21 : decode cX6_loses 21 = .ok (.getfield 7, 3) := by decide +kernel
theorem dX6_loses_24 : decode cX6_loses 24 = .ok (.iconst 0, 1) := by decide +kernel
theorem dX6_loses_25 : decode cX6_loses 25 = .ok (.dup2, 1) := by decide +kernel
theorem dX6_loses_26 : decode cX6_loses 26 = .ok (.iaload, 1) := by decide +kernel
theorem dX6_loses_27 : decode cX6_loses 27 = .ok (.iload_n 1, 1) := by decide +kernel
theorem dX6_loses_28 : decode cX6_loses 28 = .ok (.isub, 1) := by decide +kernel
theorem dX6_loses_29 : decode cX6_loses 29 = .ok (.iastore, 1) := by decide +kernel
theorem dX6_loses_30 : decode cX6_loses 30 = .ok (.iconst 0, 1) := by decide +kernel
theorem dX6_loses_31 : decode cX6_loses 31 = .ok (.istore_n 2, 1) := by decide +kernel
theorem dX6_loses_32 : decode cX6_loses 32 = .ok (.iload_n 2, 1) := by decide +kernel
theorem dX6_loses_33 : decode cX6_loses 33 = .ok (.aload_n 0, 1) := by decide +kernel
theorem dX6_loses_34 : decode cX6_loses 34 = .ok (.getfield 7, 3) := by decide +kernel
theorem dX6_loses_37 : decode cX6_loses 37 = .ok (.iconst 0, 1) := by decide +kernel
theorem dX6_loses_38 : decode cX6_loses 38 = .ok (.iaload, 1) := by decide +kernel
theorem dX6_loses_39 : decode cX6_loses 39 = .ok (.if_icmp .ge 29, 3) := by decide +kernel
theorem dX6_loses_42 : decode cX6_loses 42 = .ok (.aload_n 0, 1) := by decide +kernel
theorem dX6_loses_43 : decode cX6_loses 43 = .ok (.getfield 7, 3) := by decide +kernel
theorem dX6_loses_46 : decode cX6_loses 46 = .ok (.bipush 6, 2) := by decide +kernel
theorem dX6_loses_48 : decode cX6_loses 48 = .ok (.iload_n 2, 1) := by decide +kernel
theorem dX6_loses_49 : decode cX6_loses 49 = .ok (.iadd, 1) := by decide +kernel
theorem dX6_loses_50 : decode cX6_loses 50 = .ok (.aload_n 0, 1) := by decide +kernel
theorem dX6_loses_51 : decode cX6_loses 51 = .ok (.getfield 7, 3) := by decide +kernel
theorem dX6_loses_54 : decode cX6_loses 54 = .ok (.bipush 6, 2) := by decide +kernel
theorem dX6_loses_56 : decode cX6_loses 56 = .ok (.iload_n 2, 1) := by decide +kernel
theorem dX6_loses_57 : decode cX6_loses 57 = .ok (.iadd, 1) := by decide +kernel
theorem dX6_loses_58 : decode cX6_loses 58 = .ok (.iload_n 1, 1) := by decide +kernel
theorem dX6_loses_59 : decode cX6_loses 59 = .ok (.iadd, 1) := by decide +kernel
theorem dX6_loses_60 : decode cX6_loses 60 = .ok (.iaload, 1) := by decide +kernel
theorem dX6_loses_61 : decode cX6_loses 61 = .ok (.iastore, 1) := by decide +kernel
theorem dX6_loses_62 : decode cX6_loses 62 = .ok (.iinc 2 1, 3) := by decide +kernel
theorem dX6_loses_65 : decode cX6_loses 65 = .ok (.goto (-33), 3) := by decide +kernel
theorem dX6_loses_68 : decode cX6_loses 68 = .ok (.aload_n 0, 1) := by decide +kernel
theorem dX6_loses_69 : decode cX6_loses 69 = .ok (.getfield 7, 3) := by decide +kernel
theorem dX6_loses_72 : decode cX6_loses 72 = .ok (.iconst 0, 1) := by decide +kernel
theorem dX6_loses_73 : decode cX6_loses 73 = .ok (.iaload, 1) := by decide +kernel
theorem dX6_loses_74 : decode cX6_loses 74 = .ok (.ireturn, 1) := by decide +kernel
theorem dX6_becomes_0 : decode cX6_becomes 0 = .ok (.aload_n 0, 1) := by decide +kernel
theorem dX6_becomes_1 : decode cX6_becomes 1 = .ok (.getfield 7, 3) := by decide +kernel
theorem dX6_becomes_4 : decode cX6_becomes 4 = .ok (.iload_n 1, 1) := by decide +kernel
theorem dX6_becomes_5 : decode cX6_becomes 5 = .ok (.iaload, 1) := by decide +kernel
theorem dX6_becomes_6 : decode cX6_becomes 6 = .ok (.istore_n 3, 1) := by decide +kernel
theorem dX6_becomes_7 : decode cX6_becomes 7 = .ok (.aload_n 0, 1) := by decide +kernel
theorem dX6_becomes_8 : decode cX6_becomes 8 = .ok (.invokevirtual 62, 3) := by decide +kernel
theorem dX6_becomes_11 : decode cX6_becomes 11 = .ok (.aload_n 0, 1) := by decide +kernel
theorem dX6_becomes_12 : decode cX6_becomes 12 = .ok (.getfield 7, 3) := by decide +kernel
theorem dX6_becomes_15 : decode cX6_becomes 15 = .ok (.iload_n 1, 1) := by decide +kernel
theorem dX6_becomes_16 : decode cX6_becomes 16 = .ok (.iload_n 2, 1) := by decide +kernel
theorem dX6_becomes_17 : decode cX6_becomes 17 = .ok (.iastore, 1) := by decide +kernel
theorem dX6_becomes_18 : decode cX6_becomes 18 = .ok (.iload_n 3, 1) := by decide +kernel
theorem dX6_becomes_19 : decode cX6_becomes 19 = .ok (.ireturn, 1) := by decide +kernel
theorem dX6_needs_0 : decode cX6_needs 0 = .ok (.iload_n 1, 1) := by decide +kernel
theorem dX6_needs_1 : decode cX6_needs 1 = .ok (.iconst 1, 1) := by decide +kernel
theorem dX6_needs_2 : decode cX6_needs 2 = .ok (.bipush 9, 2) := by decide +kernel
theorem dX6_needs_4 : decode cX6_needs 4 = .ok (.invokestatic 47, 3) := by decide +kernel
theorem dX6_needs_7 : decode cX6_needs 7 = .ok (.ifCond .eq 12, 3) := by decide +kernel
theorem dX6_needs_10 : decode cX6_needs 10 = .ok (.aload_n 0, 1) := by decide +kernel
theorem dX6_needs_11 : decode cX6_needs 11 = .ok (.iconst 1, 1) := by decide +kernel
theorem dX6_needs_12 : decode cX6_needs 12 = .ok (.iload_n 1, 1) := by decide +kernel
theorem dX6_needs_13 : decode cX6_needs 13 = .ok (.invokevirtual 70, 3) := by decide +kernel
theorem dX6_needs_16 : decode cX6_needs 16 = .ok (.goto 4, 3) := by decide +kernel
theorem dX6_needs_19 : decode cX6_needs 19 = .ok (.iconst (-1), 1) := by decide +kernel
theorem dX6_needs_20 : decode cX6_needs 20 = .ok (.ireturn, 1) := by decide +kernel
theorem dX6_drifts_0 : decode cX6_drifts 0 = .ok (.iload_n 1, 1) := by decide +kernel
theorem dX6_drifts_1 : decode cX6_drifts 1 = .ok (.iconst 0, 1) := by decide +kernel
theorem dX6_drifts_2 : decode cX6_drifts 2 = .ok (.bipush 50, 2) := by decide +kernel
theorem dX6_drifts_4 : decode cX6_drifts 4 = .ok (.invokestatic 47, 3) := by decide +kernel
theorem dX6_drifts_7 : decode cX6_drifts 7 = .ok (.ifCond .eq 12, 3) := by decide +kernel
theorem dX6_drifts_10 : decode cX6_drifts 10 = .ok (.aload_n 0, 1) := by decide +kernel
theorem dX6_drifts_11 : decode cX6_drifts 11 = .ok (.iconst 2, 1) := by decide +kernel
theorem dX6_drifts_12 : decode cX6_drifts 12 = .ok (.iload_n 1, 1) := by decide +kernel
theorem dX6_drifts_13 : decode cX6_drifts 13 = .ok (.invokevirtual 70, 3) := by decide +kernel
theorem dX6_drifts_16 : decode cX6_drifts 16 = .ok (.goto 4, 3) := by decide +kernel
theorem dX6_drifts_19 : decode cX6_drifts 19 = .ok (.iconst (-1), 1) := by decide +kernel
theorem dX6_drifts_20 : decode cX6_drifts 20 = .ok (.ireturn, 1) := by decide +kernel
theorem dX6_symbolAt_0 : decode cX6_symbolAt 0 = .ok (.aload_n 0, 1) := by decide +kernel
theorem dX6_symbolAt_1 : decode cX6_symbolAt 1 = .ok (.getfield 7, 3) := by decide +kernel
theorem dX6_symbolAt_4 : decode cX6_symbolAt 4 = .ok (.bipush 6, 2) := by decide +kernel
theorem dX6_symbolAt_6 : decode cX6_symbolAt 6 = .ok (.iload_n 1, 1) := by decide +kernel
theorem dX6_symbolAt_7 : decode cX6_symbolAt 7 = .ok (.iadd, 1) := by decide +kernel
theorem dX6_symbolAt_8 : decode cX6_symbolAt 8 = .ok (.iaload, 1) := by decide +kernel
theorem dX6_symbolAt_9 : decode cX6_symbolAt 9 = .ok (.ireturn, 1) := by decide +kernel
theorem dX6_layPhase_0 : decode cX6_layPhase 0 = .ok (.iconst (-1), 1) := by decide +kernel
theorem dX6_layPhase_1 : decode cX6_layPhase 1 = .ok (.istore_n 1, 1) := by decide +kernel
theorem dX6_layPhase_2 : decode cX6_layPhase 2 = .ok (.iconst 0, 1) := by decide +kernel
theorem dX6_layPhase_3 : decode cX6_layPhase 3 = .ok (.istore_n 2, 1) := by decide +kernel
theorem dX6_layPhase_4 : decode cX6_layPhase 4 = .ok (.iload_n 2, 1) := by decide +kernel
theorem dX6_layPhase_5 : decode cX6_layPhase 5 = .ok (.bipush 20, 2) := by decide +kernel
theorem dX6_layPhase_7 : decode cX6_layPhase 7 = .ok (.if_icmp .ge 77, 3) := by decide +kernel
theorem dX6_layPhase_10 : decode cX6_layPhase 10 = .ok (.iconst 0, 1) := by decide +kernel
theorem dX6_layPhase_11 : decode cX6_layPhase 11 = .ok (.istore_n 3, 1) := by decide +kernel
theorem dX6_layPhase_12 : decode cX6_layPhase 12 = .ok (.iload_n 2, 1) := by decide +kernel
theorem dX6_layPhase_13 : decode cX6_layPhase 13 = .ok (.istore 4, 2) := by decide +kernel
theorem dX6_layPhase_15 : decode cX6_layPhase 15 = .ok (.iload 4, 2) := by decide +kernel
theorem dX6_layPhase_17 : decode cX6_layPhase 17 = .ok (.aload_n 0, 1) := by decide +kernel
theorem dX6_layPhase_18 : decode cX6_layPhase 18 = .ok (.getfield 7, 3) := by decide +kernel
theorem dX6_layPhase_21 : decode cX6_layPhase 21 = .ok (.iconst 0, 1) := by decide +kernel
theorem dX6_layPhase_22 : decode cX6_layPhase 22 = .ok (.iaload, 1) := by decide +kernel
theorem dX6_layPhase_23 : decode cX6_layPhase 23 = .ok (.if_icmp .ge 27, 3) := by decide +kernel
theorem dX6_layPhase_26 : decode cX6_layPhase 26 = .ok (.iload_n 3, 1) := by decide +kernel
theorem dX6_layPhase_27 : decode cX6_layPhase 27 = .ok (.aload_n 0, 1) := by decide +kernel
theorem dX6_layPhase_28 : decode cX6_layPhase 28 = .ok (.iload 4, 2) := by decide +kernel
theorem dX6_layPhase_30 : decode cX6_layPhase 30 = .ok (.invokevirtual 73, 3) := by decide +kernel
theorem dX6_layPhase_33 : decode cX6_layPhase 33 = .ok (.iconst 3, 1) := by decide +kernel
theorem dX6_layPhase_34 : decode cX6_layPhase 34 = .ok (.if_icmp .ne 7, 3) := by decide +kernel
theorem dX6_layPhase_37 : decode cX6_layPhase 37 = .ok (.iconst 1, 1) := by decide +kernel
theorem dX6_layPhase_38 : decode cX6_layPhase 38 = .ok (.goto 4, 3) := by decide +kernel
theorem dX6_layPhase_41 : decode cX6_layPhase 41 = .ok (.iconst 0, 1) := by decide +kernel
theorem dX6_layPhase_42 : decode cX6_layPhase 42 = .ok (.iadd, 1) := by decide +kernel
theorem dX6_layPhase_43 : decode cX6_layPhase 43 = .ok (.istore_n 3, 1) := by decide +kernel
theorem dX6_layPhase_44 : decode cX6_layPhase 44 = .ok (.iinc 4 20, 3) := by decide +kernel
theorem dX6_layPhase_47 : decode cX6_layPhase 47 = .ok (.goto (-32), 3) := by decide +kernel
theorem dX6_layPhase_50 : decode cX6_layPhase 50 = .ok (.aload_n 0, 1) := by decide +kernel
theorem dX6_layPhase_51 : decode cX6_layPhase 51 = .ok (.iload_n 3, 1) := by decide +kernel
theorem dX6_layPhase_52 : decode cX6_layPhase 52 = .ok (.iload_n 1, 1) := by decide +kernel
theorem dX6_layPhase_53 : decode cX6_layPhase 53 = .ok (.if_icmp .le 7, 3) := by decide +kernel
theorem dX6_layPhase_56 : decode cX6_layPhase 56 = .ok (.iload_n 2, 1) := by decide +kernel
theorem dX6_layPhase_57 : decode cX6_layPhase 57 = .ok (.goto 7, 3) := by decide +kernel
theorem dX6_layPhase_60 : decode cX6_layPhase 60 = .ok (.aload_n 0, 1) := by decide +kernel
theorem dX6_layPhase_61 : decode cX6_layPhase 61 = .ok (.getfield 76, 3) := by decide +kernel
theorem dX6_layPhase_64 : decode cX6_layPhase 64 = .ok (.putfield 76, 3) := by decide +kernel
theorem dX6_layPhase_67 : decode cX6_layPhase 67 = .ok (.iload_n 3, 1) := by decide +kernel
theorem dX6_layPhase_68 : decode cX6_layPhase 68 = .ok (.iload_n 1, 1) := by decide +kernel
theorem dX6_layPhase_69 : decode cX6_layPhase 69 = .ok (.if_icmp .le 7, 3) := by decide +kernel
theorem dX6_layPhase_72 : decode cX6_layPhase 72 = .ok (.iload_n 3, 1) := by decide +kernel
theorem dX6_layPhase_73 : decode cX6_layPhase 73 = .ok (.goto 4, 3) := by decide +kernel
theorem dX6_layPhase_76 : decode cX6_layPhase 76 = .ok (.iload_n 1, 1) := by decide +kernel
theorem dX6_layPhase_77 : decode cX6_layPhase 77 = .ok (.istore_n 1, 1) := by decide +kernel
theorem dX6_layPhase_78 : decode cX6_layPhase 78 = .ok (.iinc 2 1, 3) := by decide +kernel
theorem dX6_layPhase_81 : decode cX6_layPhase 81 = .ok (.goto (-77), 3) := by decide +kernel
theorem dX6_layPhase_84 : decode cX6_layPhase 84 = .ok (.return_, 1) := by decide +kernel
theorem dX6_firstOf_0 : decode cX6_firstOf 0 = .ok (.aload_n 0, 1) := by decide +kernel
theorem dX6_firstOf_1 : decode cX6_firstOf 1 = .ok (.getfield 76, 3) := by decide +kernel
theorem dX6_firstOf_4 : decode cX6_firstOf 4 = .ok (.iconst 1, 1) := by decide +kernel
theorem dX6_firstOf_5 : decode cX6_firstOf 5 = .ok (.iadd, 1) := by decide +kernel
theorem dX6_firstOf_6 : decode cX6_firstOf 6 = .ok (.bipush 20, 2) := by decide +kernel
theorem dX6_firstOf_8 : decode cX6_firstOf 8 = .ok (.irem, 1) := by decide +kernel
theorem dX6_firstOf_9 : decode cX6_firstOf 9 = .ok (.bipush 20, 2) := by decide +kernel
theorem dX6_firstOf_11 : decode cX6_firstOf 11 = .ok (.iload_n 1, 1) := by decide +kernel
theorem dX6_firstOf_12 : decode cX6_firstOf 12 = .ok (.imul, 1) := by decide +kernel
theorem dX6_firstOf_13 : decode cX6_firstOf 13 = .ok (.iadd, 1) := by decide +kernel
theorem dX6_firstOf_14 : decode cX6_firstOf 14 = .ok (.ireturn, 1) := by decide +kernel
theorem dX6_layFrames_0 : decode cX6_layFrames 0 = .ok (.aload_n 0, 1) := by decide +kernel
theorem dX6_layFrames_1 : decode cX6_layFrames 1 = .ok (.iconst 0, 1) := by decide +kernel
theorem dX6_layFrames_2 : decode cX6_layFrames 2 = .ok (.putfield 79, 3) := by decide +kernel
theorem dX6_layFrames_5 : decode cX6_layFrames 5 = .ok (.aload_n 0, 1) := by decide +kernel
theorem dX6_layFrames_6 : decode cX6_layFrames 6 = .ok (.aload_n 0, 1) := by decide +kernel
theorem dX6_layFrames_7 : decode cX6_layFrames 7 = .ok (.getfield 79, 3) := by decide +kernel
theorem dX6_layFrames_10 : decode cX6_layFrames 10 = .ok (.invokevirtual 82, 3) := by decide +kernel
theorem dX6_layFrames_13 : decode cX6_layFrames 13 = .ok (.bipush 19, 2) := by decide +kernel
theorem dX6_layFrames_15 : decode cX6_layFrames 15 = .ok (.iadd, 1) := by decide +kernel
theorem dX6_layFrames_16 : decode cX6_layFrames 16 = .ok (.aload_n 0, 1) := by decide +kernel
theorem dX6_layFrames_17 : decode cX6_layFrames 17 = .ok (.getfield 7, 3) := by decide +kernel
theorem dX6_layFrames_20 : decode cX6_layFrames 20 = .ok (.iconst 0, 1) := by decide +kernel
theorem dX6_layFrames_21 : decode cX6_layFrames 21 = .ok (.iaload, 1) := by decide +kernel
theorem dX6_layFrames_22 : decode cX6_layFrames 22 = .ok (.if_icmp .gt 113, 3) := by decide +kernel
theorem dX6_layFrames_25 : decode cX6_layFrames 25 = .ok (.aload_n 0, 1) := by decide +kernel
theorem dX6_layFrames_26 : decode cX6_layFrames 26 = .ok (.getfield 23, 3) := by decide +kernel
theorem dX6_layFrames_29 : decode cX6_layFrames 29 = .ok (.aload_n 0, 1) := by decide +kernel
theorem dX6_layFrames_30 : decode cX6_layFrames 30 = .ok (.getfield 79, 3) := by decide +kernel
theorem dX6_layFrames_33 : decode cX6_layFrames 33 = .ok (.iconst 0, 1) := by decide +kernel
theorem dX6_layFrames_34 : decode cX6_layFrames 34 = .ok (.iastore, 1) := by decide +kernel
theorem dX6_layFrames_35 : decode cX6_layFrames 35 = .ok (.aload_n 0, 1) := by decide +kernel
theorem dX6_layFrames_36 : decode cX6_layFrames 36 = .ok (.getfield 26, 3) := by decide +kernel
theorem dX6_layFrames_39 : decode cX6_layFrames 39 = .ok (.aload_n 0, 1) := by decide +kernel
theorem dX6_layFrames_40 : decode cX6_layFrames 40 = .ok (.getfield 79, 3) := by decide +kernel
theorem dX6_layFrames_43 : decode cX6_layFrames 43 = .ok (.iconst 0, 1) := by decide +kernel
theorem dX6_layFrames_44 : decode cX6_layFrames 44 = .ok (.iastore, 1) := by decide +kernel
theorem dX6_layFrames_45 : decode cX6_layFrames 45 = .ok (.iconst 0, 1) := by decide +kernel
theorem dX6_layFrames_46 : decode cX6_layFrames 46 = .ok (.istore_n 1, 1) := by decide +kernel
theorem dX6_layFrames_47 : decode cX6_layFrames 47 = .ok (.iload_n 1, 1) := by decide +kernel
theorem dX6_layFrames_48 : decode cX6_layFrames 48 = .ok (.bipush 19, 2) := by decide +kernel
theorem dX6_layFrames_50 : decode cX6_layFrames 50 = .ok (.if_icmp .ge 72, 3) := by decide +kernel
theorem dX6_layFrames_53 : decode cX6_layFrames 53 = .ok (.aload_n 0, 1) := by decide +kernel
theorem dX6_layFrames_54 : decode cX6_layFrames 54 = .ok (.aload_n 0, 1) := by decide +kernel
theorem dX6_layFrames_55 : decode cX6_layFrames 55 = .ok (.aload_n 0, 1) := by decide +kernel
theorem dX6_layFrames_56 : decode cX6_layFrames 56 = .ok (.getfield 79, 3) := by decide +kernel
theorem dX6_layFrames_59 : decode cX6_layFrames 59 = .ok (.invokevirtual 82, 3) := by decide +kernel
theorem dX6_layFrames_62 : decode cX6_layFrames 62 = .ok (.iload_n 1, 1) := by decide +kernel
theorem dX6_layFrames_63 : decode cX6_layFrames 63 = .ok (.iadd, 1) := by decide +kernel
theorem dX6_layFrames_64 : decode cX6_layFrames 64 = .ok (.invokevirtual 73, 3) := by decide +kernel
theorem dX6_layFrames_67 : decode cX6_layFrames 67 = .ok (.istore_n 2, 1) := by decide +kernel
theorem dX6_layFrames_68 : decode cX6_layFrames 68 = .ok (.aload_n 0, 1) := by decide +kernel
theorem dX6_layFrames_69 : decode cX6_layFrames 69 = .ok (.getfield 23, 3) := by decide +kernel
theorem dX6_layFrames_72 : decode cX6_layFrames 72 = .ok (.aload_n 0, 1) := by decide +kernel
theorem dX6_layFrames_73 : decode cX6_layFrames 73 = .ok (.getfield 79, 3) := by decide +kernel
theorem dX6_layFrames_76 : decode cX6_layFrames 76 = .ok (.dup2, 1) := by decide +kernel
theorem dX6_layFrames_77 : decode cX6_layFrames 77 = .ok (.iaload, 1) := by decide +kernel
theorem dX6_layFrames_78 : decode cX6_layFrames 78 = .ok (.iload_n 2, 1) := by decide +kernel
theorem dX6_layFrames_79 : decode cX6_layFrames 79 = .ok (.iconst 2, 1) := by decide +kernel
theorem dX6_layFrames_80 : decode cX6_layFrames 80 = .ok (.if_icmp .ge 9, 3) := by decide +kernel
theorem dX6_layFrames_83 : decode cX6_layFrames 83 = .ok (.iconst 1, 1) := by decide +kernel
theorem dX6_layFrames_84 : decode cX6_layFrames 84 = .ok (.iload_n 1, 1) := by decide +kernel
theorem dX6_layFrames_85 : decode cX6_layFrames 85 = .ok (.ishl, 1) := by decide +kernel
theorem dX6_layFrames_86 : decode cX6_layFrames 86 = .ok (.goto 4, 3) := by decide +kernel
theorem dX6_layFrames_89 : decode cX6_layFrames 89 = .ok (.iconst 0, 1) := by decide +kernel
theorem dX6_layFrames_90 : decode cX6_layFrames 90 = .ok (.ior, 1) := by decide +kernel
theorem dX6_layFrames_91 : decode cX6_layFrames 91 = .ok (.iastore, 1) := by decide +kernel
theorem dX6_layFrames_92 : decode cX6_layFrames 92 = .ok (.aload_n 0, 1) := by decide +kernel
theorem dX6_layFrames_93 : decode cX6_layFrames 93 = .ok (.getfield 26, 3) := by decide +kernel
theorem dX6_layFrames_96 : decode cX6_layFrames 96 = .ok (.aload_n 0, 1) := by decide +kernel
theorem dX6_layFrames_97 : decode cX6_layFrames 97 = .ok (.getfield 79, 3) := by decide +kernel
theorem dX6_layFrames_100 : decode cX6_layFrames 100 = .ok (.dup2, 1) := by decide +kernel
theorem dX6_layFrames_101 : decode cX6_layFrames 101 = .ok (.iaload, 1) := by decide +kernel
theorem dX6_layFrames_102 : decode cX6_layFrames 102 = .ok (.iload_n 2, 1) := by decide +kernel
theorem dX6_layFrames_103 : decode cX6_layFrames 103 = .ok (.iconst 1, 1) := by decide +kernel
theorem dX6_layFrames_104 : decode cX6_layFrames 104 = .ok (.if_icmp .ne 9, 3) := by decide +kernel
theorem dX6_layFrames_107 : decode cX6_layFrames 107 = .ok (.iconst 1, 1) := by decide +kernel
theorem dX6_layFrames_108 : decode cX6_layFrames 108 = .ok (.iload_n 1, 1) := by decide +kernel
theorem dX6_layFrames_109 : decode cX6_layFrames 109 = .ok (.ishl, 1) := by decide +kernel
theorem dX6_layFrames_110 : decode cX6_layFrames 110 = .ok (.goto 4, 3) := by decide +kernel
theorem dX6_layFrames_113 : decode cX6_layFrames 113 = .ok (.iconst 0, 1) := by decide +kernel
theorem dX6_layFrames_114 : decode cX6_layFrames 114 = .ok (.ior, 1) := by decide +kernel
theorem dX6_layFrames_115 : decode cX6_layFrames 115 = .ok (.iastore, 1) := by decide +kernel
theorem dX6_layFrames_116 : decode cX6_layFrames 116 = .ok (.iinc 1 1, 3) := by decide +kernel
theorem dX6_layFrames_119 : decode cX6_layFrames 119 = .ok (.goto (-72), 3) := by decide +kernel
theorem dX6_layFrames_122 : decode cX6_layFrames 122 = .ok (.aload_n 0, 1) := by decide +kernel
theorem dX6_layFrames_123 : decode cX6_layFrames 123 = .ok (.dup, 1) := by decide +kernel
theorem dX6_layFrames_124 : decode cX6_layFrames 124 = .ok (.getfield 79, 3) := by decide +kernel
theorem dX6_layFrames_127 : decode cX6_layFrames 127 = .ok (.iconst 1, 1) := by decide +kernel
theorem dX6_layFrames_128 : decode cX6_layFrames 128 = .ok (.iadd, 1) := by decide +kernel
theorem dX6_layFrames_129 : decode cX6_layFrames 129 = .ok (.putfield 79, 3) := by decide +kernel
theorem dX6_layFrames_132 : decode cX6_layFrames 132 = .ok (.goto (-127), 3) := by decide +kernel
theorem dX6_layFrames_135 : decode cX6_layFrames 135 = .ok (.return_, 1) := by decide +kernel
theorem dX6_wrongOf_0 : decode cX6_wrongOf 0 = .ok (.iload_n 1, 1) := by decide +kernel
theorem dX6_wrongOf_1 : decode cX6_wrongOf 1 = .ok (.invokestatic 85, 3) := by decide +kernel
theorem dX6_wrongOf_4 : decode cX6_wrongOf 4 = .ok (.aload_n 0, 1) := by decide +kernel
theorem dX6_wrongOf_5 : decode cX6_wrongOf 5 = .ok (.getfield 26, 3) := by decide +kernel
theorem dX6_wrongOf_8 : decode cX6_wrongOf 8 = .ok (.iload_n 2, 1) := by decide +kernel
theorem dX6_wrongOf_9 : decode cX6_wrongOf 9 = .ok (.iaload, 1) := by decide +kernel
theorem dX6_wrongOf_10 : decode cX6_wrongOf 10 = .ok (.ixor, 1) := by decide +kernel
theorem dX6_wrongOf_11 : decode cX6_wrongOf 11 = .ok (.aload_n 0, 1) := by decide +kernel
theorem dX6_wrongOf_12 : decode cX6_wrongOf 12 = .ok (.getfield 23, 3) := by decide +kernel
theorem dX6_wrongOf_15 : decode cX6_wrongOf 15 = .ok (.iload_n 2, 1) := by decide +kernel
theorem dX6_wrongOf_16 : decode cX6_wrongOf 16 = .ok (.iaload, 1) := by decide +kernel
theorem dX6_wrongOf_17 : decode cX6_wrongOf 17 = .ok (.iand, 1) := by decide +kernel
theorem dX6_wrongOf_18 : decode cX6_wrongOf 18 = .ok (.ireturn, 1) := by decide +kernel
theorem dX6_missesOf_0 : decode cX6_missesOf 0 = .ok (.iconst 0, 1) := by decide +kernel
theorem dX6_missesOf_1 : decode cX6_missesOf 1 = .ok (.istore_n 2, 1) := by decide +kernel
theorem dX6_missesOf_2 : decode cX6_missesOf 2 = .ok (.iload_n 1, 1) := by decide +kernel
theorem dX6_missesOf_3 : decode cX6_missesOf 3 = .ok (.istore_n 3, 1) := by decide +kernel
theorem dX6_missesOf_4 : decode cX6_missesOf 4 = .ok (.iconst 0, 1) := by decide +kernel
theorem dX6_missesOf_5 : decode cX6_missesOf 5 = .ok (.istore 4, 2) := by decide +kernel
theorem dX6_missesOf_7 : decode cX6_missesOf 7 = .ok (.iload 4, 2) := by decide +kernel
theorem dX6_missesOf_9 : decode cX6_missesOf 9 = .ok (.aload_n 0, 1) := by decide +kernel
theorem dX6_missesOf_10 : decode cX6_missesOf 10 = .ok (.getfield 79, 3) := by decide +kernel
theorem dX6_missesOf_13 : decode cX6_missesOf 13 = .ok (.if_icmp .ge 27, 3) := by decide +kernel
theorem dX6_missesOf_16 : decode cX6_missesOf 16 = .ok (.iload_n 2, 1) := by decide +kernel
theorem dX6_missesOf_17 : decode cX6_missesOf 17 = .ok (.aload_n 0, 1) := by decide +kernel
theorem dX6_missesOf_18 : decode cX6_missesOf 18 = .ok (.iload_n 3, 1) := by decide +kernel
theorem dX6_missesOf_19 : decode cX6_missesOf 19 = .ok (.iload 4, 2) := by decide +kernel
theorem dX6_missesOf_21 : decode cX6_missesOf 21 = .ok (.invokevirtual 88, 3) := by decide +kernel
theorem dX6_missesOf_24 : decode cX6_missesOf 24 = .ok (.invokestatic 40, 3) := by decide +kernel
theorem dX6_missesOf_27 : decode cX6_missesOf 27 = .ok (.iadd, 1) := by decide +kernel
theorem dX6_missesOf_28 : decode cX6_missesOf 28 = .ok (.istore_n 2, 1) := by decide +kernel
theorem dX6_missesOf_29 : decode cX6_missesOf 29 = .ok (.iload_n 3, 1) := by decide +kernel
theorem dX6_missesOf_30 : decode cX6_missesOf 30 = .ok (.invokestatic 44, 3) := by decide +kernel
theorem dX6_missesOf_33 : decode cX6_missesOf 33 = .ok (.istore_n 3, 1) := by decide +kernel
theorem dX6_missesOf_34 : decode cX6_missesOf 34 = .ok (.iinc 4 1, 3) := by decide +kernel
theorem dX6_missesOf_37 : decode cX6_missesOf 37 = .ok (.goto (-30), 3) := by decide +kernel
theorem dX6_missesOf_40 : decode cX6_missesOf 40 = .ok (.iload_n 2, 1) := by decide +kernel
theorem dX6_missesOf_41 : decode cX6_missesOf 41 = .ok (.ireturn, 1) := by decide +kernel
theorem dX6_tells_0 : decode cX6_tells 0 = .ok (.aload_n 0, 1) := by decide +kernel
theorem dX6_tells_1 : decode cX6_tells 1 = .ok (.getfield 58, 3) := by decide +kernel
theorem dX6_tells_4 : decode cX6_tells 4 = .ok (.ifCond .eq 4, 3) := by decide +kernel
theorem dX6_tells_7 : decode cX6_tells 7 = .ok (.return_, 1) := by decide +kernel
theorem dX6_tells_8 : decode cX6_tells 8 = .ok (.aload_n 0, 1) := by decide +kernel
theorem dX6_tells_9 : decode cX6_tells 9 = .ok (.iconst 1, 1) := by decide +kernel
theorem dX6_tells_10 : decode cX6_tells 10 = .ok (.putfield 58, 3) := by decide +kernel
theorem dX6_tells_13 : decode cX6_tells 13 = .ok (.aload_n 0, 1) := by decide +kernel
theorem dX6_tells_14 : decode cX6_tells 14 = .ok (.invokevirtual 91, 3) := by decide +kernel
theorem dX6_tells_17 : decode cX6_tells 17 = .ok (.aload_n 0, 1) := by decide +kernel
theorem dX6_tells_18 : decode cX6_tells 18 = .ok (.invokevirtual 94, 3) := by decide +kernel
theorem dX6_tells_21 : decode cX6_tells 21 = .ok (.aload_n 0, 1) := by decide +kernel
theorem dX6_tells_22 : decode cX6_tells 22 = .ok (.bipush (-9), 2) := by decide +kernel
theorem dX6_tells_24 : decode cX6_tells 24 = .ok (.putfield 97, 3) := by decide +kernel
theorem dX6_tells_27 : decode cX6_tells 27 = .ok (.bipush (-9), 2) := by decide +kernel
theorem dX6_tells_29 : decode cX6_tells 29 = .ok (.istore_n 1, 1) := by decide +kernel
theorem dX6_tells_30 : decode cX6_tells 30 = .ok (.iconst 0, 1) := by decide +kernel
theorem dX6_tells_31 : decode cX6_tells 31 = .ok (.istore_n 2, 1) := by decide +kernel
theorem dX6_tells_32 : decode cX6_tells 32 = .ok (.iload_n 2, 1) := by decide +kernel
theorem dX6_tells_33 : decode cX6_tells 33 = .ok (.sipush 11520, 3) := by decide +kernel
theorem dX6_tells_36 : decode cX6_tells 36 = .ok (.if_icmp .ge 83, 3) := by decide +kernel
theorem dX6_tells_39 : decode cX6_tells 39 = .ok (.aload_n 0, 1) := by decide +kernel
theorem dX6_tells_40 : decode cX6_tells 40 = .ok (.getfield 29, 3) := by decide +kernel
theorem dX6_tells_43 : decode cX6_tells 43 = .ok (.iload_n 2, 1) := by decide +kernel
theorem dX6_tells_44 : decode cX6_tells 44 = .ok (.aload_n 0, 1) := by decide +kernel
theorem dX6_tells_45 : decode cX6_tells 45 = .ok (.iload_n 2, 1) := by decide +kernel
theorem dX6_tells_46 : decode cX6_tells 46 = .ok (.invokevirtual 100, 3) := by decide +kernel
theorem dX6_tells_49 : decode cX6_tells 49 = .ok (.iastore, 1) := by decide +kernel
theorem dX6_tells_50 : decode cX6_tells 50 = .ok (.aload_n 0, 1) := by decide +kernel
theorem dX6_tells_51 : decode cX6_tells 51 = .ok (.getfield 97, 3) := by decide +kernel
theorem dX6_tells_54 : decode cX6_tells 54 = .ok (.bipush (-9), 2) := by decide +kernel
theorem dX6_tells_56 : decode cX6_tells 56 = .ok (.if_icmp .eq 21, 3) := by decide +kernel
theorem dX6_tells_59 : decode cX6_tells 59 = .ok (.aload_n 0, 1) := by decide +kernel
theorem dX6_tells_60 : decode cX6_tells 60 = .ok (.getfield 29, 3) := by decide +kernel
theorem dX6_tells_63 : decode cX6_tells 63 = .ok (.iload_n 2, 1) := by decide +kernel
theorem dX6_tells_64 : decode cX6_tells 64 = .ok (.iaload, 1) := by decide +kernel
theorem dX6_tells_65 : decode cX6_tells 65 = .ok (.aload_n 0, 1) := by decide +kernel
theorem dX6_tells_66 : decode cX6_tells 66 = .ok (.getfield 29, 3) := by decide +kernel
theorem dX6_tells_69 : decode cX6_tells 69 = .ok (.aload_n 0, 1) := by decide +kernel
theorem dX6_tells_70 : decode cX6_tells 70 = .ok (.getfield 97, 3) := by decide +kernel
theorem dX6_tells_73 : decode cX6_tells 73 = .ok (.iaload, 1) := by decide +kernel
theorem dX6_tells_74 : decode cX6_tells 74 = .ok (.if_icmp .ge 16, 3) := by decide +kernel
theorem dX6_tells_77 : decode cX6_tells 77 = .ok (.aload_n 0, 1) := by decide +kernel
theorem dX6_tells_78 : decode cX6_tells 78 = .ok (.getfield 97, 3) := by decide +kernel
theorem dX6_tells_81 : decode cX6_tells 81 = .ok (.istore_n 1, 1) := by decide +kernel
theorem dX6_tells_82 : decode cX6_tells 82 = .ok (.aload_n 0, 1) := by decide +kernel
theorem dX6_tells_83 : decode cX6_tells 83 = .ok (.iload_n 2, 1) := by decide +kernel
theorem dX6_tells_84 : decode cX6_tells 84 = .ok (.putfield 97, 3) := by decide +kernel
theorem dX6_tells_87 : decode cX6_tells 87 = .ok (.goto 26, 3) := by decide +kernel
theorem dX6_tells_90 : decode cX6_tells 90 = .ok (.iload_n 1, 1) := by decide +kernel
theorem dX6_tells_91 : decode cX6_tells 91 = .ok (.bipush (-9), 2) := by decide +kernel
theorem dX6_tells_93 : decode cX6_tells 93 = .ok (.if_icmp .eq 18, 3) := by decide +kernel
theorem dX6_tells_96 : decode cX6_tells 96 = .ok (.aload_n 0, 1) := by decide +kernel
theorem dX6_tells_97 : decode cX6_tells 97 = .ok (.getfield 29, 3) := by decide +kernel
theorem dX6_tells_100 : decode cX6_tells 100 = .ok (.iload_n 2, 1) := by decide +kernel
theorem dX6_tells_101 : decode cX6_tells 101 = .ok (.iaload, 1) := by decide +kernel
theorem dX6_tells_102 : decode cX6_tells 102 = .ok (.aload_n 0, 1) := by decide +kernel
theorem dX6_tells_103 : decode cX6_tells 103 = .ok (.getfield 29, 3) := by decide +kernel
theorem dX6_tells_106 : decode cX6_tells 106 = .ok (.iload_n 1, 1) := by decide +kernel
theorem dX6_tells_107 : decode cX6_tells 107 = .ok (.iaload, 1) := by decide +kernel
theorem dX6_tells_108 : decode cX6_tells 108 = .ok (.if_icmp .ge 5, 3) := by decide +kernel
theorem dX6_tells_111 : decode cX6_tells 111 = .ok (.iload_n 2, 1) := by decide +kernel
theorem dX6_tells_112 : decode cX6_tells 112 = .ok (.istore_n 1, 1) := by decide +kernel
theorem dX6_tells_113 : decode cX6_tells 113 = .ok (.iinc 2 1, 3) := by decide +kernel
theorem dX6_tells_116 : decode cX6_tells 116 = .ok (.goto (-84), 3) := by decide +kernel
theorem dX6_tells_119 : decode cX6_tells 119 = .ok (.aload_n 0, 1) := by decide +kernel
theorem dX6_tells_120 : decode cX6_tells 120 = .ok (.aload_n 0, 1) := by decide +kernel
theorem dX6_tells_121 : decode cX6_tells 121 = .ok (.getfield 29, 3) := by decide +kernel
theorem dX6_tells_124 : decode cX6_tells 124 = .ok (.iload_n 1, 1) := by decide +kernel
theorem dX6_tells_125 : decode cX6_tells 125 = .ok (.iaload, 1) := by decide +kernel
theorem dX6_tells_126 : decode cX6_tells 126 = .ok (.aload_n 0, 1) := by decide +kernel
theorem dX6_tells_127 : decode cX6_tells 127 = .ok (.getfield 29, 3) := by decide +kernel
theorem dX6_tells_130 : decode cX6_tells 130 = .ok (.aload_n 0, 1) := by decide +kernel
theorem dX6_tells_131 : decode cX6_tells 131 = .ok (.getfield 97, 3) := by decide +kernel
theorem dX6_tells_134 : decode cX6_tells 134 = .ok (.iaload, 1) := by decide +kernel
theorem dX6_tells_135 : decode cX6_tells 135 = .ok (.isub, 1) := by decide +kernel
theorem dX6_tells_136 : decode cX6_tells 136 = .ok (.putfield 103, 3) := by decide +kernel
theorem dX6_tells_139 : decode cX6_tells 139 = .ok (.return_, 1) := by decide +kernel
theorem dX6_isShown_0 : decode cX6_isShown 0 = .ok (.aload_n 0, 1) := by decide +kernel
theorem dX6_isShown_1 : decode cX6_isShown 1 = .ok (.getfield 79, 3) := by decide +kernel
theorem dX6_isShown_4 : decode cX6_isShown 4 = .ok (.ifCond .le 20, 3) := by decide +kernel
theorem dX6_isShown_7 : decode cX6_isShown 7 = .ok (.aload_n 0, 1) := by decide +kernel
theorem dX6_isShown_8 : decode cX6_isShown 8 = .ok (.getfield 103, 3) := by decide +kernel
theorem dX6_isShown_11 : decode cX6_isShown 11 = .ok (.aload_n 0, 1) := by decide +kernel
theorem dX6_isShown_12 : decode cX6_isShown 12 = .ok (.getfield 7, 3) := by decide +kernel
theorem dX6_isShown_15 : decode cX6_isShown 15 = .ok (.iconst 1, 1) := by decide +kernel
theorem dX6_isShown_16 : decode cX6_isShown 16 = .ok (.iaload, 1) := by decide +kernel
theorem dX6_isShown_17 : decode cX6_isShown 17 = .ok (.if_icmp .lt 7, 3) := by decide +kernel
theorem dX6_isShown_20 : decode cX6_isShown 20 = .ok (.iconst 1, 1) := by decide +kernel
theorem dX6_isShown_21 : decode cX6_isShown 21 = .ok (.goto 4, 3) := by decide +kernel
theorem dX6_isShown_24 : decode cX6_isShown 24 = .ok (.iconst 0, 1) := by decide +kernel
theorem dX6_isShown_25 : decode cX6_isShown 25 = .ok (.ireturn, 1) := by decide +kernel
theorem dX6_lastTime_0 : decode cX6_lastTime 0 = .ok (.aload_n 0, 1) := by decide +kernel
theorem dX6_lastTime_1 : decode cX6_lastTime 1 = .ok (.getfield 97, 3) := by decide +kernel
theorem dX6_lastTime_4 : decode cX6_lastTime 4 = .ok (.aload_n 0, 1) := by decide +kernel
theorem dX6_lastTime_5 : decode cX6_lastTime 5 = .ok (.getfield 79, 3) := by decide +kernel
theorem dX6_lastTime_8 : decode cX6_lastTime 8 = .ok (.iconst 1, 1) := by decide +kernel
theorem dX6_lastTime_9 : decode cX6_lastTime 9 = .ok (.isub, 1) := by decide +kernel
theorem dX6_lastTime_10 : decode cX6_lastTime 10 = .ok (.invokestatic 106, 3) := by decide +kernel
theorem dX6_lastTime_13 : decode cX6_lastTime 13 = .ok (.ireturn, 1) := by decide +kernel
theorem dX6_sets_0 : decode cX6_sets 0 = .ok (.aload_n 0, 1) := by decide +kernel
theorem dX6_sets_1 : decode cX6_sets 1 = .ok (.invokevirtual 109, 3) := by decide +kernel
theorem dX6_sets_4 : decode cX6_sets 4 = .ok (.aload_n 0, 1) := by decide +kernel
theorem dX6_sets_5 : decode cX6_sets 5 = .ok (.invokevirtual 112, 3) := by decide +kernel
theorem dX6_sets_8 : decode cX6_sets 8 = .ok (.ifCond .ne 6, 3) := by decide +kernel
theorem dX6_sets_11 : decode cX6_sets 11 = .ok (.bipush (-2), 2) := by decide +kernel
theorem dX6_sets_13 : decode cX6_sets 13 = .ok (.ireturn, 1) := by decide +kernel
theorem dX6_sets_14 : decode cX6_sets 14 = .ok (.aload_n 0, 1) := by decide +kernel
theorem dX6_sets_15 : decode cX6_sets 15 = .ok (.invokevirtual 116, 3) := by decide +kernel
theorem dX6_sets_18 : decode cX6_sets 18 = .ok (.istore_n 1, 1) := by decide +kernel
theorem dX6_sets_19 : decode cX6_sets 19 = .ok (.aload_n 0, 1) := by decide +kernel
theorem dX6_sets_20 : decode cX6_sets 20 = .ok (.invokevirtual 62, 3) := by decide +kernel
theorem dX6_sets_23 : decode cX6_sets 23 = .ok (.aload_n 0, 1) := by decide +kernel
theorem dX6_sets_24 : decode cX6_sets 24 = .ok (.getfield 7, 3) := by decide +kernel
theorem dX6_sets_27 : decode cX6_sets 27 = .ok (.iconst 3, 1) := by decide +kernel
theorem dX6_sets_28 : decode cX6_sets 28 = .ok (.iload_n 1, 1) := by decide +kernel
theorem dX6_sets_29 : decode cX6_sets 29 = .ok (.iastore, 1) := by decide +kernel
theorem dX6_sets_30 : decode cX6_sets 30 = .ok (.aload_n 0, 1) := by decide +kernel
theorem dX6_sets_31 : decode cX6_sets 31 = .ok (.getfield 7, 3) := by decide +kernel
theorem dX6_sets_34 : decode cX6_sets 34 = .ok (.iconst 4, 1) := by decide +kernel
theorem dX6_sets_35 : decode cX6_sets 35 = .ok (.iconst 0, 1) := by decide +kernel
theorem dX6_sets_36 : decode cX6_sets 36 = .ok (.iastore, 1) := by decide +kernel
theorem dX6_sets_37 : decode cX6_sets 37 = .ok (.iload_n 1, 1) := by decide +kernel
theorem dX6_sets_38 : decode cX6_sets 38 = .ok (.bipush 8, 2) := by decide +kernel
theorem dX6_sets_40 : decode cX6_sets 40 = .ok (.idiv, 1) := by decide +kernel
theorem dX6_sets_41 : decode cX6_sets 41 = .ok (.ireturn, 1) := by decide +kernel
theorem dX6_goes_0 : decode cX6_goes 0 = .ok (.iload_n 1, 1) := by decide +kernel
theorem dX6_goes_1 : decode cX6_goes 1 = .ok (.iconst 1, 1) := by decide +kernel
theorem dX6_goes_2 : decode cX6_goes 2 = .ok (.sipush 999, 3) := by decide +kernel
theorem dX6_goes_5 : decode cX6_goes 5 = .ok (.invokestatic 47, 3) := by decide +kernel
theorem dX6_goes_8 : decode cX6_goes 8 = .ok (.ifCond .ne 5, 3) := by decide +kernel
theorem dX6_goes_11 : decode cX6_goes 11 = .ok (.iconst (-1), 1) := by decide +kernel
theorem dX6_goes_12 : decode cX6_goes 12 = .ok (.ireturn, 1) := by decide +kernel
theorem dX6_goes_13 : decode cX6_goes 13 = .ok (.aload_n 0, 1) := by decide +kernel
theorem dX6_goes_14 : decode cX6_goes 14 = .ok (.getfield 7, 3) := by decide +kernel
theorem dX6_goes_17 : decode cX6_goes 17 = .ok (.iconst 3, 1) := by decide +kernel
theorem dX6_goes_18 : decode cX6_goes 18 = .ok (.iaload, 1) := by decide +kernel
theorem dX6_goes_19 : decode cX6_goes 19 = .ok (.bipush (-9), 2) := by decide +kernel
theorem dX6_goes_21 : decode cX6_goes 21 = .ok (.if_icmp .ne 6, 3) := by decide +kernel
theorem dX6_goes_24 : decode cX6_goes 24 = .ok (.bipush (-2), 2) := by decide +kernel
theorem dX6_goes_26 : decode cX6_goes 26 = .ok (.ireturn, 1) := by decide +kernel
theorem dX6_goes_27 : decode cX6_goes 27 = .ok (.aload_n 0, 1) := by decide +kernel
theorem dX6_goes_28 : decode cX6_goes 28 = .ok (.invokevirtual 62, 3) := by decide +kernel
theorem dX6_goes_31 : decode cX6_goes 31 = .ok (.aload_n 0, 1) := by decide +kernel
theorem dX6_goes_32 : decode cX6_goes 32 = .ok (.getfield 7, 3) := by decide +kernel
theorem dX6_goes_35 : decode cX6_goes 35 = .ok (.iconst 3, 1) := by decide +kernel
theorem dX6_goes_36 : decode cX6_goes 36 = .ok (.aload_n 0, 1) := by decide +kernel
theorem dX6_goes_37 : decode cX6_goes 37 = .ok (.getfield 7, 3) := by decide +kernel
theorem dX6_goes_40 : decode cX6_goes 40 = .ok (.iconst 3, 1) := by decide +kernel
theorem dX6_goes_41 : decode cX6_goes 41 = .ok (.iaload, 1) := by decide +kernel
theorem dX6_goes_42 : decode cX6_goes 42 = .ok (.iload_n 1, 1) := by decide +kernel
theorem dX6_goes_43 : decode cX6_goes 43 = .ok (.invokestatic 106, 3) := by decide +kernel
theorem dX6_goes_46 : decode cX6_goes 46 = .ok (.iastore, 1) := by decide +kernel
theorem dX6_goes_47 : decode cX6_goes 47 = .ok (.aload_n 0, 1) := by decide +kernel
theorem dX6_goes_48 : decode cX6_goes 48 = .ok (.getfield 7, 3) := by decide +kernel
theorem dX6_goes_51 : decode cX6_goes 51 = .ok (.iconst 4, 1) := by decide +kernel
theorem dX6_goes_52 : decode cX6_goes 52 = .ok (.aload_n 0, 1) := by decide +kernel
theorem dX6_goes_53 : decode cX6_goes 53 = .ok (.getfield 7, 3) := by decide +kernel
theorem dX6_goes_56 : decode cX6_goes 56 = .ok (.iconst 4, 1) := by decide +kernel
theorem dX6_goes_57 : decode cX6_goes 57 = .ok (.iaload, 1) := by decide +kernel
theorem dX6_goes_58 : decode cX6_goes 58 = .ok (.iload_n 1, 1) := by decide +kernel
theorem dX6_goes_59 : decode cX6_goes 59 = .ok (.iadd, 1) := by decide +kernel
theorem dX6_goes_60 : decode cX6_goes 60 = .ok (.sipush 9999, 3) := by decide +kernel
theorem dX6_goes_63 : decode cX6_goes 63 = .ok (.if_icmp .le 9, 3) := by decide +kernel
theorem dX6_goes_66 : decode cX6_goes 66 = .ok (.sipush 9999, 3) := by decide +kernel
theorem dX6_goes_69 : decode cX6_goes 69 = .ok (.goto 11, 3) := by decide +kernel
theorem dX6_goes_72 : decode cX6_goes 72 = .ok (.aload_n 0, 1) := by decide +kernel
theorem dX6_goes_73 : decode cX6_goes 73 = .ok (.getfield 7, 3) := by decide +kernel
theorem dX6_goes_76 : decode cX6_goes 76 = .ok (.iconst 4, 1) := by decide +kernel
theorem dX6_goes_77 : decode cX6_goes 77 = .ok (.iaload, 1) := by decide +kernel
theorem dX6_goes_78 : decode cX6_goes 78 = .ok (.iload_n 1, 1) := by decide +kernel
theorem dX6_goes_79 : decode cX6_goes 79 = .ok (.iadd, 1) := by decide +kernel
theorem dX6_goes_80 : decode cX6_goes 80 = .ok (.iastore, 1) := by decide +kernel
theorem dX6_goes_81 : decode cX6_goes 81 = .ok (.aload_n 0, 1) := by decide +kernel
theorem dX6_goes_82 : decode cX6_goes 82 = .ok (.getfield 7, 3) := by decide +kernel
theorem dX6_goes_85 : decode cX6_goes 85 = .ok (.iconst 3, 1) := by decide +kernel
theorem dX6_goes_86 : decode cX6_goes 86 = .ok (.iaload, 1) := by decide +kernel
theorem dX6_goes_87 : decode cX6_goes 87 = .ok (.bipush 8, 2) := by decide +kernel
theorem dX6_goes_89 : decode cX6_goes 89 = .ok (.idiv, 1) := by decide +kernel
theorem dX6_goes_90 : decode cX6_goes 90 = .ok (.ireturn, 1) := by decide +kernel
theorem dX6_undo_0 : decode cX6_undo 0 = .ok (.aload_n 0, 1) := by decide +kernel
theorem dX6_undo_1 : decode cX6_undo 1 = .ok (.getfield 55, 3) := by decide +kernel
theorem dX6_undo_4 : decode cX6_undo 4 = .ok (.ifCond .ne 6, 3) := by decide +kernel
theorem dX6_undo_7 : decode cX6_undo 7 = .ok (.bipush (-2), 2) := by decide +kernel
theorem dX6_undo_9 : decode cX6_undo 9 = .ok (.ireturn, 1) := by decide +kernel
theorem dX6_undo_10 : decode cX6_undo 10 = .ok (.aload_n 0, 1) := by decide +kernel
theorem dX6_undo_11 : decode cX6_undo 11 = .ok (.aload_n 0, 1) := by decide +kernel
theorem dX6_undo_12 : decode cX6_undo 12 = .ok (.getfield 51, 3) := by decide +kernel
theorem dX6_undo_15 : decode cX6_undo 15 = .ok (.bipush 10, 2) := by decide +kernel
theorem dX6_undo_17 : decode cX6_undo 17 = .ok (.iadd, 1) := by decide +kernel
theorem dX6_undo_18 : decode cX6_undo 18 = .ok (.iconst 1, 1) := by decide +kernel
theorem dX6_undo_19 : decode cX6_undo 19 = .ok (.isub, 1) := by decide +kernel
theorem dX6_undo_20 : decode cX6_undo 20 = .ok (.bipush 10, 2) := by decide +kernel
theorem dX6_undo_22 : decode cX6_undo 22 = .ok (.irem, 1) := by decide +kernel
theorem dX6_undo_23 : decode cX6_undo 23 = .ok (.putfield 51, 3) := by decide +kernel
theorem dX6_undo_26 : decode cX6_undo 26 = .ok (.aload_n 0, 1) := by decide +kernel
theorem dX6_undo_27 : decode cX6_undo 27 = .ok (.dup, 1) := by decide +kernel
theorem dX6_undo_28 : decode cX6_undo 28 = .ok (.getfield 55, 3) := by decide +kernel
theorem dX6_undo_31 : decode cX6_undo 31 = .ok (.iconst 1, 1) := by decide +kernel
theorem dX6_undo_32 : decode cX6_undo 32 = .ok (.isub, 1) := by decide +kernel
theorem dX6_undo_33 : decode cX6_undo 33 = .ok (.putfield 55, 3) := by decide +kernel
theorem dX6_undo_36 : decode cX6_undo 36 = .ok (.iconst 0, 1) := by decide +kernel
theorem dX6_undo_37 : decode cX6_undo 37 = .ok (.istore_n 1, 1) := by decide +kernel
theorem dX6_undo_38 : decode cX6_undo 38 = .ok (.iload_n 1, 1) := by decide +kernel
theorem dX6_undo_39 : decode cX6_undo 39 = .ok (.bipush 126, 2) := by decide +kernel
theorem dX6_undo_41 : decode cX6_undo 41 = .ok (.if_icmp .ge 29, 3) := by decide +kernel
theorem dX6_undo_44 : decode cX6_undo 44 = .ok (.aload_n 0, 1) := by decide +kernel
theorem dX6_undo_45 : decode cX6_undo 45 = .ok (.getfield 7, 3) := by decide +kernel
theorem dX6_undo_48 : decode cX6_undo 48 = .ok (.iload_n 1, 1) := by decide +kernel
theorem dX6_undo_49 : decode cX6_undo 49 = .ok (.aload_n 0, 1) := by decide +kernel
theorem dX6_undo_50 : decode cX6_undo 50 = .ok (.getfield 13, 3) := by decide +kernel
theorem dX6_undo_53 : decode cX6_undo 53 = .ok (.bipush 126, 2) := by decide +kernel
theorem dX6_undo_55 : decode cX6_undo 55 = .ok (.aload_n 0, 1) := by decide +kernel
theorem dX6_undo_56 : decode cX6_undo 56 = .ok (.getfield 51, 3) := by decide +kernel
theorem dX6_undo_59 : decode cX6_undo 59 = .ok (.imul, 1) := by decide +kernel
theorem dX6_undo_60 : decode cX6_undo 60 = .ok (.iload_n 1, 1) := by decide +kernel
theorem dX6_undo_61 : decode cX6_undo 61 = .ok (.iadd, 1) := by decide +kernel
theorem dX6_undo_62 : decode cX6_undo 62 = .ok (.iaload, 1) := by decide +kernel
theorem dX6_undo_63 : decode cX6_undo 63 = .ok (.iastore, 1) := by decide +kernel
theorem dX6_undo_64 : decode cX6_undo 64 = .ok (.iinc 1 1, 3) := by decide +kernel
theorem dX6_undo_67 : decode cX6_undo 67 = .ok (.goto (-29), 3) := by decide +kernel
theorem dX6_undo_70 : decode cX6_undo 70 = .ok (.aload_n 0, 1) := by decide +kernel
theorem dX6_undo_71 : decode cX6_undo 71 = .ok (.iconst 0, 1) := by decide +kernel
theorem dX6_undo_72 : decode cX6_undo 72 = .ok (.putfield 58, 3) := by decide +kernel
theorem dX6_undo_75 : decode cX6_undo 75 = .ok (.aload_n 0, 1) := by decide +kernel
theorem dX6_undo_76 : decode cX6_undo 76 = .ok (.getfield 55, 3) := by decide +kernel
theorem dX6_undo_79 : decode cX6_undo 79 = .ok (.ireturn, 1) := by decide +kernel
theorem dX6_symbol_0 : decode cX6_symbol 0 = .ok (.iload_n 1, 1) := by decide +kernel
theorem dX6_symbol_1 : decode cX6_symbol 1 = .ok (.iconst 0, 1) := by decide +kernel
theorem dX6_symbol_2 : decode cX6_symbol 2 = .ok (.aload_n 0, 1) := by decide +kernel
theorem dX6_symbol_3 : decode cX6_symbol 3 = .ok (.getfield 7, 3) := by decide +kernel
theorem dX6_symbol_6 : decode cX6_symbol 6 = .ok (.iconst 0, 1) := by decide +kernel
theorem dX6_symbol_7 : decode cX6_symbol 7 = .ok (.iaload, 1) := by decide +kernel
theorem dX6_symbol_8 : decode cX6_symbol 8 = .ok (.iconst 1, 1) := by decide +kernel
theorem dX6_symbol_9 : decode cX6_symbol 9 = .ok (.isub, 1) := by decide +kernel
theorem dX6_symbol_10 : decode cX6_symbol 10 = .ok (.invokestatic 47, 3) := by decide +kernel
theorem dX6_symbol_13 : decode cX6_symbol 13 = .ok (.ifCond .eq 11, 3) := by decide +kernel
theorem dX6_symbol_16 : decode cX6_symbol 16 = .ok (.aload_n 0, 1) := by decide +kernel
theorem dX6_symbol_17 : decode cX6_symbol 17 = .ok (.iload_n 1, 1) := by decide +kernel
theorem dX6_symbol_18 : decode cX6_symbol 18 = .ok (.invokevirtual 73, 3) := by decide +kernel
theorem dX6_symbol_21 : decode cX6_symbol 21 = .ok (.goto 4, 3) := by decide +kernel
theorem dX6_symbol_24 : decode cX6_symbol 24 = .ok (.iconst (-1), 1) := by decide +kernel
theorem dX6_symbol_25 : decode cX6_symbol 25 = .ok (.ireturn, 1) := by decide +kernel
theorem dX6_isClear_0 : decode cX6_isClear 0 = .ok (.iconst 1, 1) := by decide +kernel
theorem dX6_isClear_1 : decode cX6_isClear 1 = .ok (.istore 4, 2) := by decide +kernel
theorem dX6_isClear_3 : decode cX6_isClear 3 = .ok (.iload_n 2, 1) := by decide +kernel
theorem dX6_isClear_4 : decode cX6_isClear 4 = .ok (.istore 5, 2) := by decide +kernel
theorem dX6_isClear_6 : decode cX6_isClear 6 = .ok (.iload 5, 2) := by decide +kernel
theorem dX6_isClear_8 : decode cX6_isClear 8 = .ok (.iload_n 3, 1) := by decide +kernel
theorem dX6_isClear_9 : decode cX6_isClear 9 = .ok (.if_icmp .gt 35, 3) := by decide +kernel
theorem dX6_isClear_12 : decode cX6_isClear 12 = .ok (.iload 4, 2) := by decide +kernel
theorem dX6_isClear_14 : decode cX6_isClear 14 = .ok (.ifCond .eq 21, 3) := by decide +kernel
theorem dX6_isClear_17 : decode cX6_isClear 17 = .ok (.aload_n 0, 1) := by decide +kernel
theorem dX6_isClear_18 : decode cX6_isClear 18 = .ok (.getfield 23, 3) := by decide +kernel
theorem dX6_isClear_21 : decode cX6_isClear 21 = .ok (.iload_n 1, 1) := by decide +kernel
theorem dX6_isClear_22 : decode cX6_isClear 22 = .ok (.iaload, 1) := by decide +kernel
theorem dX6_isClear_23 : decode cX6_isClear 23 = .ok (.iload 5, 2) := by decide +kernel
theorem dX6_isClear_25 : decode cX6_isClear 25 = .ok (.invokestatic 32, 3) := by decide +kernel
theorem dX6_isClear_28 : decode cX6_isClear 28 = .ok (.ifCond .eq 7, 3) := by decide +kernel
theorem dX6_isClear_31 : decode cX6_isClear 31 = .ok (.iconst 1, 1) := by decide +kernel
theorem dX6_isClear_32 : decode cX6_isClear 32 = .ok (.goto 4, 3) := by decide +kernel
theorem dX6_isClear_35 : decode cX6_isClear 35 = .ok (.iconst 0, 1) := by decide +kernel
theorem dX6_isClear_36 : decode cX6_isClear 36 = .ok (.istore 4, 2) := by decide +kernel
theorem dX6_isClear_38 : decode cX6_isClear 38 = .ok (.iinc 5 1, 3) := by decide +kernel
theorem dX6_isClear_41 : decode cX6_isClear 41 = .ok (.goto (-35), 3) := by decide +kernel
theorem dX6_isClear_44 : decode cX6_isClear 44 = .ok (.iload 4, 2) := by decide +kernel
theorem dX6_isClear_46 : decode cX6_isClear 46 = .ok (.ireturn, 1) := by decide +kernel
theorem dX6_valueOf_0 : decode cX6_valueOf 0 = .ok (.aload_n 0, 1) := by decide +kernel
theorem dX6_valueOf_1 : decode cX6_valueOf 1 = .ok (.getfield 26, 3) := by decide +kernel
theorem dX6_valueOf_4 : decode cX6_valueOf 4 = .ok (.iload_n 1, 1) := by decide +kernel
theorem dX6_valueOf_5 : decode cX6_valueOf 5 = .ok (.iaload, 1) := by decide +kernel
theorem dX6_valueOf_6 : decode cX6_valueOf 6 = .ok (.iload_n 2, 1) := by decide +kernel
theorem dX6_valueOf_7 : decode cX6_valueOf 7 = .ok (.ishr, 1) := by decide +kernel
theorem dX6_valueOf_8 : decode cX6_valueOf 8 = .ok (.iconst 1, 1) := by decide +kernel
theorem dX6_valueOf_9 : decode cX6_valueOf 9 = .ok (.iload_n 3, 1) := by decide +kernel
theorem dX6_valueOf_10 : decode cX6_valueOf 10 = .ok (.ishl, 1) := by decide +kernel
theorem dX6_valueOf_11 : decode cX6_valueOf 11 = .ok (.iconst 1, 1) := by decide +kernel
theorem dX6_valueOf_12 : decode cX6_valueOf 12 = .ok (.isub, 1) := by decide +kernel
theorem dX6_valueOf_13 : decode cX6_valueOf 13 = .ok (.iand, 1) := by decide +kernel
theorem dX6_valueOf_14 : decode cX6_valueOf 14 = .ok (.ireturn, 1) := by decide +kernel
theorem dX6_parity_0 : decode cX6_parity 0 = .ok (.aload_n 0, 1) := by decide +kernel
theorem dX6_parity_1 : decode cX6_parity 1 = .ok (.iload_n 1, 1) := by decide +kernel
theorem dX6_parity_2 : decode cX6_parity 2 = .ok (.iload_n 2, 1) := by decide +kernel
theorem dX6_parity_3 : decode cX6_parity 3 = .ok (.iload_n 3, 1) := by decide +kernel
theorem dX6_parity_4 : decode cX6_parity 4 = .ok (.invokevirtual 120, 3) := by decide +kernel
theorem dX6_parity_7 : decode cX6_parity 7 = .ok (.ifCond .eq 24, 3) := by decide +kernel
theorem dX6_parity_10 : decode cX6_parity 10 = .ok (.iconst 1, 1) := by decide +kernel
theorem dX6_parity_11 : decode cX6_parity 11 = .ok (.aload_n 0, 1) := by decide +kernel
theorem dX6_parity_12 : decode cX6_parity 12 = .ok (.iload_n 1, 1) := by decide +kernel
theorem dX6_parity_13 : decode cX6_parity 13 = .ok (.iload_n 2, 1) := by decide +kernel
theorem dX6_parity_14 : decode cX6_parity 14 = .ok (.iload_n 3, 1) := by decide +kernel
theorem dX6_parity_15 : decode cX6_parity 15 = .ok (.iload_n 2, 1) := by decide +kernel
theorem dX6_parity_16 : decode cX6_parity 16 = .ok (.isub, 1) := by decide +kernel
theorem dX6_parity_17 : decode cX6_parity 17 = .ok (.iconst 1, 1) := by decide +kernel
theorem dX6_parity_18 : decode cX6_parity 18 = .ok (.iadd, 1) := by decide +kernel
theorem dX6_parity_19 : decode cX6_parity 19 = .ok (.invokevirtual 123, 3) := by decide +kernel
theorem dX6_parity_22 : decode cX6_parity 22 = .ok (.invokestatic 40, 3) := by decide +kernel
theorem dX6_parity_25 : decode cX6_parity 25 = .ok (.iconst 2, 1) := by decide +kernel
theorem dX6_parity_26 : decode cX6_parity 26 = .ok (.irem, 1) := by decide +kernel
theorem dX6_parity_27 : decode cX6_parity 27 = .ok (.isub, 1) := by decide +kernel
theorem dX6_parity_28 : decode cX6_parity 28 = .ok (.goto 4, 3) := by decide +kernel
theorem dX6_parity_31 : decode cX6_parity 31 = .ok (.iconst 2, 1) := by decide +kernel
theorem dX6_parity_32 : decode cX6_parity 32 = .ok (.ireturn, 1) := by decide +kernel
theorem dX6_twoFigures_0 : decode cX6_twoFigures 0 = .ok (.aload_n 0, 1) := by decide +kernel
theorem dX6_twoFigures_1 : decode cX6_twoFigures 1 = .ok (.iload_n 1, 1) := by decide +kernel
theorem dX6_twoFigures_2 : decode cX6_twoFigures 2 = .ok (.iload_n 2, 1) := by decide +kernel
theorem dX6_twoFigures_3 : decode cX6_twoFigures 3 = .ok (.iconst 4, 1) := by decide +kernel
theorem dX6_twoFigures_4 : decode cX6_twoFigures 4 = .ok (.invokevirtual 123, 3) := by decide +kernel
theorem dX6_twoFigures_7 : decode cX6_twoFigures 7 = .ok (.istore 5, 2) := by decide +kernel
theorem dX6_twoFigures_9 : decode cX6_twoFigures 9 = .ok (.bipush 10, 2) := by decide +kernel
theorem dX6_twoFigures_11 : decode cX6_twoFigures 11 = .ok (.aload_n 0, 1) := by decide +kernel
theorem dX6_twoFigures_12 : decode cX6_twoFigures 12 = .ok (.iload_n 1, 1) := by decide +kernel
theorem dX6_twoFigures_13 : decode cX6_twoFigures 13 = .ok (.iload_n 2, 1) := by decide +kernel
theorem dX6_twoFigures_14 : decode cX6_twoFigures 14 = .ok (.iconst 4, 1) := by decide +kernel
theorem dX6_twoFigures_15 : decode cX6_twoFigures 15 = .ok (.iadd, 1) := by decide +kernel
theorem dX6_twoFigures_16 : decode cX6_twoFigures 16 = .ok (.iload_n 3, 1) := by decide +kernel
theorem dX6_twoFigures_17 : decode cX6_twoFigures 17 = .ok (.iload_n 2, 1) := by decide +kernel
theorem dX6_twoFigures_18 : decode cX6_twoFigures 18 = .ok (.isub, 1) := by decide +kernel
theorem dX6_twoFigures_19 : decode cX6_twoFigures 19 = .ok (.iconst 3, 1) := by decide +kernel
theorem dX6_twoFigures_20 : decode cX6_twoFigures 20 = .ok (.isub, 1) := by decide +kernel
theorem dX6_twoFigures_21 : decode cX6_twoFigures 21 = .ok (.invokevirtual 123, 3) := by decide +kernel
theorem dX6_twoFigures_24 : decode cX6_twoFigures 24 = .ok (.imul, 1) := by decide +kernel
theorem dX6_twoFigures_25 : decode cX6_twoFigures 25 = .ok (.iload 5, 2) := by decide +kernel
theorem dX6_twoFigures_27 : decode cX6_twoFigures 27 = .ok (.iadd, 1) := by decide +kernel
theorem dX6_twoFigures_28 : decode cX6_twoFigures 28 = .ok (.istore 6, 2) := by decide +kernel
theorem dX6_twoFigures_30 : decode cX6_twoFigures 30 = .ok (.aload_n 0, 1) := by decide +kernel
theorem dX6_twoFigures_31 : decode cX6_twoFigures 31 = .ok (.iload_n 1, 1) := by decide +kernel
theorem dX6_twoFigures_32 : decode cX6_twoFigures 32 = .ok (.iload_n 2, 1) := by decide +kernel
theorem dX6_twoFigures_33 : decode cX6_twoFigures 33 = .ok (.iload_n 3, 1) := by decide +kernel
theorem dX6_twoFigures_34 : decode cX6_twoFigures 34 = .ok (.invokevirtual 120, 3) := by decide +kernel
theorem dX6_twoFigures_37 : decode cX6_twoFigures 37 = .ok (.ifCond .eq 22, 3) := by decide +kernel
theorem dX6_twoFigures_40 : decode cX6_twoFigures 40 = .ok (.iload 5, 2) := by decide +kernel
theorem dX6_twoFigures_42 : decode cX6_twoFigures 42 = .ok (.bipush 10, 2) := by decide +kernel
theorem dX6_twoFigures_44 : decode cX6_twoFigures 44 = .ok (.if_icmp .ge 15, 3) := by decide +kernel
theorem dX6_twoFigures_47 : decode cX6_twoFigures 47 = .ok (.iload 6, 2) := by decide +kernel
theorem dX6_twoFigures_49 : decode cX6_twoFigures 49 = .ok (.iload 4, 2) := by decide +kernel
theorem dX6_twoFigures_51 : decode cX6_twoFigures 51 = .ok (.if_icmp .gt 8, 3) := by decide +kernel
theorem dX6_twoFigures_54 : decode cX6_twoFigures 54 = .ok (.iload 6, 2) := by decide +kernel
theorem dX6_twoFigures_56 : decode cX6_twoFigures 56 = .ok (.goto 5, 3) := by decide +kernel
theorem dX6_twoFigures_59 : decode cX6_twoFigures 59 = .ok (.bipush (-9), 2) := by decide +kernel
theorem dX6_twoFigures_61 : decode cX6_twoFigures 61 = .ok (.ireturn, 1) := by decide +kernel
theorem dX6_read_0 : decode cX6_read 0 = .ok (.aload_n 0, 1) := by decide +kernel
theorem dX6_read_1 : decode cX6_read 1 = .ok (.invokevirtual 109, 3) := by decide +kernel
theorem dX6_read_4 : decode cX6_read 4 = .ok (.iload_n 1, 1) := by decide +kernel
theorem dX6_read_5 : decode cX6_read 5 = .ok (.iconst 0, 1) := by decide +kernel
theorem dX6_read_6 : decode cX6_read 6 = .ok (.aload_n 0, 1) := by decide +kernel
theorem dX6_read_7 : decode cX6_read 7 = .ok (.getfield 79, 3) := by decide +kernel
theorem dX6_read_10 : decode cX6_read 10 = .ok (.iconst 1, 1) := by decide +kernel
theorem dX6_read_11 : decode cX6_read 11 = .ok (.isub, 1) := by decide +kernel
theorem dX6_read_12 : decode cX6_read 12 = .ok (.invokestatic 47, 3) := by decide +kernel
theorem dX6_read_15 : decode cX6_read 15 = .ok (.ifCond .eq 13, 3) := by decide +kernel
theorem dX6_read_18 : decode cX6_read 18 = .ok (.iload_n 2, 1) := by decide +kernel
theorem dX6_read_19 : decode cX6_read 19 = .ok (.iconst 0, 1) := by decide +kernel
theorem dX6_read_20 : decode cX6_read 20 = .ok (.bipush 8, 2) := by decide +kernel
theorem dX6_read_22 : decode cX6_read 22 = .ok (.invokestatic 47, 3) := by decide +kernel
theorem dX6_read_25 : decode cX6_read 25 = .ok (.ifCond .ne 5, 3) := by decide +kernel
theorem dX6_read_28 : decode cX6_read 28 = .ok (.iconst (-1), 1) := by decide +kernel
theorem dX6_read_29 : decode cX6_read 29 = .ok (.ireturn, 1) := by decide +kernel
theorem dX6_read_30 : decode cX6_read 30 = .ok (.iload_n 2, 1) := by decide +kernel
theorem dX6_read_31 : decode cX6_read 31 = .ok (.tableswitch 111 0 8 #[49, 55, 64, 74, 85, 111, 111, 111, 97], 49) := by decide +kernel
theorem dX6_read_80 : decode cX6_read 80 = .ok (.aload_n 0, 1) := by decide +kernel
theorem dX6_read_81 : decode cX6_read 81 = .ok (.iload_n 1, 1) := by decide +kernel
theorem dX6_read_82 : decode cX6_read 82 = .ok (.invokevirtual 82, 3) := by decide +kernel
theorem dX6_read_85 : decode cX6_read 85 = .ok (.ireturn, 1) := by decide +kernel
theorem dX6_read_86 : decode cX6_read 86 = .ok (.aload_n 0, 1) := by decide +kernel
theorem dX6_read_87 : decode cX6_read 87 = .ok (.iload_n 1, 1) := by decide +kernel
theorem dX6_read_88 : decode cX6_read 88 = .ok (.iconst 4, 1) := by decide +kernel
theorem dX6_read_89 : decode cX6_read 89 = .ok (.bipush 11, 2) := by decide +kernel
theorem dX6_read_91 : decode cX6_read 91 = .ok (.invokevirtual 127, 3) := by decide +kernel
theorem dX6_read_94 : decode cX6_read 94 = .ok (.ireturn, 1) := by decide +kernel
theorem dX6_read_95 : decode cX6_read 95 = .ok (.aload_n 0, 1) := by decide +kernel
theorem dX6_read_96 : decode cX6_read 96 = .ok (.iload_n 1, 1) := by decide +kernel
theorem dX6_read_97 : decode cX6_read 97 = .ok (.bipush 12, 2) := by decide +kernel
theorem dX6_read_99 : decode cX6_read 99 = .ok (.bipush 18, 2) := by decide +kernel
theorem dX6_read_101 : decode cX6_read 101 = .ok (.invokevirtual 127, 3) := by decide +kernel
theorem dX6_read_104 : decode cX6_read 104 = .ok (.ireturn, 1) := by decide +kernel
theorem dX6_read_105 : decode cX6_read 105 = .ok (.aload_n 0, 1) := by decide +kernel
theorem dX6_read_106 : decode cX6_read 106 = .ok (.iload_n 1, 1) := by decide +kernel
theorem dX6_read_107 : decode cX6_read 107 = .ok (.iconst 4, 1) := by decide +kernel
theorem dX6_read_108 : decode cX6_read 108 = .ok (.bipush 10, 2) := by decide +kernel
theorem dX6_read_110 : decode cX6_read 110 = .ok (.bipush 59, 2) := by decide +kernel
theorem dX6_read_112 : decode cX6_read 112 = .ok (.invokevirtual 130, 3) := by decide +kernel
theorem dX6_read_115 : decode cX6_read 115 = .ok (.ireturn, 1) := by decide +kernel
theorem dX6_read_116 : decode cX6_read 116 = .ok (.aload_n 0, 1) := by decide +kernel
theorem dX6_read_117 : decode cX6_read 117 = .ok (.iload_n 1, 1) := by decide +kernel
theorem dX6_read_118 : decode cX6_read 118 = .ok (.bipush 12, 2) := by decide +kernel
theorem dX6_read_120 : decode cX6_read 120 = .ok (.bipush 17, 2) := by decide +kernel
theorem dX6_read_122 : decode cX6_read 122 = .ok (.bipush 23, 2) := by decide +kernel
theorem dX6_read_124 : decode cX6_read 124 = .ok (.invokevirtual 130, 3) := by decide +kernel
theorem dX6_read_127 : decode cX6_read 127 = .ok (.ireturn, 1) := by decide +kernel
theorem dX6_read_128 : decode cX6_read 128 = .ok (.aload_n 0, 1) := by decide +kernel
theorem dX6_read_129 : decode cX6_read 129 = .ok (.aload_n 0, 1) := by decide +kernel
theorem dX6_read_130 : decode cX6_read 130 = .ok (.getfield 97, 3) := by decide +kernel
theorem dX6_read_133 : decode cX6_read 133 = .ok (.iload_n 1, 1) := by decide +kernel
theorem dX6_read_134 : decode cX6_read 134 = .ok (.invokestatic 106, 3) := by decide +kernel
theorem dX6_read_137 : decode cX6_read 137 = .ok (.iload_n 1, 1) := by decide +kernel
theorem dX6_read_138 : decode cX6_read 138 = .ok (.invokevirtual 88, 3) := by decide +kernel
theorem dX6_read_141 : decode cX6_read 141 = .ok (.ireturn, 1) := by decide +kernel
theorem dX6_read_142 : decode cX6_read 142 = .ok (.aload_n 0, 1) := by decide +kernel
theorem dX6_read_143 : decode cX6_read 143 = .ok (.aload_n 0, 1) := by decide +kernel
theorem dX6_read_144 : decode cX6_read 144 = .ok (.iload_n 1, 1) := by decide +kernel
theorem dX6_read_145 : decode cX6_read 145 = .ok (.invokevirtual 82, 3) := by decide +kernel
theorem dX6_read_148 : decode cX6_read 148 = .ok (.iload_n 2, 1) := by decide +kernel
theorem dX6_read_149 : decode cX6_read 149 = .ok (.iadd, 1) := by decide +kernel
theorem dX6_read_150 : decode cX6_read 150 = .ok (.iconst 4, 1) := by decide +kernel
theorem dX6_read_151 : decode cX6_read 151 = .ok (.isub, 1) := by decide +kernel
theorem dX6_read_152 : decode cX6_read 152 = .ok (.invokevirtual 73, 3) := by decide +kernel
theorem dX6_read_155 : decode cX6_read 155 = .ok (.ireturn, 1) := by decide +kernel
theorem dX6_vote_0 : decode cX6_vote 0 = .ok (.iload_n 1, 1) := by decide +kernel
theorem dX6_vote_1 : decode cX6_vote 1 = .ok (.iconst 0, 1) := by decide +kernel
theorem dX6_vote_2 : decode cX6_vote 2 = .ok (.bipush 10, 2) := by decide +kernel
theorem dX6_vote_4 : decode cX6_vote 4 = .ok (.invokestatic 47, 3) := by decide +kernel
theorem dX6_vote_7 : decode cX6_vote 7 = .ok (.ifCond .ne 5, 3) := by decide +kernel
theorem dX6_vote_10 : decode cX6_vote 10 = .ok (.iconst (-1), 1) := by decide +kernel
theorem dX6_vote_11 : decode cX6_vote 11 = .ok (.ireturn, 1) := by decide +kernel
theorem dX6_vote_12 : decode cX6_vote 12 = .ok (.aload_n 0, 1) := by decide +kernel
theorem dX6_vote_13 : decode cX6_vote 13 = .ok (.invokevirtual 109, 3) := by decide +kernel
theorem dX6_vote_16 : decode cX6_vote 16 = .ok (.aload_n 0, 1) := by decide +kernel
theorem dX6_vote_17 : decode cX6_vote 17 = .ok (.getfield 79, 3) := by decide +kernel
theorem dX6_vote_20 : decode cX6_vote 20 = .ok (.ifCond .ne 6, 3) := by decide +kernel
theorem dX6_vote_23 : decode cX6_vote 23 = .ok (.bipush (-9), 2) := by decide +kernel
theorem dX6_vote_25 : decode cX6_vote 25 = .ok (.ireturn, 1) := by decide +kernel
theorem dX6_vote_26 : decode cX6_vote 26 = .ok (.iload_n 1, 1) := by decide +kernel
theorem dX6_vote_27 : decode cX6_vote 27 = .ok (.tableswitch 53 4 6 #[25, 35, 40], 25) := by decide +kernel
theorem dX6_vote_52 : decode cX6_vote 52 = .ok (.aload_n 0, 1) := by decide +kernel
theorem dX6_vote_53 : decode cX6_vote 53 = .ok (.getfield 29, 3) := by decide +kernel
theorem dX6_vote_56 : decode cX6_vote 56 = .ok (.aload_n 0, 1) := by decide +kernel
theorem dX6_vote_57 : decode cX6_vote 57 = .ok (.getfield 97, 3) := by decide +kernel
theorem dX6_vote_60 : decode cX6_vote 60 = .ok (.iaload, 1) := by decide +kernel
theorem dX6_vote_61 : decode cX6_vote 61 = .ok (.ireturn, 1) := by decide +kernel
theorem dX6_vote_62 : decode cX6_vote 62 = .ok (.aload_n 0, 1) := by decide +kernel
theorem dX6_vote_63 : decode cX6_vote 63 = .ok (.getfield 103, 3) := by decide +kernel
theorem dX6_vote_66 : decode cX6_vote 66 = .ok (.ireturn, 1) := by decide +kernel
theorem dX6_vote_67 : decode cX6_vote 67 = .ok (.aload_n 0, 1) := by decide +kernel
theorem dX6_vote_68 : decode cX6_vote 68 = .ok (.invokevirtual 112, 3) := by decide +kernel
theorem dX6_vote_71 : decode cX6_vote 71 = .ok (.ifCond .eq 7, 3) := by decide +kernel
theorem dX6_vote_74 : decode cX6_vote 74 = .ok (.iconst 1, 1) := by decide +kernel
theorem dX6_vote_75 : decode cX6_vote 75 = .ok (.goto 4, 3) := by decide +kernel
theorem dX6_vote_78 : decode cX6_vote 78 = .ok (.iconst 0, 1) := by decide +kernel
theorem dX6_vote_79 : decode cX6_vote 79 = .ok (.ireturn, 1) := by decide +kernel
theorem dX6_vote_80 : decode cX6_vote 80 = .ok (.iload_n 1, 1) := by decide +kernel
theorem dX6_vote_81 : decode cX6_vote 81 = .ok (.iconst 4, 1) := by decide +kernel
theorem dX6_vote_82 : decode cX6_vote 82 = .ok (.if_icmp .ge 14, 3) := by decide +kernel
theorem dX6_vote_85 : decode cX6_vote 85 = .ok (.aload_n 0, 1) := by decide +kernel
theorem dX6_vote_86 : decode cX6_vote 86 = .ok (.getfield 97, 3) := by decide +kernel
theorem dX6_vote_89 : decode cX6_vote 89 = .ok (.iload_n 1, 1) := by decide +kernel
theorem dX6_vote_90 : decode cX6_vote 90 = .ok (.invokestatic 134, 3) := by decide +kernel
theorem dX6_vote_93 : decode cX6_vote 93 = .ok (.goto 14, 3) := by decide +kernel
theorem dX6_vote_96 : decode cX6_vote 96 = .ok (.aload_n 0, 1) := by decide +kernel
theorem dX6_vote_97 : decode cX6_vote 97 = .ok (.invokevirtual 116, 3) := by decide +kernel
theorem dX6_vote_100 : decode cX6_vote 100 = .ok (.iload_n 1, 1) := by decide +kernel
theorem dX6_vote_101 : decode cX6_vote 101 = .ok (.bipush 7, 2) := by decide +kernel
theorem dX6_vote_103 : decode cX6_vote 103 = .ok (.isub, 1) := by decide +kernel
theorem dX6_vote_104 : decode cX6_vote 104 = .ok (.invokestatic 134, 3) := by decide +kernel
theorem dX6_vote_107 : decode cX6_vote 107 = .ok (.ireturn, 1) := by decide +kernel
theorem dX6_misses_0 : decode cX6_misses 0 = .ok (.iload_n 1, 1) := by decide +kernel
theorem dX6_misses_1 : decode cX6_misses 1 = .ok (.iload_n 2, 1) := by decide +kernel
theorem dX6_misses_2 : decode cX6_misses 2 = .ok (.iload_n 3, 1) := by decide +kernel
theorem dX6_misses_3 : decode cX6_misses 3 = .ok (.iload 4, 2) := by decide +kernel
theorem dX6_misses_5 : decode cX6_misses 5 = .ok (.invokestatic 137, 3) := by decide +kernel
theorem dX6_misses_8 : decode cX6_misses 8 = .ok (.ifCond .ne 5, 3) := by decide +kernel
theorem dX6_misses_11 : decode cX6_misses 11 = .ok (.iconst (-1), 1) := by decide +kernel
theorem dX6_misses_12 : decode cX6_misses 12 = .ok (.ireturn, 1) := by decide +kernel
theorem dX6_misses_13 : decode cX6_misses 13 = .ok (.aload_n 0, 1) := by decide +kernel
theorem dX6_misses_14 : decode cX6_misses 14 = .ok (.invokevirtual 109, 3) := by decide +kernel
theorem dX6_misses_17 : decode cX6_misses 17 = .ok (.aload_n 0, 1) := by decide +kernel
theorem dX6_misses_18 : decode cX6_misses 18 = .ok (.getfield 29, 3) := by decide +kernel
theorem dX6_misses_21 : decode cX6_misses 21 = .ok (.iload_n 1, 1) := by decide +kernel
theorem dX6_misses_22 : decode cX6_misses 22 = .ok (.iload_n 2, 1) := by decide +kernel
theorem dX6_misses_23 : decode cX6_misses 23 = .ok (.iload_n 3, 1) := by decide +kernel
theorem dX6_misses_24 : decode cX6_misses 24 = .ok (.iload 4, 2) := by decide +kernel
theorem dX6_misses_26 : decode cX6_misses 26 = .ok (.invokestatic 141, 3) := by decide +kernel
theorem dX6_misses_29 : decode cX6_misses 29 = .ok (.iaload, 1) := by decide +kernel
theorem dX6_misses_30 : decode cX6_misses 30 = .ok (.ireturn, 1) := by decide +kernel
theorem dX6_close_0 : decode cX6_close 0 = .ok (.iload_n 1, 1) := by decide +kernel
theorem dX6_close_1 : decode cX6_close 1 = .ok (.iconst 0, 1) := by decide +kernel
theorem dX6_close_2 : decode cX6_close 2 = .ok (.bipush 120, 2) := by decide +kernel
theorem dX6_close_4 : decode cX6_close 4 = .ok (.invokestatic 47, 3) := by decide +kernel
theorem dX6_close_7 : decode cX6_close 7 = .ok (.ifCond .eq 8, 3) := by decide +kernel
theorem dX6_close_10 : decode cX6_close 10 = .ok (.iload_n 2, 1) := by decide +kernel
theorem dX6_close_11 : decode cX6_close 11 = .ok (.iconst (-1), 1) := by decide +kernel
theorem dX6_close_12 : decode cX6_close 12 = .ok (.if_icmp .ge 5, 3) := by decide +kernel
theorem dX6_close_15 : decode cX6_close 15 = .ok (.iconst (-1), 1) := by decide +kernel
theorem dX6_close_16 : decode cX6_close 16 = .ok (.ireturn, 1) := by decide +kernel
theorem dX6_close_17 : decode cX6_close 17 = .ok (.aload_n 0, 1) := by decide +kernel
theorem dX6_close_18 : decode cX6_close 18 = .ok (.invokevirtual 109, 3) := by decide +kernel
theorem dX6_close_21 : decode cX6_close 21 = .ok (.iconst 0, 1) := by decide +kernel
theorem dX6_close_22 : decode cX6_close 22 = .ok (.istore_n 3, 1) := by decide +kernel
theorem dX6_close_23 : decode cX6_close 23 = .ok (.iconst 0, 1) := by decide +kernel
theorem dX6_close_24 : decode cX6_close 24 = .ok (.istore 4, 2) := by decide +kernel
theorem dX6_close_26 : decode cX6_close 26 = .ok (.iload 4, 2) := by decide +kernel
theorem dX6_close_28 : decode cX6_close 28 = .ok (.sipush 11520, 3) := by decide +kernel
theorem dX6_close_31 : decode cX6_close 31 = .ok (.if_icmp .ge 31, 3) := by decide +kernel
theorem dX6_close_34 : decode cX6_close 34 = .ok (.aload_n 0, 1) := by decide +kernel
theorem dX6_close_35 : decode cX6_close 35 = .ok (.getfield 29, 3) := by decide +kernel
theorem dX6_close_38 : decode cX6_close 38 = .ok (.iload 4, 2) := by decide +kernel
theorem dX6_close_40 : decode cX6_close 40 = .ok (.iaload, 1) := by decide +kernel
theorem dX6_close_41 : decode cX6_close 41 = .ok (.iload_n 1, 1) := by decide +kernel
theorem dX6_close_42 : decode cX6_close 42 = .ok (.if_icmp .gt 14, 3) := by decide +kernel
theorem dX6_close_45 : decode cX6_close 45 = .ok (.iload_n 3, 1) := by decide +kernel
theorem dX6_close_46 : decode cX6_close 46 = .ok (.iload_n 2, 1) := by decide +kernel
theorem dX6_close_47 : decode cX6_close 47 = .ok (.if_icmp .ne 6, 3) := by decide +kernel
theorem dX6_close_50 : decode cX6_close 50 = .ok (.iload 4, 2) := by decide +kernel
theorem dX6_close_52 : decode cX6_close 52 = .ok (.ireturn, 1) := by decide +kernel
theorem dX6_close_53 : decode cX6_close 53 = .ok (.iinc 3 1, 3) := by decide +kernel
theorem dX6_close_56 : decode cX6_close 56 = .ok (.iinc 4 1, 3) := by decide +kernel
theorem dX6_close_59 : decode cX6_close 59 = .ok (.goto (-33), 3) := by decide +kernel
theorem dX6_close_62 : decode cX6_close 62 = .ok (.iload_n 2, 1) := by decide +kernel
theorem dX6_close_63 : decode cX6_close 63 = .ok (.ifCond .ge 7, 3) := by decide +kernel
theorem dX6_close_66 : decode cX6_close 66 = .ok (.iload_n 3, 1) := by decide +kernel
theorem dX6_close_67 : decode cX6_close 67 = .ok (.goto 5, 3) := by decide +kernel
theorem dX6_close_70 : decode cX6_close 70 = .ok (.bipush (-9), 2) := by decide +kernel
theorem dX6_close_72 : decode cX6_close 72 = .ok (.ireturn, 1) := by decide +kernel
theorem dX6_bits_0 : decode cX6_bits 0 = .ok (.iload_n 1, 1) := by decide +kernel
theorem dX6_bits_1 : decode cX6_bits 1 = .ok (.iload_n 2, 1) := by decide +kernel
theorem dX6_bits_2 : decode cX6_bits 2 = .ok (.iload_n 3, 1) := by decide +kernel
theorem dX6_bits_3 : decode cX6_bits 3 = .ok (.iload 4, 2) := by decide +kernel
theorem dX6_bits_5 : decode cX6_bits 5 = .ok (.invokestatic 137, 3) := by decide +kernel
theorem dX6_bits_8 : decode cX6_bits 8 = .ok (.ifCond .eq 17, 3) := by decide +kernel
theorem dX6_bits_11 : decode cX6_bits 11 = .ok (.iload_n 1, 1) := by decide +kernel
theorem dX6_bits_12 : decode cX6_bits 12 = .ok (.iload_n 2, 1) := by decide +kernel
theorem dX6_bits_13 : decode cX6_bits 13 = .ok (.iload_n 3, 1) := by decide +kernel
theorem dX6_bits_14 : decode cX6_bits 14 = .ok (.iload 4, 2) := by decide +kernel
theorem dX6_bits_16 : decode cX6_bits 16 = .ok (.invokestatic 141, 3) := by decide +kernel
theorem dX6_bits_19 : decode cX6_bits 19 = .ok (.invokestatic 85, 3) := by decide +kernel
theorem dX6_bits_22 : decode cX6_bits 22 = .ok (.goto 4, 3) := by decide +kernel
theorem dX6_bits_25 : decode cX6_bits 25 = .ok (.iconst (-1), 1) := by decide +kernel
theorem dX6_bits_26 : decode cX6_bits 26 = .ok (.ireturn, 1) := by decide +kernel
theorem dX6_apart_0 : decode cX6_apart 0 = .ok (.aload_n 0, 1) := by decide +kernel
theorem dX6_apart_1 : decode cX6_apart 1 = .ok (.invokevirtual 109, 3) := by decide +kernel
theorem dX6_apart_4 : decode cX6_apart 4 = .ok (.aload_n 0, 1) := by decide +kernel
theorem dX6_apart_5 : decode cX6_apart 5 = .ok (.getfield 79, 3) := by decide +kernel
theorem dX6_apart_8 : decode cX6_apart 8 = .ok (.ifCond .ne 6, 3) := by decide +kernel
theorem dX6_apart_11 : decode cX6_apart 11 = .ok (.ldc 144, 2) := by decide +kernel
theorem dX6_apart_13 : decode cX6_apart 13 = .ok (.ireturn, 1) := by decide +kernel
theorem dX6_apart_14 : decode cX6_apart 14 = .ok (.aload_n 0, 1) := by decide +kernel
theorem dX6_apart_15 : decode cX6_apart 15 = .ok (.getfield 7, 3) := by decide +kernel
theorem dX6_apart_18 : decode cX6_apart 18 = .ok (.iconst 3, 1) := by decide +kernel
theorem dX6_apart_19 : decode cX6_apart 19 = .ok (.iaload, 1) := by decide +kernel
theorem dX6_apart_20 : decode cX6_apart 20 = .ok (.bipush 8, 2) := by decide +kernel
theorem dX6_apart_22 : decode cX6_apart 22 = .ok (.idiv, 1) := by decide +kernel
theorem dX6_apart_23 : decode cX6_apart 23 = .ok (.aload_n 0, 1) := by decide +kernel
theorem dX6_apart_24 : decode cX6_apart 24 = .ok (.invokevirtual 116, 3) := by decide +kernel
theorem dX6_apart_27 : decode cX6_apart 27 = .ok (.bipush 8, 2) := by decide +kernel
theorem dX6_apart_29 : decode cX6_apart 29 = .ok (.idiv, 1) := by decide +kernel
theorem dX6_apart_30 : decode cX6_apart 30 = .ok (.isub, 1) := by decide +kernel
theorem dX6_apart_31 : decode cX6_apart 31 = .ok (.sipush 1440, 3) := by decide +kernel
theorem dX6_apart_34 : decode cX6_apart 34 = .ok (.iadd, 1) := by decide +kernel
theorem dX6_apart_35 : decode cX6_apart 35 = .ok (.sipush 1440, 3) := by decide +kernel
theorem dX6_apart_38 : decode cX6_apart 38 = .ok (.irem, 1) := by decide +kernel
theorem dX6_apart_39 : decode cX6_apart 39 = .ok (.istore_n 1, 1) := by decide +kernel
theorem dX6_apart_40 : decode cX6_apart 40 = .ok (.iload_n 1, 1) := by decide +kernel
theorem dX6_apart_41 : decode cX6_apart 41 = .ok (.sipush 720, 3) := by decide +kernel
theorem dX6_apart_44 : decode cX6_apart 44 = .ok (.if_icmp .le 11, 3) := by decide +kernel
theorem dX6_apart_47 : decode cX6_apart 47 = .ok (.iload_n 1, 1) := by decide +kernel
theorem dX6_apart_48 : decode cX6_apart 48 = .ok (.sipush 1440, 3) := by decide +kernel
theorem dX6_apart_51 : decode cX6_apart 51 = .ok (.isub, 1) := by decide +kernel
theorem dX6_apart_52 : decode cX6_apart 52 = .ok (.goto 4, 3) := by decide +kernel
theorem dX6_apart_55 : decode cX6_apart 55 = .ok (.iload_n 1, 1) := by decide +kernel
theorem dX6_apart_56 : decode cX6_apart 56 = .ok (.ireturn, 1) := by decide +kernel
theorem dX6_clock_0 : decode cX6_clock 0 = .ok (.iload_n 1, 1) := by decide +kernel
theorem dX6_clock_1 : decode cX6_clock 1 = .ok (.iconst 0, 1) := by decide +kernel
theorem dX6_clock_2 : decode cX6_clock 2 = .ok (.bipush 7, 2) := by decide +kernel
theorem dX6_clock_4 : decode cX6_clock 4 = .ok (.invokestatic 47, 3) := by decide +kernel
theorem dX6_clock_7 : decode cX6_clock 7 = .ok (.ifCond .eq 14, 3) := by decide +kernel
theorem dX6_clock_10 : decode cX6_clock 10 = .ok (.aload_n 0, 1) := by decide +kernel
theorem dX6_clock_11 : decode cX6_clock 11 = .ok (.getfield 7, 3) := by decide +kernel
theorem dX6_clock_14 : decode cX6_clock 14 = .ok (.iconst 3, 1) := by decide +kernel
theorem dX6_clock_15 : decode cX6_clock 15 = .ok (.iaload, 1) := by decide +kernel
theorem dX6_clock_16 : decode cX6_clock 16 = .ok (.bipush (-9), 2) := by decide +kernel
theorem dX6_clock_18 : decode cX6_clock 18 = .ok (.if_icmp .ne 6, 3) := by decide +kernel
theorem dX6_clock_21 : decode cX6_clock 21 = .ok (.ldc 144, 2) := by decide +kernel
theorem dX6_clock_23 : decode cX6_clock 23 = .ok (.ireturn, 1) := by decide +kernel
theorem dX6_clock_24 : decode cX6_clock 24 = .ok (.aload_n 0, 1) := by decide +kernel
theorem dX6_clock_25 : decode cX6_clock 25 = .ok (.getfield 7, 3) := by decide +kernel
theorem dX6_clock_28 : decode cX6_clock 28 = .ok (.iconst 2, 1) := by decide +kernel
theorem dX6_clock_29 : decode cX6_clock 29 = .ok (.iaload, 1) := by decide +kernel
theorem dX6_clock_30 : decode cX6_clock 30 = .ok (.aload_n 0, 1) := by decide +kernel
theorem dX6_clock_31 : decode cX6_clock 31 = .ok (.getfield 7, 3) := by decide +kernel
theorem dX6_clock_34 : decode cX6_clock 34 = .ok (.iconst 4, 1) := by decide +kernel
theorem dX6_clock_35 : decode cX6_clock 35 = .ok (.iaload, 1) := by decide +kernel
theorem dX6_clock_36 : decode cX6_clock 36 = .ok (.imul, 1) := by decide +kernel
theorem dX6_clock_37 : decode cX6_clock 37 = .ok (.istore_n 2, 1) := by decide +kernel
theorem dX6_clock_38 : decode cX6_clock 38 = .ok (.iload_n 1, 1) := by decide +kernel
theorem dX6_clock_39 : decode cX6_clock 39 = .ok (.tableswitch 56 4 7 #[29, 36, 38, 51], 29) := by decide +kernel
theorem dX6_clock_68 : decode cX6_clock 68 = .ok (.aload_n 0, 1) := by decide +kernel
theorem dX6_clock_69 : decode cX6_clock 69 = .ok (.getfield 7, 3) := by decide +kernel
theorem dX6_clock_72 : decode cX6_clock 72 = .ok (.iconst 4, 1) := by decide +kernel
theorem dX6_clock_73 : decode cX6_clock 73 = .ok (.iaload, 1) := by decide +kernel
theorem dX6_clock_74 : decode cX6_clock 74 = .ok (.ireturn, 1) := by decide +kernel
theorem dX6_clock_75 : decode cX6_clock 75 = .ok (.iload_n 2, 1) := by decide +kernel
theorem dX6_clock_76 : decode cX6_clock 76 = .ok (.ireturn, 1) := by decide +kernel
theorem dX6_clock_77 : decode cX6_clock 77 = .ok (.iload_n 2, 1) := by decide +kernel
theorem dX6_clock_78 : decode cX6_clock 78 = .ok (.sipush 500, 3) := by decide +kernel
theorem dX6_clock_81 : decode cX6_clock 81 = .ok (.if_icmp .le 7, 3) := by decide +kernel
theorem dX6_clock_84 : decode cX6_clock 84 = .ok (.iconst 1, 1) := by decide +kernel
theorem dX6_clock_85 : decode cX6_clock 85 = .ok (.goto 4, 3) := by decide +kernel
theorem dX6_clock_88 : decode cX6_clock 88 = .ok (.iconst 0, 1) := by decide +kernel
theorem dX6_clock_89 : decode cX6_clock 89 = .ok (.ireturn, 1) := by decide +kernel
theorem dX6_clock_90 : decode cX6_clock 90 = .ok (.aload_n 0, 1) := by decide +kernel
theorem dX6_clock_91 : decode cX6_clock 91 = .ok (.invokevirtual 145, 3) := by decide +kernel
theorem dX6_clock_94 : decode cX6_clock 94 = .ok (.ireturn, 1) := by decide +kernel
theorem dX6_clock_95 : decode cX6_clock 95 = .ok (.aload_n 0, 1) := by decide +kernel
theorem dX6_clock_96 : decode cX6_clock 96 = .ok (.getfield 7, 3) := by decide +kernel
theorem dX6_clock_99 : decode cX6_clock 99 = .ok (.iconst 3, 1) := by decide +kernel
theorem dX6_clock_100 : decode cX6_clock 100 = .ok (.iaload, 1) := by decide +kernel
theorem dX6_clock_101 : decode cX6_clock 101 = .ok (.iload_n 1, 1) := by decide +kernel
theorem dX6_clock_102 : decode cX6_clock 102 = .ok (.invokestatic 134, 3) := by decide +kernel
theorem dX6_clock_105 : decode cX6_clock 105 = .ok (.ireturn, 1) := by decide +kernel
theorem dX6_keep_0 : decode cX6_keep 0 = .ok (.iload_n 1, 1) := by decide +kernel
theorem dX6_keep_1 : decode cX6_keep 1 = .ok (.iconst 0, 1) := by decide +kernel
theorem dX6_keep_2 : decode cX6_keep 2 = .ok (.iconst 1, 1) := by decide +kernel
theorem dX6_keep_3 : decode cX6_keep 3 = .ok (.invokestatic 47, 3) := by decide +kernel
theorem dX6_keep_6 : decode cX6_keep 6 = .ok (.ifCond .ne 5, 3) := by decide +kernel
theorem dX6_keep_9 : decode cX6_keep 9 = .ok (.iconst (-1), 1) := by decide +kernel
theorem dX6_keep_10 : decode cX6_keep 10 = .ok (.ireturn, 1) := by decide +kernel
theorem dX6_keep_11 : decode cX6_keep 11 = .ok (.aload_n 0, 1) := by decide +kernel
theorem dX6_keep_12 : decode cX6_keep 12 = .ok (.getfield 16, 3) := by decide +kernel
theorem dX6_keep_15 : decode cX6_keep 15 = .ok (.iload_n 1, 1) := by decide +kernel
theorem dX6_keep_16 : decode cX6_keep 16 = .ok (.iconst 1, 1) := by decide +kernel
theorem dX6_keep_17 : decode cX6_keep 17 = .ok (.bastore, 1) := by decide +kernel
theorem dX6_keep_18 : decode cX6_keep 18 = .ok (.iconst 0, 1) := by decide +kernel
theorem dX6_keep_19 : decode cX6_keep 19 = .ok (.istore_n 2, 1) := by decide +kernel
theorem dX6_keep_20 : decode cX6_keep 20 = .ok (.iload_n 2, 1) := by decide +kernel
theorem dX6_keep_21 : decode cX6_keep 21 = .ok (.bipush 126, 2) := by decide +kernel
theorem dX6_keep_23 : decode cX6_keep 23 = .ok (.if_icmp .ge 26, 3) := by decide +kernel
theorem dX6_keep_26 : decode cX6_keep 26 = .ok (.aload_n 0, 1) := by decide +kernel
theorem dX6_keep_27 : decode cX6_keep 27 = .ok (.getfield 20, 3) := by decide +kernel
theorem dX6_keep_30 : decode cX6_keep 30 = .ok (.bipush 126, 2) := by decide +kernel
theorem dX6_keep_32 : decode cX6_keep 32 = .ok (.iload_n 1, 1) := by decide +kernel
theorem dX6_keep_33 : decode cX6_keep 33 = .ok (.imul, 1) := by decide +kernel
theorem dX6_keep_34 : decode cX6_keep 34 = .ok (.iload_n 2, 1) := by decide +kernel
theorem dX6_keep_35 : decode cX6_keep 35 = .ok (.iadd, 1) := by decide +kernel
theorem dX6_keep_36 : decode cX6_keep 36 = .ok (.aload_n 0, 1) := by decide +kernel
theorem dX6_keep_37 : decode cX6_keep 37 = .ok (.getfield 7, 3) := by decide +kernel
theorem dX6_keep_40 : decode cX6_keep 40 = .ok (.iload_n 2, 1) := by decide +kernel
theorem dX6_keep_41 : decode cX6_keep 41 = .ok (.iaload, 1) := by decide +kernel
theorem dX6_keep_42 : decode cX6_keep 42 = .ok (.iastore, 1) := by decide +kernel
theorem dX6_keep_43 : decode cX6_keep 43 = .ok (.iinc 2 1, 3) := by decide +kernel
theorem dX6_keep_46 : decode cX6_keep 46 = .ok (.goto (-26), 3) := by decide +kernel
theorem dX6_keep_49 : decode cX6_keep 49 = .ok (.aload_n 0, 1) := by decide +kernel
theorem dX6_keep_50 : decode cX6_keep 50 = .ok (.getfield 7, 3) := by decide +kernel
theorem dX6_keep_53 : decode cX6_keep 53 = .ok (.iconst 0, 1) := by decide +kernel
theorem dX6_keep_54 : decode cX6_keep 54 = .ok (.iaload, 1) := by decide +kernel
theorem dX6_keep_55 : decode cX6_keep 55 = .ok (.ireturn, 1) := by decide +kernel
theorem dX6_back_0 : decode cX6_back 0 = .ok (.iload_n 1, 1) := by decide +kernel
theorem dX6_back_1 : decode cX6_back 1 = .ok (.iconst 0, 1) := by decide +kernel
theorem dX6_back_2 : decode cX6_back 2 = .ok (.iconst 1, 1) := by decide +kernel
theorem dX6_back_3 : decode cX6_back 3 = .ok (.invokestatic 47, 3) := by decide +kernel
theorem dX6_back_6 : decode cX6_back 6 = .ok (.ifCond .ne 5, 3) := by decide +kernel
theorem dX6_back_9 : decode cX6_back 9 = .ok (.iconst (-1), 1) := by decide +kernel
theorem dX6_back_10 : decode cX6_back 10 = .ok (.ireturn, 1) := by decide +kernel
theorem dX6_back_11 : decode cX6_back 11 = .ok (.aload_n 0, 1) := by decide +kernel
theorem dX6_back_12 : decode cX6_back 12 = .ok (.getfield 16, 3) := by decide +kernel
theorem dX6_back_15 : decode cX6_back 15 = .ok (.iload_n 1, 1) := by decide +kernel
theorem dX6_back_16 : decode cX6_back 16 = .ok (.baload, 1) := by decide +kernel
theorem dX6_back_17 : decode cX6_back 17 = .ok (.ifCond .ne 6, 3) := by decide +kernel
theorem dX6_back_20 : decode cX6_back 20 = .ok (.bipush (-2), 2) := by decide +kernel
theorem dX6_back_22 : decode cX6_back 22 = .ok (.ireturn, 1) := by decide +kernel
theorem dX6_back_23 : decode cX6_back 23 = .ok (.iconst 0, 1) := by decide +kernel
theorem dX6_back_24 : decode cX6_back 24 = .ok (.istore_n 2, 1) := by decide +kernel
theorem dX6_back_25 : decode cX6_back 25 = .ok (.iload_n 2, 1) := by decide +kernel
theorem dX6_back_26 : decode cX6_back 26 = .ok (.bipush 126, 2) := by decide +kernel
theorem dX6_back_28 : decode cX6_back 28 = .ok (.if_icmp .ge 26, 3) := by decide +kernel
theorem dX6_back_31 : decode cX6_back 31 = .ok (.aload_n 0, 1) := by decide +kernel
theorem dX6_back_32 : decode cX6_back 32 = .ok (.getfield 7, 3) := by decide +kernel
theorem dX6_back_35 : decode cX6_back 35 = .ok (.iload_n 2, 1) := by decide +kernel
theorem dX6_back_36 : decode cX6_back 36 = .ok (.aload_n 0, 1) := by decide +kernel
theorem dX6_back_37 : decode cX6_back 37 = .ok (.getfield 20, 3) := by decide +kernel
theorem dX6_back_40 : decode cX6_back 40 = .ok (.bipush 126, 2) := by decide +kernel
theorem dX6_back_42 : decode cX6_back 42 = .ok (.iload_n 1, 1) := by decide +kernel
theorem dX6_back_43 : decode cX6_back 43 = .ok (.imul, 1) := by decide +kernel
theorem dX6_back_44 : decode cX6_back 44 = .ok (.iload_n 2, 1) := by decide +kernel
theorem dX6_back_45 : decode cX6_back 45 = .ok (.iadd, 1) := by decide +kernel
theorem dX6_back_46 : decode cX6_back 46 = .ok (.iaload, 1) := by decide +kernel
theorem dX6_back_47 : decode cX6_back 47 = .ok (.iastore, 1) := by decide +kernel
theorem dX6_back_48 : decode cX6_back 48 = .ok (.iinc 2 1, 3) := by decide +kernel
theorem dX6_back_51 : decode cX6_back 51 = .ok (.goto (-26), 3) := by decide +kernel
theorem dX6_back_54 : decode cX6_back 54 = .ok (.aload_n 0, 1) := by decide +kernel
theorem dX6_back_55 : decode cX6_back 55 = .ok (.iconst 0, 1) := by decide +kernel
theorem dX6_back_56 : decode cX6_back 56 = .ok (.putfield 55, 3) := by decide +kernel
theorem dX6_back_59 : decode cX6_back 59 = .ok (.aload_n 0, 1) := by decide +kernel
theorem dX6_back_60 : decode cX6_back 60 = .ok (.iconst 0, 1) := by decide +kernel
theorem dX6_back_61 : decode cX6_back 61 = .ok (.putfield 58, 3) := by decide +kernel
theorem dX6_back_64 : decode cX6_back 64 = .ok (.aload_n 0, 1) := by decide +kernel
theorem dX6_back_65 : decode cX6_back 65 = .ok (.getfield 7, 3) := by decide +kernel
theorem dX6_back_68 : decode cX6_back 68 = .ok (.iconst 0, 1) := by decide +kernel
theorem dX6_back_69 : decode cX6_back 69 = .ok (.iaload, 1) := by decide +kernel
theorem dX6_back_70 : decode cX6_back 70 = .ok (.ireturn, 1) := by decide +kernel
theorem dX6_count_0 : decode cX6_count 0 = .ok (.aload_n 0, 1) := by decide +kernel
theorem dX6_count_1 : decode cX6_count 1 = .ok (.invokevirtual 109, 3) := by decide +kernel
theorem dX6_count_4 : decode cX6_count 4 = .ok (.iload_n 1, 1) := by decide +kernel
theorem dX6_count_5 : decode cX6_count 5 = .ok (.tableswitch 96 0 6 #[43, 50, 55, 60, 67, 74, 91], 43) := by decide +kernel
theorem dX6_count_48 : decode cX6_count 48 = .ok (.aload_n 0, 1) := by decide +kernel
theorem dX6_count_49 : decode cX6_count 49 = .ok (.getfield 7, 3) := by decide +kernel
theorem dX6_count_52 : decode cX6_count 52 = .ok (.iconst 0, 1) := by decide +kernel
theorem dX6_count_53 : decode cX6_count 53 = .ok (.iaload, 1) := by decide +kernel
theorem dX6_count_54 : decode cX6_count 54 = .ok (.ireturn, 1) := by decide +kernel
theorem dX6_count_55 : decode cX6_count 55 = .ok (.aload_n 0, 1) := by decide +kernel
theorem dX6_count_56 : decode cX6_count 56 = .ok (.getfield 76, 3) := by decide +kernel
theorem dX6_count_59 : decode cX6_count 59 = .ok (.ireturn, 1) := by decide +kernel
theorem dX6_count_60 : decode cX6_count 60 = .ok (.aload_n 0, 1) := by decide +kernel
theorem dX6_count_61 : decode cX6_count 61 = .ok (.getfield 79, 3) := by decide +kernel
theorem dX6_count_64 : decode cX6_count 64 = .ok (.ireturn, 1) := by decide +kernel
theorem dX6_count_65 : decode cX6_count 65 = .ok (.aload_n 0, 1) := by decide +kernel
theorem dX6_count_66 : decode cX6_count 66 = .ok (.getfield 7, 3) := by decide +kernel
theorem dX6_count_69 : decode cX6_count 69 = .ok (.iconst 1, 1) := by decide +kernel
theorem dX6_count_70 : decode cX6_count 70 = .ok (.iaload, 1) := by decide +kernel
theorem dX6_count_71 : decode cX6_count 71 = .ok (.ireturn, 1) := by decide +kernel
theorem dX6_count_72 : decode cX6_count 72 = .ok (.aload_n 0, 1) := by decide +kernel
theorem dX6_count_73 : decode cX6_count 73 = .ok (.getfield 7, 3) := by decide +kernel
theorem dX6_count_76 : decode cX6_count 76 = .ok (.iconst 2, 1) := by decide +kernel
theorem dX6_count_77 : decode cX6_count 77 = .ok (.iaload, 1) := by decide +kernel
theorem dX6_count_78 : decode cX6_count 78 = .ok (.ireturn, 1) := by decide +kernel
theorem dX6_count_79 : decode cX6_count 79 = .ok (.aload_n 0, 1) := by decide +kernel
theorem dX6_count_80 : decode cX6_count 80 = .ok (.getfield 7, 3) := by decide +kernel
theorem dX6_count_83 : decode cX6_count 83 = .ok (.iconst 3, 1) := by decide +kernel
theorem dX6_count_84 : decode cX6_count 84 = .ok (.iaload, 1) := by decide +kernel
theorem dX6_count_85 : decode cX6_count 85 = .ok (.bipush (-9), 2) := by decide +kernel
theorem dX6_count_87 : decode cX6_count 87 = .ok (.if_icmp .ne 7, 3) := by decide +kernel
theorem dX6_count_90 : decode cX6_count 90 = .ok (.iconst 0, 1) := by decide +kernel
theorem dX6_count_91 : decode cX6_count 91 = .ok (.goto 4, 3) := by decide +kernel
theorem dX6_count_94 : decode cX6_count 94 = .ok (.iconst 1, 1) := by decide +kernel
theorem dX6_count_95 : decode cX6_count 95 = .ok (.ireturn, 1) := by decide +kernel
theorem dX6_count_96 : decode cX6_count 96 = .ok (.aload_n 0, 1) := by decide +kernel
theorem dX6_count_97 : decode cX6_count 97 = .ok (.getfield 55, 3) := by decide +kernel
theorem dX6_count_100 : decode cX6_count 100 = .ok (.ireturn, 1) := by decide +kernel
theorem dX6_count_101 : decode cX6_count 101 = .ok (.iconst (-1), 1) := by decide +kernel
theorem dX6_count_102 : decode cX6_count 102 = .ok (.ireturn, 1) := by decide +kernel
end
section
theorem dL_law_0 : decode cL_law 0 = .ok (.new 7, 3) := by decide +kernel
theorem dL_law_3 : decode cL_law 3 = .ok (.dup, 1) := by decide +kernel
theorem dL_law_4 : decode cL_law 4 = .ok (.invokespecial 9, 3) := by decide +kernel
theorem dL_law_7 : decode cL_law 7 = .ok (.astore_n 1, 1) := by decide +kernel
theorem dL_law_8 : decode cL_law 8 = .ok (.new 10, 3) := by decide +kernel
theorem dL_law_11 : decode cL_law 11 = .ok (.dup, 1) := by decide +kernel
theorem dL_law_12 : decode cL_law 12 = .ok (.invokespecial 12, 3) := by decide +kernel
theorem dL_law_15 : decode cL_law 15 = .ok (.astore_n 2, 1) := by decide +kernel
theorem dL_law_16 : decode cL_law 16 = .ok (.iconst 0, 1) := by decide +kernel
theorem dL_law_17 : decode cL_law 17 = .ok (.istore_n 3, 1) := by decide +kernel
theorem dL_law_18 : decode cL_law 18 = .ok (.iload_n 3, 1) := by decide +kernel
theorem dL_law_19 : decode cL_law 19 = .ok (.aload_n 0, 1) := by decide +kernel
theorem dL_law_20 : decode cL_law 20 = .ok (.arraylength, 1) := by decide +kernel
theorem dL_law_21 : decode cL_law 21 = .ok (.iconst 5, 1) := by decide +kernel
theorem dL_law_22 : decode cL_law 22 = .ok (.isub, 1) := by decide +kernel
theorem dL_law_23 : decode cL_law 23 = .ok (.if_icmp .gt 587, 3) := by decide +kernel
theorem dL_law_26 : decode cL_law 26 = .ok (.aload_n 0, 1) := by decide +kernel
theorem dL_law_27 : decode cL_law 27 = .ok (.iload_n 3, 1) := by decide +kernel
theorem dL_law_28 : decode cL_law 28 = .ok (.iaload, 1) := by decide +kernel
theorem dL_law_29 : decode cL_law 29 = .ok (.bipush 31, 2) := by decide +kernel
theorem dL_law_31 : decode cL_law 31 = .ok (.iand, 1) := by decide +kernel
theorem dL_law_32 : decode cL_law 32 = .ok (.tableswitch 572 0 17 #[88, 111, 144, 167, 190, 213, 226, 249, 262, 285, 318, 341, 394, 427, 480, 503, 526, 549], 88) := by decide +kernel
theorem dL_law_120 : decode cL_law 120 = .ok (.aload_n 1, 1) := by decide +kernel
theorem dL_law_121 : decode cL_law 121 = .ok (.aload_n 0, 1) := by decide +kernel
theorem dL_law_122 : decode cL_law 122 = .ok (.iload_n 3, 1) := by decide +kernel
theorem dL_law_123 : decode cL_law 123 = .ok (.iconst 1, 1) := by decide +kernel
theorem dL_law_124 : decode cL_law 124 = .ok (.iadd, 1) := by decide +kernel
theorem dL_law_125 : decode cL_law 125 = .ok (.iaload, 1) := by decide +kernel
theorem dL_law_126 : decode cL_law 126 = .ok (.invokevirtual 13, 3) := by decide +kernel
theorem dL_law_129 : decode cL_law 129 = .ok (.aload_n 2, 1) := by decide +kernel
theorem dL_law_130 : decode cL_law 130 = .ok (.aload_n 0, 1) := by decide +kernel
theorem dL_law_131 : decode cL_law 131 = .ok (.iload_n 3, 1) := by decide +kernel
theorem dL_law_132 : decode cL_law 132 = .ok (.iconst 1, 1) := by decide +kernel
theorem dL_law_133 : decode cL_law 133 = .ok (.iadd, 1) := by decide +kernel
theorem dL_law_134 : decode cL_law 134 = .ok (.iaload, 1) := by decide +kernel
theorem dL_law_135 : decode cL_law 135 = .ok (.invokevirtual 17, 3) := by decide +kernel
theorem dL_law_138 : decode cL_law 138 = .ok (.if_icmp .eq 466, 3) := by decide +kernel
theorem dL_law_141 : decode cL_law 141 = .ok (.iconst 0, 1) := by decide +kernel
theorem dL_law_142 : decode cL_law 142 = .ok (.ireturn, 1) := by decide +kernel
theorem dL_law_143 : decode cL_law 143 = .ok (.aload_n 1, 1) := by decide +kernel
theorem dL_law_144 : decode cL_law 144 = .ok (.aload_n 0, 1) := by decide +kernel
theorem dL_law_145 : decode cL_law 145 = .ok (.iload_n 3, 1) := by decide +kernel
theorem dL_law_146 : decode cL_law 146 = .ok (.iconst 1, 1) := by decide +kernel
theorem dL_law_147 : decode cL_law 147 = .ok (.iadd, 1) := by decide +kernel
theorem dL_law_148 : decode cL_law 148 = .ok (.iaload, 1) := by decide +kernel
theorem dL_law_149 : decode cL_law 149 = .ok (.aload_n 0, 1) := by decide +kernel
theorem dL_law_150 : decode cL_law 150 = .ok (.iload_n 3, 1) := by decide +kernel
theorem dL_law_151 : decode cL_law 151 = .ok (.iconst 2, 1) := by decide +kernel
theorem dL_law_152 : decode cL_law 152 = .ok (.iadd, 1) := by decide +kernel
theorem dL_law_153 : decode cL_law 153 = .ok (.iaload, 1) := by decide +kernel
theorem dL_law_154 : decode cL_law 154 = .ok (.invokevirtual 18, 3) := by decide +kernel
theorem dL_law_157 : decode cL_law 157 = .ok (.aload_n 2, 1) := by decide +kernel
theorem dL_law_158 : decode cL_law 158 = .ok (.aload_n 0, 1) := by decide +kernel
theorem dL_law_159 : decode cL_law 159 = .ok (.iload_n 3, 1) := by decide +kernel
theorem dL_law_160 : decode cL_law 160 = .ok (.iconst 1, 1) := by decide +kernel
theorem dL_law_161 : decode cL_law 161 = .ok (.iadd, 1) := by decide +kernel
theorem dL_law_162 : decode cL_law 162 = .ok (.iaload, 1) := by decide +kernel
theorem dL_law_163 : decode cL_law 163 = .ok (.aload_n 0, 1) := by decide +kernel
theorem dL_law_164 : decode cL_law 164 = .ok (.iload_n 3, 1) := by decide +kernel
theorem dL_law_165 : decode cL_law 165 = .ok (.iconst 2, 1) := by decide +kernel
theorem dL_law_166 : decode cL_law 166 = .ok (.iadd, 1) := by decide +kernel
theorem dL_law_167 : decode cL_law 167 = .ok (.iaload, 1) := by decide +kernel
theorem dL_law_168 : decode cL_law 168 = .ok (.invokevirtual 22, 3) := by decide +kernel
theorem dL_law_171 : decode cL_law 171 = .ok (.if_icmp .eq 433, 3) := by decide +kernel
theorem dL_law_174 : decode cL_law 174 = .ok (.iconst 0, 1) := by decide +kernel
theorem dL_law_175 : decode cL_law 175 = .ok (.ireturn, 1) := by decide +kernel
theorem dL_law_176 : decode cL_law 176 = .ok (.aload_n 1, 1) := by decide +kernel
theorem dL_law_177 : decode cL_law 177 = .ok (.aload_n 0, 1) := by decide +kernel
theorem dL_law_178 : decode cL_law 178 = .ok (.iload_n 3, 1) := by decide +kernel
theorem dL_law_179 : decode cL_law 179 = .ok (.iconst 1, 1) := by decide +kernel
theorem dL_law_180 : decode cL_law 180 = .ok (.iadd, 1) := by decide +kernel
theorem dL_law_181 : decode cL_law 181 = .ok (.iaload, 1) := by decide +kernel
theorem dL_law_182 : decode cL_law 182 = .ok (.invokevirtual 23, 3) := by decide +kernel
theorem dL_law_185 : decode cL_law 185 = .ok (.aload_n 2, 1) := by decide +kernel
theorem dL_law_186 : decode cL_law 186 = .ok (.aload_n 0, 1) := by decide +kernel
theorem dL_law_187 : decode cL_law 187 = .ok (.iload_n 3, 1) := by decide +kernel
theorem dL_law_188 : decode cL_law 188 = .ok (.iconst 1, 1) := by decide +kernel
theorem dL_law_189 : decode cL_law 189 = .ok (.iadd, 1) := by decide +kernel
theorem dL_law_190 : decode cL_law 190 = .ok (.iaload, 1) := by decide +kernel
theorem dL_law_191 : decode cL_law 191 = .ok (.invokevirtual 26, 3) := by decide +kernel
theorem dL_law_194 : decode cL_law 194 = .ok (.if_icmp .eq 410, 3) := by decide +kernel
theorem dL_law_197 : decode cL_law 197 = .ok (.iconst 0, 1) := by decide +kernel
theorem dL_law_198 : decode cL_law 198 = .ok (.ireturn, 1) := by decide +kernel
theorem dL_law_199 : decode cL_law 199 = .ok (.aload_n 1, 1) := by decide +kernel
theorem dL_law_200 : decode cL_law 200 = .ok (.aload_n 0, 1) := by decide +kernel
theorem dL_law_201 : decode cL_law 201 = .ok (.iload_n 3, 1) := by decide +kernel
theorem dL_law_202 : decode cL_law 202 = .ok (.iconst 1, 1) := by decide +kernel
theorem dL_law_203 : decode cL_law 203 = .ok (.iadd, 1) := by decide +kernel
theorem dL_law_204 : decode cL_law 204 = .ok (.iaload, 1) := by decide +kernel
theorem dL_law_205 : decode cL_law 205 = .ok (.invokevirtual 27, 3) := by decide +kernel
theorem dL_law_208 : decode cL_law 208 = .ok (.aload_n 2, 1) := by decide +kernel
theorem dL_law_209 : decode cL_law 209 = .ok (.aload_n 0, 1) := by decide +kernel
theorem dL_law_210 : decode cL_law 210 = .ok (.iload_n 3, 1) := by decide +kernel
theorem dL_law_211 : decode cL_law 211 = .ok (.iconst 1, 1) := by decide +kernel
theorem dL_law_212 : decode cL_law 212 = .ok (.iadd, 1) := by decide +kernel
theorem dL_law_213 : decode cL_law 213 = .ok (.iaload, 1) := by decide +kernel
theorem dL_law_214 : decode cL_law 214 = .ok (.invokevirtual 30, 3) := by decide +kernel
theorem dL_law_217 : decode cL_law 217 = .ok (.if_icmp .eq 387, 3) := by decide +kernel
theorem dL_law_220 : decode cL_law 220 = .ok (.iconst 0, 1) := by decide +kernel
theorem dL_law_221 : decode cL_law 221 = .ok (.ireturn, 1) := by decide +kernel
theorem dL_law_222 : decode cL_law 222 = .ok (.aload_n 1, 1) := by decide +kernel
theorem dL_law_223 : decode cL_law 223 = .ok (.aload_n 0, 1) := by decide +kernel
theorem dL_law_224 : decode cL_law 224 = .ok (.iload_n 3, 1) := by decide +kernel
theorem dL_law_225 : decode cL_law 225 = .ok (.iconst 1, 1) := by decide +kernel
theorem dL_law_226 : decode cL_law 226 = .ok (.iadd, 1) := by decide +kernel
theorem dL_law_227 : decode cL_law 227 = .ok (.iaload, 1) := by decide +kernel
theorem dL_law_228 : decode cL_law 228 = .ok (.invokevirtual 31, 3) := by decide +kernel
theorem dL_law_231 : decode cL_law 231 = .ok (.aload_n 2, 1) := by decide +kernel
theorem dL_law_232 : decode cL_law 232 = .ok (.aload_n 0, 1) := by decide +kernel
theorem dL_law_233 : decode cL_law 233 = .ok (.iload_n 3, 1) := by decide +kernel
theorem dL_law_234 : decode cL_law 234 = .ok (.iconst 1, 1) := by decide +kernel
theorem dL_law_235 : decode cL_law 235 = .ok (.iadd, 1) := by decide +kernel
theorem dL_law_236 : decode cL_law 236 = .ok (.iaload, 1) := by decide +kernel
theorem dL_law_237 : decode cL_law 237 = .ok (.invokevirtual 34, 3) := by decide +kernel
theorem dL_law_240 : decode cL_law 240 = .ok (.if_icmp .eq 364, 3) := by decide +kernel
theorem dL_law_243 : decode cL_law 243 = .ok (.iconst 0, 1) := by decide +kernel
theorem dL_law_244 : decode cL_law 244 = .ok (.ireturn, 1) := by decide +kernel
theorem dL_law_245 : decode cL_law 245 = .ok (.aload_n 1, 1) := by decide +kernel
theorem dL_law_246 : decode cL_law 246 = .ok (.invokevirtual 35, 3) := by decide +kernel
theorem dL_law_249 : decode cL_law 249 = .ok (.aload_n 2, 1) := by decide +kernel
theorem dL_law_250 : decode cL_law 250 = .ok (.invokevirtual 39, 3) := by decide +kernel
theorem dL_law_253 : decode cL_law 253 = .ok (.if_icmp .eq 351, 3) := by decide +kernel
theorem dL_law_256 : decode cL_law 256 = .ok (.iconst 0, 1) := by decide +kernel
theorem dL_law_257 : decode cL_law 257 = .ok (.ireturn, 1) := by decide +kernel
theorem dL_law_258 : decode cL_law 258 = .ok (.aload_n 1, 1) := by decide +kernel
theorem dL_law_259 : decode cL_law 259 = .ok (.aload_n 0, 1) := by decide +kernel
theorem dL_law_260 : decode cL_law 260 = .ok (.iload_n 3, 1) := by decide +kernel
theorem dL_law_261 : decode cL_law 261 = .ok (.iconst 1, 1) := by decide +kernel
theorem dL_law_262 : decode cL_law 262 = .ok (.iadd, 1) := by decide +kernel
theorem dL_law_263 : decode cL_law 263 = .ok (.iaload, 1) := by decide +kernel
theorem dL_law_264 : decode cL_law 264 = .ok (.invokevirtual 40, 3) := by decide +kernel
theorem dL_law_267 : decode cL_law 267 = .ok (.aload_n 2, 1) := by decide +kernel
theorem dL_law_268 : decode cL_law 268 = .ok (.aload_n 0, 1) := by decide +kernel
theorem dL_law_269 : decode cL_law 269 = .ok (.iload_n 3, 1) := by decide +kernel
theorem dL_law_270 : decode cL_law 270 = .ok (.iconst 1, 1) := by decide +kernel
theorem dL_law_271 : decode cL_law 271 = .ok (.iadd, 1) := by decide +kernel
theorem dL_law_272 : decode cL_law 272 = .ok (.iaload, 1) := by decide +kernel
theorem dL_law_273 : decode cL_law 273 = .ok (.invokevirtual 43, 3) := by decide +kernel
theorem dL_law_276 : decode cL_law 276 = .ok (.if_icmp .eq 328, 3) := by decide +kernel
theorem dL_law_279 : decode cL_law 279 = .ok (.iconst 0, 1) := by decide +kernel
theorem dL_law_280 : decode cL_law 280 = .ok (.ireturn, 1) := by decide +kernel
theorem dL_law_281 : decode cL_law 281 = .ok (.aload_n 1, 1) := by decide +kernel
theorem dL_law_282 : decode cL_law 282 = .ok (.invokevirtual 44, 3) := by decide +kernel
theorem dL_law_285 : decode cL_law 285 = .ok (.aload_n 2, 1) := by decide +kernel
theorem dL_law_286 : decode cL_law 286 = .ok (.invokevirtual 47, 3) := by decide +kernel
theorem dL_law_289 : decode cL_law 289 = .ok (.if_icmp .eq 315, 3) := by decide +kernel
theorem dL_law_292 : decode cL_law 292 = .ok (.iconst 0, 1) := by decide +kernel
theorem dL_law_293 : decode cL_law 293 = .ok (.ireturn, 1) := by decide +kernel
theorem dL_law_294 : decode cL_law 294 = .ok (.aload_n 1, 1) := by decide +kernel
theorem dL_law_295 : decode cL_law 295 = .ok (.aload_n 0, 1) := by decide +kernel
theorem dL_law_296 : decode cL_law 296 = .ok (.iload_n 3, 1) := by decide +kernel
theorem dL_law_297 : decode cL_law 297 = .ok (.iconst 1, 1) := by decide +kernel
theorem dL_law_298 : decode cL_law 298 = .ok (.iadd, 1) := by decide +kernel
theorem dL_law_299 : decode cL_law 299 = .ok (.iaload, 1) := by decide +kernel
theorem dL_law_300 : decode cL_law 300 = .ok (.invokevirtual 48, 3) := by decide +kernel
theorem dL_law_303 : decode cL_law 303 = .ok (.aload_n 2, 1) := by decide +kernel
theorem dL_law_304 : decode cL_law 304 = .ok (.aload_n 0, 1) := by decide +kernel
theorem dL_law_305 : decode cL_law 305 = .ok (.iload_n 3, 1) := by decide +kernel
theorem dL_law_306 : decode cL_law 306 = .ok (.iconst 1, 1) := by decide +kernel
theorem dL_law_307 : decode cL_law 307 = .ok (.iadd, 1) := by decide +kernel
theorem dL_law_308 : decode cL_law 308 = .ok (.iaload, 1) := by decide +kernel
theorem dL_law_309 : decode cL_law 309 = .ok (.invokevirtual 51, 3) := by decide +kernel
theorem dL_law_312 : decode cL_law 312 = .ok (.if_icmp .eq 292, 3) := by decide +kernel
theorem dL_law_315 : decode cL_law 315 = .ok (.iconst 0, 1) := by decide +kernel
theorem dL_law_316 : decode cL_law 316 = .ok (.ireturn, 1) := by decide +kernel
theorem dL_law_317 : decode cL_law 317 = .ok (.aload_n 1, 1) := by decide +kernel
theorem dL_law_318 : decode cL_law 318 = .ok (.aload_n 0, 1) := by decide +kernel
theorem dL_law_319 : decode cL_law 319 = .ok (.iload_n 3, 1) := by decide +kernel
theorem dL_law_320 : decode cL_law 320 = .ok (.iconst 1, 1) := by decide +kernel
theorem dL_law_321 : decode cL_law 321 = .ok (.iadd, 1) := by decide +kernel
theorem dL_law_322 : decode cL_law 322 = .ok (.iaload, 1) := by decide +kernel
theorem dL_law_323 : decode cL_law 323 = .ok (.aload_n 0, 1) := by decide +kernel
theorem dL_law_324 : decode cL_law 324 = .ok (.iload_n 3, 1) := by decide +kernel
theorem dL_law_325 : decode cL_law 325 = .ok (.iconst 2, 1) := by decide +kernel
theorem dL_law_326 : decode cL_law 326 = .ok (.iadd, 1) := by decide +kernel
theorem dL_law_327 : decode cL_law 327 = .ok (.iaload, 1) := by decide +kernel
theorem dL_law_328 : decode cL_law 328 = .ok (.invokevirtual 52, 3) := by decide +kernel
theorem dL_law_331 : decode cL_law 331 = .ok (.aload_n 2, 1) := by decide +kernel
theorem dL_law_332 : decode cL_law 332 = .ok (.aload_n 0, 1) := by decide +kernel
theorem dL_law_333 : decode cL_law 333 = .ok (.iload_n 3, 1) := by decide +kernel
theorem dL_law_334 : decode cL_law 334 = .ok (.iconst 1, 1) := by decide +kernel
theorem dL_law_335 : decode cL_law 335 = .ok (.iadd, 1) := by decide +kernel
theorem dL_law_336 : decode cL_law 336 = .ok (.iaload, 1) := by decide +kernel
theorem dL_law_337 : decode cL_law 337 = .ok (.aload_n 0, 1) := by decide +kernel
theorem dL_law_338 : decode cL_law 338 = .ok (.iload_n 3, 1) := by decide +kernel
theorem dL_law_339 : decode cL_law 339 = .ok (.iconst 2, 1) := by decide +kernel
theorem dL_law_340 : decode cL_law 340 = .ok (.iadd, 1) := by decide +kernel
theorem dL_law_341 : decode cL_law 341 = .ok (.iaload, 1) := by decide +kernel
theorem dL_law_342 : decode cL_law 342 = .ok (.invokevirtual 55, 3) := by decide +kernel
theorem dL_law_345 : decode cL_law 345 = .ok (.if_icmp .eq 259, 3) := by decide +kernel
theorem dL_law_348 : decode cL_law 348 = .ok (.iconst 0, 1) := by decide +kernel
theorem dL_law_349 : decode cL_law 349 = .ok (.ireturn, 1) := by decide +kernel
theorem dL_law_350 : decode cL_law 350 = .ok (.aload_n 1, 1) := by decide +kernel
theorem dL_law_351 : decode cL_law 351 = .ok (.aload_n 0, 1) := by decide +kernel
theorem dL_law_352 : decode cL_law 352 = .ok (.iload_n 3, 1) := by decide +kernel
theorem dL_law_353 : decode cL_law 353 = .ok (.iconst 1, 1) := by decide +kernel
theorem dL_law_354 : decode cL_law 354 = .ok (.iadd, 1) := by decide +kernel
theorem dL_law_355 : decode cL_law 355 = .ok (.iaload, 1) := by decide +kernel
theorem dL_law_356 : decode cL_law 356 = .ok (.invokevirtual 56, 3) := by decide +kernel
theorem dL_law_359 : decode cL_law 359 = .ok (.aload_n 2, 1) := by decide +kernel
theorem dL_law_360 : decode cL_law 360 = .ok (.aload_n 0, 1) := by decide +kernel
theorem dL_law_361 : decode cL_law 361 = .ok (.iload_n 3, 1) := by decide +kernel
theorem dL_law_362 : decode cL_law 362 = .ok (.iconst 1, 1) := by decide +kernel
theorem dL_law_363 : decode cL_law 363 = .ok (.iadd, 1) := by decide +kernel
theorem dL_law_364 : decode cL_law 364 = .ok (.iaload, 1) := by decide +kernel
theorem dL_law_365 : decode cL_law 365 = .ok (.invokevirtual 59, 3) := by decide +kernel
theorem dL_law_368 : decode cL_law 368 = .ok (.if_icmp .eq 236, 3) := by decide +kernel
theorem dL_law_371 : decode cL_law 371 = .ok (.iconst 0, 1) := by decide +kernel
theorem dL_law_372 : decode cL_law 372 = .ok (.ireturn, 1) := by decide +kernel
theorem dL_law_373 : decode cL_law 373 = .ok (.aload_n 1, 1) := by decide +kernel
theorem dL_law_374 : decode cL_law 374 = .ok (.aload_n 0, 1) := by decide +kernel
theorem dL_law_375 : decode cL_law 375 = .ok (.iload_n 3, 1) := by decide +kernel
theorem dL_law_376 : decode cL_law 376 = .ok (.iconst 1, 1) := by decide +kernel
theorem dL_law_377 : decode cL_law 377 = .ok (.iadd, 1) := by decide +kernel
theorem dL_law_378 : decode cL_law 378 = .ok (.iaload, 1) := by decide +kernel
theorem dL_law_379 : decode cL_law 379 = .ok (.aload_n 0, 1) := by decide +kernel
theorem dL_law_380 : decode cL_law 380 = .ok (.iload_n 3, 1) := by decide +kernel
theorem dL_law_381 : decode cL_law 381 = .ok (.iconst 2, 1) := by decide +kernel
theorem dL_law_382 : decode cL_law 382 = .ok (.iadd, 1) := by decide +kernel
theorem dL_law_383 : decode cL_law 383 = .ok (.iaload, 1) := by decide +kernel
theorem dL_law_384 : decode cL_law 384 = .ok (.aload_n 0, 1) := by decide +kernel
theorem dL_law_385 : decode cL_law 385 = .ok (.iload_n 3, 1) := by decide +kernel
theorem dL_law_386 : decode cL_law 386 = .ok (.iconst 3, 1) := by decide +kernel
theorem dL_law_387 : decode cL_law 387 = .ok (.iadd, 1) := by decide +kernel
theorem dL_law_388 : decode cL_law 388 = .ok (.iaload, 1) := by decide +kernel
theorem dL_law_389 : decode cL_law 389 = .ok (.aload_n 0, 1) := by decide +kernel
theorem dL_law_390 : decode cL_law 390 = .ok (.iload_n 3, 1) := by decide +kernel
theorem dL_law_391 : decode cL_law 391 = .ok (.iconst 4, 1) := by decide +kernel
theorem dL_law_392 : decode cL_law 392 = .ok (.iadd, 1) := by decide +kernel
theorem dL_law_393 : decode cL_law 393 = .ok (.iaload, 1) := by decide +kernel
theorem dL_law_394 : decode cL_law 394 = .ok (.invokevirtual 60, 3) := by decide +kernel
theorem dL_law_397 : decode cL_law 397 = .ok (.aload_n 2, 1) := by decide +kernel
theorem dL_law_398 : decode cL_law 398 = .ok (.aload_n 0, 1) := by decide +kernel
theorem dL_law_399 : decode cL_law 399 = .ok (.iload_n 3, 1) := by decide +kernel
theorem dL_law_400 : decode cL_law 400 = .ok (.iconst 1, 1) := by decide +kernel
theorem dL_law_401 : decode cL_law 401 = .ok (.iadd, 1) := by decide +kernel
theorem dL_law_402 : decode cL_law 402 = .ok (.iaload, 1) := by decide +kernel
theorem dL_law_403 : decode cL_law 403 = .ok (.aload_n 0, 1) := by decide +kernel
theorem dL_law_404 : decode cL_law 404 = .ok (.iload_n 3, 1) := by decide +kernel
theorem dL_law_405 : decode cL_law 405 = .ok (.iconst 2, 1) := by decide +kernel
theorem dL_law_406 : decode cL_law 406 = .ok (.iadd, 1) := by decide +kernel
theorem dL_law_407 : decode cL_law 407 = .ok (.iaload, 1) := by decide +kernel
theorem dL_law_408 : decode cL_law 408 = .ok (.aload_n 0, 1) := by decide +kernel
theorem dL_law_409 : decode cL_law 409 = .ok (.iload_n 3, 1) := by decide +kernel
theorem dL_law_410 : decode cL_law 410 = .ok (.iconst 3, 1) := by decide +kernel
theorem dL_law_411 : decode cL_law 411 = .ok (.iadd, 1) := by decide +kernel
theorem dL_law_412 : decode cL_law 412 = .ok (.iaload, 1) := by decide +kernel
theorem dL_law_413 : decode cL_law 413 = .ok (.aload_n 0, 1) := by decide +kernel
theorem dL_law_414 : decode cL_law 414 = .ok (.iload_n 3, 1) := by decide +kernel
theorem dL_law_415 : decode cL_law 415 = .ok (.iconst 4, 1) := by decide +kernel
theorem dL_law_416 : decode cL_law 416 = .ok (.iadd, 1) := by decide +kernel
theorem dL_law_417 : decode cL_law 417 = .ok (.iaload, 1) := by decide +kernel
theorem dL_law_418 : decode cL_law 418 = .ok (.invokevirtual 64, 3) := by decide +kernel
theorem dL_law_421 : decode cL_law 421 = .ok (.if_icmp .eq 183, 3) := by decide +kernel
theorem dL_law_424 : decode cL_law 424 = .ok (.iconst 0, 1) := by decide +kernel
theorem dL_law_425 : decode cL_law 425 = .ok (.ireturn, 1) := by decide +kernel
theorem dL_law_426 : decode cL_law 426 = .ok (.aload_n 1, 1) := by decide +kernel
theorem dL_law_427 : decode cL_law 427 = .ok (.aload_n 0, 1) := by decide +kernel
theorem dL_law_428 : decode cL_law 428 = .ok (.iload_n 3, 1) := by decide +kernel
theorem dL_law_429 : decode cL_law 429 = .ok (.iconst 1, 1) := by decide +kernel
theorem dL_law_430 : decode cL_law 430 = .ok (.iadd, 1) := by decide +kernel
theorem dL_law_431 : decode cL_law 431 = .ok (.iaload, 1) := by decide +kernel
theorem dL_law_432 : decode cL_law 432 = .ok (.aload_n 0, 1) := by decide +kernel
theorem dL_law_433 : decode cL_law 433 = .ok (.iload_n 3, 1) := by decide +kernel
theorem dL_law_434 : decode cL_law 434 = .ok (.iconst 2, 1) := by decide +kernel
theorem dL_law_435 : decode cL_law 435 = .ok (.iadd, 1) := by decide +kernel
theorem dL_law_436 : decode cL_law 436 = .ok (.iaload, 1) := by decide +kernel
theorem dL_law_437 : decode cL_law 437 = .ok (.invokevirtual 65, 3) := by decide +kernel
theorem dL_law_440 : decode cL_law 440 = .ok (.aload_n 2, 1) := by decide +kernel
theorem dL_law_441 : decode cL_law 441 = .ok (.aload_n 0, 1) := by decide +kernel
theorem dL_law_442 : decode cL_law 442 = .ok (.iload_n 3, 1) := by decide +kernel
theorem dL_law_443 : decode cL_law 443 = .ok (.iconst 1, 1) := by decide +kernel
theorem dL_law_444 : decode cL_law 444 = .ok (.iadd, 1) := by decide +kernel
theorem dL_law_445 : decode cL_law 445 = .ok (.iaload, 1) := by decide +kernel
theorem dL_law_446 : decode cL_law 446 = .ok (.aload_n 0, 1) := by decide +kernel
theorem dL_law_447 : decode cL_law 447 = .ok (.iload_n 3, 1) := by decide +kernel
theorem dL_law_448 : decode cL_law 448 = .ok (.iconst 2, 1) := by decide +kernel
theorem dL_law_449 : decode cL_law 449 = .ok (.iadd, 1) := by decide +kernel
theorem dL_law_450 : decode cL_law 450 = .ok (.iaload, 1) := by decide +kernel
theorem dL_law_451 : decode cL_law 451 = .ok (.invokevirtual 68, 3) := by decide +kernel
theorem dL_law_454 : decode cL_law 454 = .ok (.if_icmp .eq 150, 3) := by decide +kernel
theorem dL_law_457 : decode cL_law 457 = .ok (.iconst 0, 1) := by decide +kernel
theorem dL_law_458 : decode cL_law 458 = .ok (.ireturn, 1) := by decide +kernel
theorem dL_law_459 : decode cL_law 459 = .ok (.aload_n 1, 1) := by decide +kernel
theorem dL_law_460 : decode cL_law 460 = .ok (.aload_n 0, 1) := by decide +kernel
theorem dL_law_461 : decode cL_law 461 = .ok (.iload_n 3, 1) := by decide +kernel
theorem dL_law_462 : decode cL_law 462 = .ok (.iconst 1, 1) := by decide +kernel
theorem dL_law_463 : decode cL_law 463 = .ok (.iadd, 1) := by decide +kernel
theorem dL_law_464 : decode cL_law 464 = .ok (.iaload, 1) := by decide +kernel
theorem dL_law_465 : decode cL_law 465 = .ok (.aload_n 0, 1) := by decide +kernel
theorem dL_law_466 : decode cL_law 466 = .ok (.iload_n 3, 1) := by decide +kernel
theorem dL_law_467 : decode cL_law 467 = .ok (.iconst 2, 1) := by decide +kernel
theorem dL_law_468 : decode cL_law 468 = .ok (.iadd, 1) := by decide +kernel
theorem dL_law_469 : decode cL_law 469 = .ok (.iaload, 1) := by decide +kernel
theorem dL_law_470 : decode cL_law 470 = .ok (.aload_n 0, 1) := by decide +kernel
theorem dL_law_471 : decode cL_law 471 = .ok (.iload_n 3, 1) := by decide +kernel
theorem dL_law_472 : decode cL_law 472 = .ok (.iconst 3, 1) := by decide +kernel
theorem dL_law_473 : decode cL_law 473 = .ok (.iadd, 1) := by decide +kernel
theorem dL_law_474 : decode cL_law 474 = .ok (.iaload, 1) := by decide +kernel
theorem dL_law_475 : decode cL_law 475 = .ok (.aload_n 0, 1) := by decide +kernel
theorem dL_law_476 : decode cL_law 476 = .ok (.iload_n 3, 1) := by decide +kernel
theorem dL_law_477 : decode cL_law 477 = .ok (.iconst 4, 1) := by decide +kernel
theorem dL_law_478 : decode cL_law 478 = .ok (.iadd, 1) := by decide +kernel
theorem dL_law_479 : decode cL_law 479 = .ok (.iaload, 1) := by decide +kernel
theorem dL_law_480 : decode cL_law 480 = .ok (.invokevirtual 69, 3) := by decide +kernel
theorem dL_law_483 : decode cL_law 483 = .ok (.aload_n 2, 1) := by decide +kernel
theorem dL_law_484 : decode cL_law 484 = .ok (.aload_n 0, 1) := by decide +kernel
theorem dL_law_485 : decode cL_law 485 = .ok (.iload_n 3, 1) := by decide +kernel
theorem dL_law_486 : decode cL_law 486 = .ok (.iconst 1, 1) := by decide +kernel
theorem dL_law_487 : decode cL_law 487 = .ok (.iadd, 1) := by decide +kernel
theorem dL_law_488 : decode cL_law 488 = .ok (.iaload, 1) := by decide +kernel
theorem dL_law_489 : decode cL_law 489 = .ok (.aload_n 0, 1) := by decide +kernel
theorem dL_law_490 : decode cL_law 490 = .ok (.iload_n 3, 1) := by decide +kernel
theorem dL_law_491 : decode cL_law 491 = .ok (.iconst 2, 1) := by decide +kernel
theorem dL_law_492 : decode cL_law 492 = .ok (.iadd, 1) := by decide +kernel
theorem dL_law_493 : decode cL_law 493 = .ok (.iaload, 1) := by decide +kernel
theorem dL_law_494 : decode cL_law 494 = .ok (.aload_n 0, 1) := by decide +kernel
theorem dL_law_495 : decode cL_law 495 = .ok (.iload_n 3, 1) := by decide +kernel
theorem dL_law_496 : decode cL_law 496 = .ok (.iconst 3, 1) := by decide +kernel
theorem dL_law_497 : decode cL_law 497 = .ok (.iadd, 1) := by decide +kernel
theorem dL_law_498 : decode cL_law 498 = .ok (.iaload, 1) := by decide +kernel
theorem dL_law_499 : decode cL_law 499 = .ok (.aload_n 0, 1) := by decide +kernel
theorem dL_law_500 : decode cL_law 500 = .ok (.iload_n 3, 1) := by decide +kernel
theorem dL_law_501 : decode cL_law 501 = .ok (.iconst 4, 1) := by decide +kernel
theorem dL_law_502 : decode cL_law 502 = .ok (.iadd, 1) := by decide +kernel
theorem dL_law_503 : decode cL_law 503 = .ok (.iaload, 1) := by decide +kernel
theorem dL_law_504 : decode cL_law 504 = .ok (.invokevirtual 72, 3) := by decide +kernel
theorem dL_law_507 : decode cL_law 507 = .ok (.if_icmp .eq 97, 3) := by decide +kernel
theorem dL_law_510 : decode cL_law 510 = .ok (.iconst 0, 1) := by decide +kernel
theorem dL_law_511 : decode cL_law 511 = .ok (.ireturn, 1) := by decide +kernel
theorem dL_law_512 : decode cL_law 512 = .ok (.aload_n 1, 1) := by decide +kernel
theorem dL_law_513 : decode cL_law 513 = .ok (.aload_n 0, 1) := by decide +kernel
theorem dL_law_514 : decode cL_law 514 = .ok (.iload_n 3, 1) := by decide +kernel
theorem dL_law_515 : decode cL_law 515 = .ok (.iconst 1, 1) := by decide +kernel
theorem dL_law_516 : decode cL_law 516 = .ok (.iadd, 1) := by decide +kernel
theorem dL_law_517 : decode cL_law 517 = .ok (.iaload, 1) := by decide +kernel
theorem dL_law_518 : decode cL_law 518 = .ok (.invokevirtual 73, 3) := by decide +kernel
theorem dL_law_521 : decode cL_law 521 = .ok (.aload_n 2, 1) := by decide +kernel
theorem dL_law_522 : decode cL_law 522 = .ok (.aload_n 0, 1) := by decide +kernel
theorem dL_law_523 : decode cL_law 523 = .ok (.iload_n 3, 1) := by decide +kernel
theorem dL_law_524 : decode cL_law 524 = .ok (.iconst 1, 1) := by decide +kernel
theorem dL_law_525 : decode cL_law 525 = .ok (.iadd, 1) := by decide +kernel
theorem dL_law_526 : decode cL_law 526 = .ok (.iaload, 1) := by decide +kernel
theorem dL_law_527 : decode cL_law 527 = .ok (.invokevirtual 76, 3) := by decide +kernel
theorem dL_law_530 : decode cL_law 530 = .ok (.if_icmp .eq 74, 3) := by decide +kernel
theorem dL_law_533 : decode cL_law 533 = .ok (.iconst 0, 1) := by decide +kernel
theorem dL_law_534 : decode cL_law 534 = .ok (.ireturn, 1) := by decide +kernel
theorem dL_law_535 : decode cL_law 535 = .ok (.aload_n 1, 1) := by decide +kernel
theorem dL_law_536 : decode cL_law 536 = .ok (.aload_n 0, 1) := by decide +kernel
theorem dL_law_537 : decode cL_law 537 = .ok (.iload_n 3, 1) := by decide +kernel
theorem dL_law_538 : decode cL_law 538 = .ok (.iconst 1, 1) := by decide +kernel
theorem dL_law_539 : decode cL_law 539 = .ok (.iadd, 1) := by decide +kernel
theorem dL_law_540 : decode cL_law 540 = .ok (.iaload, 1) := by decide +kernel
theorem dL_law_541 : decode cL_law 541 = .ok (.invokevirtual 77, 3) := by decide +kernel
theorem dL_law_544 : decode cL_law 544 = .ok (.aload_n 2, 1) := by decide +kernel
theorem dL_law_545 : decode cL_law 545 = .ok (.aload_n 0, 1) := by decide +kernel
theorem dL_law_546 : decode cL_law 546 = .ok (.iload_n 3, 1) := by decide +kernel
theorem dL_law_547 : decode cL_law 547 = .ok (.iconst 1, 1) := by decide +kernel
theorem dL_law_548 : decode cL_law 548 = .ok (.iadd, 1) := by decide +kernel
theorem dL_law_549 : decode cL_law 549 = .ok (.iaload, 1) := by decide +kernel
theorem dL_law_550 : decode cL_law 550 = .ok (.invokevirtual 80, 3) := by decide +kernel
theorem dL_law_553 : decode cL_law 553 = .ok (.if_icmp .eq 51, 3) := by decide +kernel
theorem dL_law_556 : decode cL_law 556 = .ok (.iconst 0, 1) := by decide +kernel
theorem dL_law_557 : decode cL_law 557 = .ok (.ireturn, 1) := by decide +kernel
theorem dL_law_558 : decode cL_law 558 = .ok (.aload_n 1, 1) := by decide +kernel
theorem dL_law_559 : decode cL_law 559 = .ok (.aload_n 0, 1) := by decide +kernel
theorem dL_law_560 : decode cL_law 560 = .ok (.iload_n 3, 1) := by decide +kernel
theorem dL_law_561 : decode cL_law 561 = .ok (.iconst 1, 1) := by decide +kernel
theorem dL_law_562 : decode cL_law 562 = .ok (.iadd, 1) := by decide +kernel
theorem dL_law_563 : decode cL_law 563 = .ok (.iaload, 1) := by decide +kernel
theorem dL_law_564 : decode cL_law 564 = .ok (.invokevirtual 81, 3) := by decide +kernel
theorem dL_law_567 : decode cL_law 567 = .ok (.aload_n 2, 1) := by decide +kernel
theorem dL_law_568 : decode cL_law 568 = .ok (.aload_n 0, 1) := by decide +kernel
theorem dL_law_569 : decode cL_law 569 = .ok (.iload_n 3, 1) := by decide +kernel
theorem dL_law_570 : decode cL_law 570 = .ok (.iconst 1, 1) := by decide +kernel
theorem dL_law_571 : decode cL_law 571 = .ok (.iadd, 1) := by decide +kernel
theorem dL_law_572 : decode cL_law 572 = .ok (.iaload, 1) := by decide +kernel
theorem dL_law_573 : decode cL_law 573 = .ok (.invokevirtual 84, 3) := by decide +kernel
theorem dL_law_576 : decode cL_law 576 = .ok (.if_icmp .eq 28, 3) := by decide +kernel
theorem dL_law_579 : decode cL_law 579 = .ok (.iconst 0, 1) := by decide +kernel
theorem dL_law_580 : decode cL_law 580 = .ok (.ireturn, 1) := by decide +kernel
theorem dL_law_581 : decode cL_law 581 = .ok (.aload_n 1, 1) := by decide +kernel
theorem dL_law_582 : decode cL_law 582 = .ok (.aload_n 0, 1) := by decide +kernel
theorem dL_law_583 : decode cL_law 583 = .ok (.iload_n 3, 1) := by decide +kernel
theorem dL_law_584 : decode cL_law 584 = .ok (.iconst 1, 1) := by decide +kernel
theorem dL_law_585 : decode cL_law 585 = .ok (.iadd, 1) := by decide +kernel
theorem dL_law_586 : decode cL_law 586 = .ok (.iaload, 1) := by decide +kernel
theorem dL_law_587 : decode cL_law 587 = .ok (.invokevirtual 85, 3) := by decide +kernel
theorem dL_law_590 : decode cL_law 590 = .ok (.aload_n 2, 1) := by decide +kernel
theorem dL_law_591 : decode cL_law 591 = .ok (.aload_n 0, 1) := by decide +kernel
theorem dL_law_592 : decode cL_law 592 = .ok (.iload_n 3, 1) := by decide +kernel
theorem dL_law_593 : decode cL_law 593 = .ok (.iconst 1, 1) := by decide +kernel
theorem dL_law_594 : decode cL_law 594 = .ok (.iadd, 1) := by decide +kernel
theorem dL_law_595 : decode cL_law 595 = .ok (.iaload, 1) := by decide +kernel
theorem dL_law_596 : decode cL_law 596 = .ok (.invokevirtual 88, 3) := by decide +kernel
theorem dL_law_599 : decode cL_law 599 = .ok (.if_icmp .eq 5, 3) := by decide +kernel
theorem dL_law_602 : decode cL_law 602 = .ok (.iconst 0, 1) := by decide +kernel
theorem dL_law_603 : decode cL_law 603 = .ok (.ireturn, 1) := by decide +kernel
theorem dL_law_604 : decode cL_law 604 = .ok (.iinc 3 5, 3) := by decide +kernel
theorem dL_law_607 : decode cL_law 607 = .ok (.goto (-589), 3) := by decide +kernel
theorem dL_law_610 : decode cL_law 610 = .ok (.iconst 1, 1) := by decide +kernel
theorem dL_law_611 : decode cL_law 611 = .ok (.ireturn, 1) := by decide +kernel
end
section
/-! the layer: states as tables of ints, a judgement over them, one row an instruction -/
abbrev SG : Type := Nat → Nat → Int32
def sput (g : SG) (a i : Nat) (v : Int32) : SG := fun b j => cond (Nat.beq b a && Nat.beq j i) v (g b j)
/-- the words that hold at every later state -/
def gT : List Cond := lw_tbl.filter goodWord
theorem gT_in {w : Cond} (h : w ∈ lw_tbl) (hg : goodWord w = true) : w ∈ gT := List.mem_filter.mpr ⟨h, hg⟩
theorem gT_tbl {w : Cond} (h : w ∈ gT) : w ∈ lw_tbl := (List.mem_filter.mp h).1
theorem lw_good2 (y : MethodName) (cb : ByteArray) (n : Nat) (ret : Option FieldType) (h : Cond.code y cb n ret ∈ gT) : GoodIn gT (.code y cb n ret :: gT) := fun w hw => by
  have hm : w ∈ gT := (List.mem_cons.mp hw).elim (fun e => e ▸ h) id
  exact ⟨hm, good_of_word (List.mem_filter.mp hm).2⟩
abbrev BX : Type := Program × Launch × Env × Room × State × MethodId × Array Value × List Frame × Method × Code × (State → Prop)
abbrev EX (Sg : Type) : Type := va_G × (Nat → Prop) × List (ClassId × FieldType) × (Sg → va_W)
abbrev KX (Sg : Type) : Type := BX × EX Sg × Nat × Nat
def kL {Sg : Type} (κ : KX Sg) : Launch := κ.1.2.1
def kE {Sg : Type} (κ : KX Sg) : EX Sg := κ.2.1
def Gd {Sg : Type} (κ : KX Sg) (nL : Nat) (pc : Nat) (lv : List (Nat × Value)) (st : List Value) (sg : Sg) : Prop := match κ with
  | ((p, l, e, R, s, m, args, below, meth, c, Q), (D, A, tys, wld), kc, ks) => ∀ (H : Heap) (locs : List Loc) (ls : Array Slot), va_P D vwCl (wld sg) H → va_S A s.heap H locs → lv_has ls nL lv → W p l e R s m args below meth c H locs kc ks Q (F0 m pc ls st)
def Cx {Sg : Type} (κ : KX Sg) (cc : ByteArray) (own : String) (nL fr lo : Nat) : Prop := match κ with
  | ((p, l, e, R, s, m, args, below, meth, c, Q), (D, A, tys, wld), kc, ks) => p.tables.exec = Jvm.exec ∧ c.code = cc ∧ c.maxLocals = nL ∧ s.vm.findClass own = some m.cls ∧ (∀ w ∈ gT, w.before args s = true) ∧ va_K D vwCl tys s ∧ (∀ sg : Sg, va_D A (wld sg)) ∧ (fr ≤ R.frames ∧ lo ≤ R.locals) ∧ kc ≤ R.cells ∧ ks ≤ R.slots
/-- the end of a method: what it answers and the state behind it; nothing but A's cells has changed -/
def QU {Sg : Type} (E : EX Sg) (post : Option Value → Sg → Prop) : Array Value → State → Outcome → State → Prop := match E with
  | (D, A, _, wld) => fun _ st oc t => (∃ (v : Option Value) (sg : Sg), oc = .returned v ∧ post v sg ∧ va_P D vwCl (wld sg) t.heap) ∧ va_F A st t
def PU {Sg : Type} (E : EX Sg) (sg : Sg) : State → Prop := match E with
  | (D, A, tys, wld) => fun U => va_P D vwCl (wld sg) U.heap ∧ va_K D vwCl tys U ∧ ∀ g : Sg, va_D A (wld g)
def Mt {Sg : Type} (l : Launch) (E : EX Sg) (y : MethodName) (cb : ByteArray) (n : Nat) (ret : Option FieldType) (fr lo : Nat) (av : List Value) (sg : Sg) (post : Option Value → Sg → Prop) : Prop :=
  Met l y (.code y cb n ret :: gT) { frames := fr, cells := 0, slots := 0, locals := lo } (va_Pc av (PU E sg)) (QU E post) 0 0 E.2.1
def Rx {Sg : Type} (κ : KX Sg) (ret : Option FieldType) (post : Option Value → Sg → Prop) : Prop := match κ with
  | ((p, l, e, R, s, m, args, below, meth, c, Q), E, kc, ks) => meth.sig.returnType = ret ∧ meth.locks = false ∧ Q = MQ below (QU E post) args s kc ks E.2.1
def oI {Sg : Type} (post : Int32 → Sg → Prop) : Option Value → Sg → Prop := fun v g => ∃ r : Int32, v = some (.int r) ∧ post r g
def oR {Sg : Type} (sg : Sg) (post : Int32 → Prop) : Option Value → Sg → Prop := fun v g => ∃ r : Int32, v = some (.int r) ∧ g = sg ∧ post r
def oV {Sg : Type} (post : Sg → Prop) : Option Value → Sg → Prop := fun v g => v = none ∧ post g
def oA {Sg : Type} (a : Nat) (post : Sg → Prop) : Option Value → Sg → Prop := fun v g => v = some (.ref a) ∧ post g
/-- links, by the tables' words -/
def LkV (own : String) (idx : Nat) (y : MethodName) (cb : ByteArray) (n : Nat) (ret : Option FieldType) (na : Nat) : Prop := Cond.methodLink own idx y ∈ gT ∧ Cond.instanceMethod y ∈ gT ∧ Cond.selects y.cls y y ∈ gT ∧ Cond.initialized y.cls ∈ gT ∧ Cond.code y cb n ret ∈ gT ∧ y.cls ≠ "java/lang/invoke/MethodHandle" ∧ y.cls ≠ "java/lang/invoke/VarHandle" ∧ (parseMethodDescriptor y.desc).map (fun d => d.parameters.length) = some na
def LkS (own : String) (idx : Nat) (y : MethodName) (cb : ByteArray) (n : Nat) (ret : Option FieldType) (na : Nat) : Prop := Cond.methodLink own idx y ∈ gT ∧ Cond.static y ∈ gT ∧ Cond.initialized y.cls ∈ gT ∧ Cond.code y cb n ret ∈ gT ∧ y.cls ≠ "java/lang/invoke/MethodHandle" ∧ y.cls ≠ "java/lang/invoke/VarHandle" ∧ (parseMethodDescriptor y.desc).map (fun d => d.parameters.length) = some na
theorem mt_of {Sg : Type} {l : Launch} {E : EX Sg} {y : MethodName} {cb : ByteArray} {n : Nat} {ret : Option FieldType} {fr lo : Nat} {av : List Value} {sg : Sg} {post : Option Value → Sg → Prop} (hy : plainName y.cls = true) (hlen : (lg_sl av).length ≤ n)
    (hb : ∀ b : BX, Cx (b, E, 0, 0) cb y.cls n fr lo → Rx (b, E, 0, 0) ret post → Gd (b, E, 0, 0) n 0 (lv_args 0 av) [] sg) : Mt l E y cb n ret fr lo av sg post := by
  obtain ⟨D, A, tys, wld⟩ := E
  refine Met.ofW (cc := cb) (maxL := n) (ret := ret) hy rfl ?_
  intro p e s m args below meth c s₁ B hml hv
  obtain ⟨rfl, hP, hK, hD⟩ := hv
  have hts := atoms_spec (ws := .code y cb n ret :: gT) B.pre
  have X : Cx ((p, l, e, (headSpec (.code y cb n ret :: gT) { frames := fr, cells := 0, slots := 0, locals := lo }).room, s, m, av.toArray, below, meth, c, MQ below (QU (D, A, tys, wld) post) av.toArray s 0 0 A), (D, A, tys, wld), 0, 0) cb y.cls n fr lo :=
    ⟨B.exec, B.bytes, hml, findClass_of_methodNamed B.named, fun w hw => hts w (List.mem_cons_of_mem _ hw), hK, hD, ⟨Nat.le_refl _, Nat.le_refl _⟩, Nat.zero_le _, Nat.zero_le _⟩
  have hl := lv_entry av (n := n) hlen
  rw [lg_entry_eq]
  exact hb _ X ⟨B.returns, B.notSynchronized, rfl⟩ s.heap [] _ hP va_S.rf hl

section GD
variable {Sg : Type} {κ : KX Sg} {cc : ByteArray} {own : String} {nL fr lo pc : Nat} {lv lv' : List (Nat × Value)} {rest st : List Value} {sg sg' : Sg}

theorem gd_iconst (X : Cx κ cc own nL fr lo) {n : Int} {v : Int32} (hdg : decode cc pc = .ok (.iconst n, 1)) (hv : Int32.ofInt n = v) (k : Gd κ nL (pc + 1) lv (.int v :: rest) sg) : Gd κ nL pc lv (rest) sg := by
  obtain ⟨⟨p, l, e, R, s, m, args, below, meth, c, Q⟩, ⟨D, A, tys, wld⟩, kc, ks⟩ := κ
  intro H locs ls hP hS hl
  exact lv_iconst X.1 X.2.1 hdg hv (k H locs ls hP hS hl)
theorem gd_bipush (X : Cx κ cc own nL fr lo) {n : Int} {v : Int32} (hdg : decode cc pc = .ok (.bipush n, 2)) (hv : (Int8.ofInt n).toInt32 = v) (k : Gd κ nL (pc + 2) lv (.int v :: rest) sg) : Gd κ nL pc lv (rest) sg := by
  obtain ⟨⟨p, l, e, R, s, m, args, below, meth, c, Q⟩, ⟨D, A, tys, wld⟩, kc, ks⟩ := κ
  intro H locs ls hP hS hl
  exact lv_bipush X.1 X.2.1 hdg hv (k H locs ls hP hS hl)
theorem gd_sipush (X : Cx κ cc own nL fr lo) {n : Int} {v : Int32} (hdg : decode cc pc = .ok (.sipush n, 3)) (hv : (Int16.ofInt n).toInt32 = v) (k : Gd κ nL (pc + 3) lv (.int v :: rest) sg) : Gd κ nL pc lv (rest) sg := by
  obtain ⟨⟨p, l, e, R, s, m, args, below, meth, c, Q⟩, ⟨D, A, tys, wld⟩, kc, ks⟩ := κ
  intro H locs ls hP hS hl
  exact lv_sipush X.1 X.2.1 hdg hv (k H locs ls hP hS hl)
theorem gd_ldc (X : Cx κ cc own nL fr lo) {index : Nat} {v : Int32} (hw : Cond.constant own index v ∈ gT) (hdg : decode cc pc = .ok (.ldc index, 2)) (k : Gd κ nL (pc + 2) lv (.int v :: rest) sg) : Gd κ nL pc lv (rest) sg := by
  obtain ⟨⟨p, l, e, R, s, m, args, below, meth, c, Q⟩, ⟨D, A, tys, wld⟩, kc, ks⟩ := κ
  intro H locs ls hP hS hl
  exact lv_ldc X.1 X.2.1 X.2.2.2.1 (X.2.2.2.2.1 _ hw) hdg (k H locs ls hP hS hl)
theorem gd_ldcw (X : Cx κ cc own nL fr lo) {index : Nat} {v : Int32} (hw : Cond.constant own index v ∈ gT) (hdg : decode cc pc = .ok (.ldc_w index, 3)) (k : Gd κ nL (pc + 3) lv (.int v :: rest) sg) : Gd κ nL pc lv (rest) sg := by
  obtain ⟨⟨p, l, e, R, s, m, args, below, meth, c, Q⟩, ⟨D, A, tys, wld⟩, kc, ks⟩ := κ
  intro H locs ls hP hS hl
  exact lv_ldcw X.1 X.2.1 X.2.2.2.1 (X.2.2.2.2.1 _ hw) hdg (k H locs ls hP hS hl)
theorem gd_iload_n (X : Cx κ cc own nL fr lo) {k : Fin 4} {x : Int32} (hdg : decode cc pc = .ok (.iload_n k, 1)) (j : Nat) (hj : lv[j]? = some ((k : Nat), .int x)) (kk : Gd κ nL (pc + 1) lv (.int x :: rest) sg) : Gd κ nL pc lv (rest) sg := by
  obtain ⟨⟨p, l, e, R, s, m, args, below, meth, c, Q⟩, ⟨D, A, tys, wld⟩, kc, ks⟩ := κ
  intro H locs ls hP hS hl
  exact lv_iload_n X.1 X.2.1 hdg rfl (lv_at hl j hj) (kk H locs ls hP hS hl)
theorem gd_iload (X : Cx κ cc own nL fr lo) {i : Nat} {x : Int32} (hdg : decode cc pc = .ok (.iload i, 2)) (j : Nat) (hj : lv[j]? = some (i, .int x)) (kk : Gd κ nL (pc + 2) lv (.int x :: rest) sg) : Gd κ nL pc lv (rest) sg := by
  obtain ⟨⟨p, l, e, R, s, m, args, below, meth, c, Q⟩, ⟨D, A, tys, wld⟩, kc, ks⟩ := κ
  intro H locs ls hP hS hl
  exact lv_iload X.1 X.2.1 hdg (lv_at hl j hj) (kk H locs ls hP hS hl)
theorem gd_istore_n (X : Cx κ cc own nL fr lo) {k : Fin 4} {x : Int32} (hdg : decode cc pc = .ok (.istore_n k, 1)) (hn : (k : Nat) < nL) (hl : ((k : Nat), Value.int x) :: lv.filter (fun q => !(q.1 == (k : Nat)) && !(q.1 + 1 == (k : Nat) && q.2.category == 2)) = lv') (kk : Gd κ nL (pc + 1) lv' rest sg) : Gd κ nL pc lv (.int x :: rest) sg := by
  obtain ⟨⟨p, l, e, R, s, m, args, below, meth, c, Q⟩, ⟨D, A, tys, wld⟩, kc, ks⟩ := κ
  intro H locs ls hP hS hls
  exact lv_istore_n X.1 X.2.1 hdg rfl hls hn hl (fun ls2 hl2 => kk H locs ls2 hP hS hl2)
theorem gd_istore (X : Cx κ cc own nL fr lo) {i : Nat} {x : Int32} (hdg : decode cc pc = .ok (.istore i, 2)) (hn : i < nL) (hl : (i, Value.int x) :: lv.filter (fun q => !(q.1 == i) && !(q.1 + 1 == i && q.2.category == 2)) = lv') (kk : Gd κ nL (pc + 2) lv' rest sg) : Gd κ nL pc lv (.int x :: rest) sg := by
  obtain ⟨⟨p, l, e, R, s, m, args, below, meth, c, Q⟩, ⟨D, A, tys, wld⟩, kc, ks⟩ := κ
  intro H locs ls hP hS hls
  exact lv_istore X.1 X.2.1 hdg hls hn hl (fun ls2 hl2 => kk H locs ls2 hP hS hl2)
theorem gd_aload_n (X : Cx κ cc own nL fr lo) {k : Fin 4} {x : Nat} (hdg : decode cc pc = .ok (.aload_n k, 1)) (j : Nat) (hj : lv[j]? = some ((k : Nat), .ref x)) (kk : Gd κ nL (pc + 1) lv (.ref x :: rest) sg) : Gd κ nL pc lv (rest) sg := by
  obtain ⟨⟨p, l, e, R, s, m, args, below, meth, c, Q⟩, ⟨D, A, tys, wld⟩, kc, ks⟩ := κ
  intro H locs ls hP hS hl
  exact lv_aload_n X.1 X.2.1 hdg rfl (lv_at hl j hj) (kk H locs ls hP hS hl)
theorem gd_aload (X : Cx κ cc own nL fr lo) {i : Nat} {x : Nat} (hdg : decode cc pc = .ok (.aload i, 2)) (j : Nat) (hj : lv[j]? = some (i, .ref x)) (kk : Gd κ nL (pc + 2) lv (.ref x :: rest) sg) : Gd κ nL pc lv (rest) sg := by
  obtain ⟨⟨p, l, e, R, s, m, args, below, meth, c, Q⟩, ⟨D, A, tys, wld⟩, kc, ks⟩ := κ
  intro H locs ls hP hS hl
  exact lv_aload X.1 X.2.1 hdg (lv_at hl j hj) (kk H locs ls hP hS hl)
theorem gd_astore_n (X : Cx κ cc own nL fr lo) {k : Fin 4} {x : Nat} (hdg : decode cc pc = .ok (.astore_n k, 1)) (hn : (k : Nat) < nL) (hl : ((k : Nat), Value.ref x) :: lv.filter (fun q => !(q.1 == (k : Nat)) && !(q.1 + 1 == (k : Nat) && q.2.category == 2)) = lv') (kk : Gd κ nL (pc + 1) lv' rest sg) : Gd κ nL pc lv (.ref x :: rest) sg := by
  obtain ⟨⟨p, l, e, R, s, m, args, below, meth, c, Q⟩, ⟨D, A, tys, wld⟩, kc, ks⟩ := κ
  intro H locs ls hP hS hls
  exact lv_astore_n X.1 X.2.1 hdg rfl hls hn hl (fun ls2 hl2 => kk H locs ls2 hP hS hl2)
theorem gd_astore (X : Cx κ cc own nL fr lo) {i : Nat} {x : Nat} (hdg : decode cc pc = .ok (.astore i, 2)) (hn : i < nL) (hl : (i, Value.ref x) :: lv.filter (fun q => !(q.1 == i) && !(q.1 + 1 == i && q.2.category == 2)) = lv') (kk : Gd κ nL (pc + 2) lv' rest sg) : Gd κ nL pc lv (.ref x :: rest) sg := by
  obtain ⟨⟨p, l, e, R, s, m, args, below, meth, c, Q⟩, ⟨D, A, tys, wld⟩, kc, ks⟩ := κ
  intro H locs ls hP hS hls
  exact lv_astore X.1 X.2.1 hdg hls hn hl (fun ls2 hl2 => kk H locs ls2 hP hS hl2)
theorem gd_iinc (X : Cx κ cc own nL fr lo) {i j : Nat} {n : Int} {x v : Int32} (hdg : decode cc pc = .ok (.iinc i n, 3)) (hj : lv[j]? = some (i, .int x)) (hv : x + Int32.ofInt n = v) (hn : i < nL) (hl : (i, Value.int v) :: lv.filter (fun q => !(q.1 == i) && !(q.1 + 1 == i && q.2.category == 2)) = lv') (kk : Gd κ nL (pc + 3) lv' rest sg) : Gd κ nL pc lv (rest) sg := by
  obtain ⟨⟨p, l, e, R, s, m, args, below, meth, c, Q⟩, ⟨D, A, tys, wld⟩, kc, ks⟩ := κ
  intro H locs ls hP hS hls
  exact lv_iinc X.1 X.2.1 hdg hls hj hv hn hl (fun ls2 hl2 => kk H locs ls2 hP hS hl2)
theorem gd_iadd (X : Cx κ cc own nL fr lo) {x y : Int32} (hdg : decode cc pc = .ok (.iadd, 1)) (k : Gd κ nL (pc + 1) lv (.int (x + y) :: rest) sg) : Gd κ nL pc lv (.int y :: .int x :: rest) sg := by
  obtain ⟨⟨p, l, e, R, s, m, args, below, meth, c, Q⟩, ⟨D, A, tys, wld⟩, kc, ks⟩ := κ
  intro H locs ls hP hS hl
  exact lv_iadd X.1 X.2.1 hdg (k H locs ls hP hS hl)
theorem gd_isub (X : Cx κ cc own nL fr lo) {x y : Int32} (hdg : decode cc pc = .ok (.isub, 1)) (k : Gd κ nL (pc + 1) lv (.int (x - y) :: rest) sg) : Gd κ nL pc lv (.int y :: .int x :: rest) sg := by
  obtain ⟨⟨p, l, e, R, s, m, args, below, meth, c, Q⟩, ⟨D, A, tys, wld⟩, kc, ks⟩ := κ
  intro H locs ls hP hS hl
  exact lv_isub X.1 X.2.1 hdg (k H locs ls hP hS hl)
theorem gd_imul (X : Cx κ cc own nL fr lo) {x y : Int32} (hdg : decode cc pc = .ok (.imul, 1)) (k : Gd κ nL (pc + 1) lv (.int (x * y) :: rest) sg) : Gd κ nL pc lv (.int y :: .int x :: rest) sg := by
  obtain ⟨⟨p, l, e, R, s, m, args, below, meth, c, Q⟩, ⟨D, A, tys, wld⟩, kc, ks⟩ := κ
  intro H locs ls hP hS hl
  exact lv_imul X.1 X.2.1 hdg (k H locs ls hP hS hl)
theorem gd_iand (X : Cx κ cc own nL fr lo) {x y : Int32} (hdg : decode cc pc = .ok (.iand, 1)) (k : Gd κ nL (pc + 1) lv (.int (x &&& y) :: rest) sg) : Gd κ nL pc lv (.int y :: .int x :: rest) sg := by
  obtain ⟨⟨p, l, e, R, s, m, args, below, meth, c, Q⟩, ⟨D, A, tys, wld⟩, kc, ks⟩ := κ
  intro H locs ls hP hS hl
  exact lv_iand X.1 X.2.1 hdg (k H locs ls hP hS hl)
theorem gd_ior (X : Cx κ cc own nL fr lo) {x y : Int32} (hdg : decode cc pc = .ok (.ior, 1)) (k : Gd κ nL (pc + 1) lv (.int (x ||| y) :: rest) sg) : Gd κ nL pc lv (.int y :: .int x :: rest) sg := by
  obtain ⟨⟨p, l, e, R, s, m, args, below, meth, c, Q⟩, ⟨D, A, tys, wld⟩, kc, ks⟩ := κ
  intro H locs ls hP hS hl
  exact lv_ior X.1 X.2.1 hdg (k H locs ls hP hS hl)
theorem gd_ixor (X : Cx κ cc own nL fr lo) {x y : Int32} (hdg : decode cc pc = .ok (.ixor, 1)) (k : Gd κ nL (pc + 1) lv (.int (x ^^^ y) :: rest) sg) : Gd κ nL pc lv (.int y :: .int x :: rest) sg := by
  obtain ⟨⟨p, l, e, R, s, m, args, below, meth, c, Q⟩, ⟨D, A, tys, wld⟩, kc, ks⟩ := κ
  intro H locs ls hP hS hl
  exact lv_ixor X.1 X.2.1 hdg (k H locs ls hP hS hl)
theorem gd_ishl (X : Cx κ cc own nL fr lo) {x y : Int32} (hdg : decode cc pc = .ok (.ishl, 1)) (k : Gd κ nL (pc + 1) lv (.int (x <<< (y &&& 31)) :: rest) sg) : Gd κ nL pc lv (.int y :: .int x :: rest) sg := by
  obtain ⟨⟨p, l, e, R, s, m, args, below, meth, c, Q⟩, ⟨D, A, tys, wld⟩, kc, ks⟩ := κ
  intro H locs ls hP hS hl
  exact lv_ishl X.1 X.2.1 hdg (k H locs ls hP hS hl)
theorem gd_ishr (X : Cx κ cc own nL fr lo) {x y : Int32} (hdg : decode cc pc = .ok (.ishr, 1)) (k : Gd κ nL (pc + 1) lv (.int (x >>> (y &&& 31)) :: rest) sg) : Gd κ nL pc lv (.int y :: .int x :: rest) sg := by
  obtain ⟨⟨p, l, e, R, s, m, args, below, meth, c, Q⟩, ⟨D, A, tys, wld⟩, kc, ks⟩ := κ
  intro H locs ls hP hS hl
  exact lv_ishr X.1 X.2.1 hdg (k H locs ls hP hS hl)
theorem gd_idiv (X : Cx κ cc own nL fr lo) {x y : Int32} (hdg : decode cc pc = .ok (.idiv, 1)) (hne : ¬ y = 0) (k : Gd κ nL (pc + 1) lv (.int (x / y) :: rest) sg) : Gd κ nL pc lv (.int y :: .int x :: rest) sg := by
  obtain ⟨⟨p, l, e, R, s, m, args, below, meth, c, Q⟩, ⟨D, A, tys, wld⟩, kc, ks⟩ := κ
  intro H locs ls hP hS hl
  exact lv_idiv X.1 X.2.1 hdg hne (k H locs ls hP hS hl)
theorem gd_irem (X : Cx κ cc own nL fr lo) {x y : Int32} (hdg : decode cc pc = .ok (.irem, 1)) (hne : ¬ y = 0) (k : Gd κ nL (pc + 1) lv (.int (x - x / y * y) :: rest) sg) : Gd κ nL pc lv (.int y :: .int x :: rest) sg := by
  obtain ⟨⟨p, l, e, R, s, m, args, below, meth, c, Q⟩, ⟨D, A, tys, wld⟩, kc, ks⟩ := κ
  intro H locs ls hP hS hl
  exact lv_irem X.1 X.2.1 hdg hne (k H locs ls hP hS hl)
theorem gd_iushr (X : Cx κ cc own nL fr lo) {x y v : Int32} (hdg : decode cc pc = .ok (.iushr, 1)) (hv : (x.toUInt32 >>> (y.toUInt32 &&& Int32.toUInt32 31)).toInt32 = v) (k : Gd κ nL (pc + 1) lv (.int v :: rest) sg) : Gd κ nL pc lv (.int y :: .int x :: rest) sg := by
  obtain ⟨⟨p, l, e, R, s, m, args, below, meth, c, Q⟩, ⟨D, A, tys, wld⟩, kc, ks⟩ := κ
  intro H locs ls hP hS hl
  exact lv_iushr X.1 X.2.1 hdg hv (k H locs ls hP hS hl)
theorem gd_i2b (X : Cx κ cc own nL fr lo) {x v : Int32} (hdg : decode cc pc = .ok (.i2b, 1)) (hv : x.toInt8.toInt32 = v) (k : Gd κ nL (pc + 1) lv (.int v :: rest) sg) : Gd κ nL pc lv (.int x :: rest) sg := by
  obtain ⟨⟨p, l, e, R, s, m, args, below, meth, c, Q⟩, ⟨D, A, tys, wld⟩, kc, ks⟩ := κ
  intro H locs ls hP hS hl
  exact lv_i2b X.1 X.2.1 hdg hv (k H locs ls hP hS hl)
theorem gd_dup (X : Cx κ cc own nL fr lo) {va : Value} (hdg : decode cc pc = .ok (.dup, 1)) (hva : va.category = 1) (k : Gd κ nL (pc + 1) lv (va :: va :: rest) sg) : Gd κ nL pc lv (va :: rest) sg := by
  obtain ⟨⟨p, l, e, R, s, m, args, below, meth, c, Q⟩, ⟨D, A, tys, wld⟩, kc, ks⟩ := κ
  intro H locs ls hP hS hl
  exact lv_dup X.1 X.2.1 hdg hva (k H locs ls hP hS hl)
theorem gd_dup2 (X : Cx κ cc own nL fr lo) {va vb : Value} (hdg : decode cc pc = .ok (.dup2, 1)) (hva : va.category = 1) (hvb : vb.category = 1) (k : Gd κ nL (pc + 1) lv (va :: vb :: va :: vb :: rest) sg) : Gd κ nL pc lv (va :: vb :: rest) sg := by
  obtain ⟨⟨p, l, e, R, s, m, args, below, meth, c, Q⟩, ⟨D, A, tys, wld⟩, kc, ks⟩ := κ
  intro H locs ls hP hS hl
  exact lv_dup2_11 X.1 X.2.1 hdg hva hvb (k H locs ls hP hS hl)
theorem gd_icmp_eq (X : Cx κ cc own nL fr lo) {x y : Int32} {off : Int} {tgt : Nat} (hdg : decode cc pc = .ok (.if_icmp .eq off, 3)) (ht : (pc : Int) + off = (tgt : Int)) (kt : x = y → Gd κ nL tgt lv rest sg) (kf : ¬ x = y → Gd κ nL (pc + 3) lv rest sg) : Gd κ nL pc lv (.int y :: .int x :: rest) sg := by
  obtain ⟨⟨p, l, e, R, s, m, args, below, meth, c, Q⟩, ⟨D, A, tys, wld⟩, kc, ks⟩ := κ
  intro H locs ls hP hS hl
  exact lv_icmp_eq X.1 X.2.1 hdg ht (fun z => kt z H locs ls hP hS hl) (fun z => kf z H locs ls hP hS hl)
theorem gd_if_eq (X : Cx κ cc own nL fr lo) {x : Int32} {off : Int} {tgt : Nat} (hdg : decode cc pc = .ok (.ifCond .eq off, 3)) (ht : (pc : Int) + off = (tgt : Int)) (kt : x = 0 → Gd κ nL tgt lv rest sg) (kf : ¬ x = 0 → Gd κ nL (pc + 3) lv rest sg) : Gd κ nL pc lv (.int x :: rest) sg := by
  obtain ⟨⟨p, l, e, R, s, m, args, below, meth, c, Q⟩, ⟨D, A, tys, wld⟩, kc, ks⟩ := κ
  intro H locs ls hP hS hl
  exact lv_if_eq X.1 X.2.1 hdg ht (fun z => kt z H locs ls hP hS hl) (fun z => kf z H locs ls hP hS hl)
theorem gd_icmp_ne (X : Cx κ cc own nL fr lo) {x y : Int32} {off : Int} {tgt : Nat} (hdg : decode cc pc = .ok (.if_icmp .ne off, 3)) (ht : (pc : Int) + off = (tgt : Int)) (kt : ¬ x = y → Gd κ nL tgt lv rest sg) (kf : x = y → Gd κ nL (pc + 3) lv rest sg) : Gd κ nL pc lv (.int y :: .int x :: rest) sg := by
  obtain ⟨⟨p, l, e, R, s, m, args, below, meth, c, Q⟩, ⟨D, A, tys, wld⟩, kc, ks⟩ := κ
  intro H locs ls hP hS hl
  exact lv_icmp_ne X.1 X.2.1 hdg ht (fun z => kt z H locs ls hP hS hl) (fun z => kf z H locs ls hP hS hl)
theorem gd_if_ne (X : Cx κ cc own nL fr lo) {x : Int32} {off : Int} {tgt : Nat} (hdg : decode cc pc = .ok (.ifCond .ne off, 3)) (ht : (pc : Int) + off = (tgt : Int)) (kt : ¬ x = 0 → Gd κ nL tgt lv rest sg) (kf : x = 0 → Gd κ nL (pc + 3) lv rest sg) : Gd κ nL pc lv (.int x :: rest) sg := by
  obtain ⟨⟨p, l, e, R, s, m, args, below, meth, c, Q⟩, ⟨D, A, tys, wld⟩, kc, ks⟩ := κ
  intro H locs ls hP hS hl
  exact lv_if_ne X.1 X.2.1 hdg ht (fun z => kt z H locs ls hP hS hl) (fun z => kf z H locs ls hP hS hl)
theorem gd_icmp_lt (X : Cx κ cc own nL fr lo) {x y : Int32} {off : Int} {tgt : Nat} (hdg : decode cc pc = .ok (.if_icmp .lt off, 3)) (ht : (pc : Int) + off = (tgt : Int)) (kt : x < y → Gd κ nL tgt lv rest sg) (kf : ¬ x < y → Gd κ nL (pc + 3) lv rest sg) : Gd κ nL pc lv (.int y :: .int x :: rest) sg := by
  obtain ⟨⟨p, l, e, R, s, m, args, below, meth, c, Q⟩, ⟨D, A, tys, wld⟩, kc, ks⟩ := κ
  intro H locs ls hP hS hl
  exact lv_icmp_lt X.1 X.2.1 hdg ht (fun z => kt z H locs ls hP hS hl) (fun z => kf z H locs ls hP hS hl)
theorem gd_if_lt (X : Cx κ cc own nL fr lo) {x : Int32} {off : Int} {tgt : Nat} (hdg : decode cc pc = .ok (.ifCond .lt off, 3)) (ht : (pc : Int) + off = (tgt : Int)) (kt : x < 0 → Gd κ nL tgt lv rest sg) (kf : ¬ x < 0 → Gd κ nL (pc + 3) lv rest sg) : Gd κ nL pc lv (.int x :: rest) sg := by
  obtain ⟨⟨p, l, e, R, s, m, args, below, meth, c, Q⟩, ⟨D, A, tys, wld⟩, kc, ks⟩ := κ
  intro H locs ls hP hS hl
  exact lv_if_lt X.1 X.2.1 hdg ht (fun z => kt z H locs ls hP hS hl) (fun z => kf z H locs ls hP hS hl)
theorem gd_icmp_ge (X : Cx κ cc own nL fr lo) {x y : Int32} {off : Int} {tgt : Nat} (hdg : decode cc pc = .ok (.if_icmp .ge off, 3)) (ht : (pc : Int) + off = (tgt : Int)) (kt : y ≤ x → Gd κ nL tgt lv rest sg) (kf : ¬ y ≤ x → Gd κ nL (pc + 3) lv rest sg) : Gd κ nL pc lv (.int y :: .int x :: rest) sg := by
  obtain ⟨⟨p, l, e, R, s, m, args, below, meth, c, Q⟩, ⟨D, A, tys, wld⟩, kc, ks⟩ := κ
  intro H locs ls hP hS hl
  exact lv_icmp_ge X.1 X.2.1 hdg ht (fun z => kt z H locs ls hP hS hl) (fun z => kf z H locs ls hP hS hl)
theorem gd_if_ge (X : Cx κ cc own nL fr lo) {x : Int32} {off : Int} {tgt : Nat} (hdg : decode cc pc = .ok (.ifCond .ge off, 3)) (ht : (pc : Int) + off = (tgt : Int)) (kt : 0 ≤ x → Gd κ nL tgt lv rest sg) (kf : ¬ 0 ≤ x → Gd κ nL (pc + 3) lv rest sg) : Gd κ nL pc lv (.int x :: rest) sg := by
  obtain ⟨⟨p, l, e, R, s, m, args, below, meth, c, Q⟩, ⟨D, A, tys, wld⟩, kc, ks⟩ := κ
  intro H locs ls hP hS hl
  exact lv_if_ge X.1 X.2.1 hdg ht (fun z => kt z H locs ls hP hS hl) (fun z => kf z H locs ls hP hS hl)
theorem gd_icmp_gt (X : Cx κ cc own nL fr lo) {x y : Int32} {off : Int} {tgt : Nat} (hdg : decode cc pc = .ok (.if_icmp .gt off, 3)) (ht : (pc : Int) + off = (tgt : Int)) (kt : y < x → Gd κ nL tgt lv rest sg) (kf : ¬ y < x → Gd κ nL (pc + 3) lv rest sg) : Gd κ nL pc lv (.int y :: .int x :: rest) sg := by
  obtain ⟨⟨p, l, e, R, s, m, args, below, meth, c, Q⟩, ⟨D, A, tys, wld⟩, kc, ks⟩ := κ
  intro H locs ls hP hS hl
  exact lv_icmp_gt X.1 X.2.1 hdg ht (fun z => kt z H locs ls hP hS hl) (fun z => kf z H locs ls hP hS hl)
theorem gd_if_gt (X : Cx κ cc own nL fr lo) {x : Int32} {off : Int} {tgt : Nat} (hdg : decode cc pc = .ok (.ifCond .gt off, 3)) (ht : (pc : Int) + off = (tgt : Int)) (kt : 0 < x → Gd κ nL tgt lv rest sg) (kf : ¬ 0 < x → Gd κ nL (pc + 3) lv rest sg) : Gd κ nL pc lv (.int x :: rest) sg := by
  obtain ⟨⟨p, l, e, R, s, m, args, below, meth, c, Q⟩, ⟨D, A, tys, wld⟩, kc, ks⟩ := κ
  intro H locs ls hP hS hl
  exact lv_if_gt X.1 X.2.1 hdg ht (fun z => kt z H locs ls hP hS hl) (fun z => kf z H locs ls hP hS hl)
theorem gd_icmp_le (X : Cx κ cc own nL fr lo) {x y : Int32} {off : Int} {tgt : Nat} (hdg : decode cc pc = .ok (.if_icmp .le off, 3)) (ht : (pc : Int) + off = (tgt : Int)) (kt : x ≤ y → Gd κ nL tgt lv rest sg) (kf : ¬ x ≤ y → Gd κ nL (pc + 3) lv rest sg) : Gd κ nL pc lv (.int y :: .int x :: rest) sg := by
  obtain ⟨⟨p, l, e, R, s, m, args, below, meth, c, Q⟩, ⟨D, A, tys, wld⟩, kc, ks⟩ := κ
  intro H locs ls hP hS hl
  exact lv_icmp_le X.1 X.2.1 hdg ht (fun z => kt z H locs ls hP hS hl) (fun z => kf z H locs ls hP hS hl)
theorem gd_if_le (X : Cx κ cc own nL fr lo) {x : Int32} {off : Int} {tgt : Nat} (hdg : decode cc pc = .ok (.ifCond .le off, 3)) (ht : (pc : Int) + off = (tgt : Int)) (kt : x ≤ 0 → Gd κ nL tgt lv rest sg) (kf : ¬ x ≤ 0 → Gd κ nL (pc + 3) lv rest sg) : Gd κ nL pc lv (.int x :: rest) sg := by
  obtain ⟨⟨p, l, e, R, s, m, args, below, meth, c, Q⟩, ⟨D, A, tys, wld⟩, kc, ks⟩ := κ
  intro H locs ls hP hS hl
  exact lv_if_le X.1 X.2.1 hdg ht (fun z => kt z H locs ls hP hS hl) (fun z => kf z H locs ls hP hS hl)
theorem gd_goto (X : Cx κ cc own nL fr lo) {off : Int} {tgt : Nat} (hdg : decode cc pc = .ok (.goto off, 3)) (ht : (pc : Int) + off = (tgt : Int)) (k : Gd κ nL tgt lv rest sg) : Gd κ nL pc lv (rest) sg := by
  obtain ⟨⟨p, l, e, R, s, m, args, below, meth, c, Q⟩, ⟨D, A, tys, wld⟩, kc, ks⟩ := κ
  intro H locs ls hP hS hl
  exact lv_goto X.1 X.2.1 hdg ht (k H locs ls hP hS hl)
theorem gd_sub (js : List Nat) (hj : lv_pick lv js = lv') (k : Gd κ nL pc lv' st sg) : Gd κ nL pc lv st sg := by
  obtain ⟨⟨p, l, e, R, s, m, args, below, meth, c, Q⟩, ⟨D, A, tys, wld⟩, kc, ks⟩ := κ
  intro H locs ls hP hS hl
  exact k H locs ls hP hS (lv_sub hl js hj)
/-- the targets of a tableswitch -/
def GdT {Sg : Type} (κ : KX Sg) (nL : Nat) (lv : List (Nat × Value)) (rest : List Value) (sg : Sg) (x : Int32) : Int → List Nat → Prop
  | _, [] => True
  | n, t :: ts => (x.toInt = n → Gd κ nL t lv rest sg) ∧ GdT κ nL lv rest sg x (n + 1) ts
theorem GdT.at {x : Int32} : ∀ (ts : List Nat) (n : Int), GdT κ nL lv rest sg x n ts → ∀ (j t : Nat), ts[j]? = some t → x.toInt = n + j → Gd κ nL t lv rest sg
  | [], _, _, j, t, h, _ => by simp at h
  | a :: ts, n, h, j, t, hj, hx => by
    cases j with
    | zero => cases hj; exact h.1 (by omega)
    | succ j => exact GdT.at ts (n + 1) h.2 j t hj (by omega)
theorem gd_table (X : Cx κ cc own nL fr lo) {d a b : Int} {offs : Array Int} {len : Nat} {x : Int32} {tgt : Nat} (hdg : decode cc pc = .ok (.tableswitch d a b offs, len)) (ht : (pc : Int) + d = (tgt : Int)) (ts : List Nat) (hts : offs.toList = ts.map (fun t : Nat => (t : Int) - (pc : Int))) (hn : b + 1 = a + ts.length)
    (kd : x.toInt < a ∨ b < x.toInt → Gd κ nL tgt lv rest sg) (ki : GdT κ nL lv rest sg x a ts) : Gd κ nL pc lv (.int x :: rest) sg := by
  have hki := GdT.at ts a ki
  by_cases h1 : x.toInt < a
  · have kd := kd (Or.inl h1)
    obtain ⟨⟨p, l, e, R, s, m, args, below, meth, c, Q⟩, ⟨D, A, tys, wld⟩, kc, ks⟩ := κ
    intro H locs ls hP hS hl
    exact lv_tableOut X.1 X.2.1 hdg (Or.inl h1) ht (kd H locs ls hP hS hl)
  · by_cases h2 : b < x.toInt
    · have kd := kd (Or.inr h2)
      obtain ⟨⟨p, l, e, R, s, m, args, below, meth, c, Q⟩, ⟨D, A, tys, wld⟩, kc, ks⟩ := κ
      intro H locs ls hP hS hl
      exact lv_tableOut X.1 X.2.1 hdg (Or.inr h2) ht (kd H locs ls hP hS hl)
    · have hlt : (x.toInt - a).toNat < ts.length := by omega
      have hj : ts[(x.toInt - a).toNat]? = some ts[(x.toInt - a).toNat] := List.getElem?_eq_getElem hlt
      have k := hki _ _ hj (by omega)
      have ho : offs[(x.toInt - a).toNat]? = some ((ts[(x.toInt - a).toNat] : Int) - (pc : Int)) := by
        rw [← Array.getElem?_toList, hts, List.getElem?_map, hj]; rfl
      obtain ⟨⟨p, l, e, R, s, m, args, below, meth, c, Q⟩, ⟨D, A, tys, wld⟩, kc, ks⟩ := κ
      intro H locs ls hP hS hl
      exact lv_tableIn X.1 X.2.1 hdg h1 h2 ho (by omega) (k H locs ls hP hS hl)
theorem gd_get (X : Cx κ cc own nL fr lo) {C : String} {T : u_T} {N ci index a : Nat} (hin : ∀ w ∈ u_ws C T N, w ∈ gT) (q0 : Nat) {fs : List Value} (he : ((kE κ).2.2.2 sg)[q0]? = some (a, .inr (ci, fs))) (hc : vwCl[ci]? = some (C, T, N)) (k : Nat) (hk : k < N) (hlink : Cond.fieldLink own index (T k).1 (T k).2.1 (T k).2.2.1 ∈ gT) {v : Value} (hv : fs[k]? = some v) (hdg : decode cc pc = .ok (.getfield index, 3))
    (kk : Gd κ nL (pc + 3) lv (v :: rest) sg) : Gd κ nL pc lv (.ref a :: rest) sg := by
  obtain ⟨⟨p, l, e, R, s, m, args, below, meth, c, Q⟩, ⟨D, A, tys, wld⟩, kc, ks⟩ := κ
  intro H locs ls hP hS hl
  exact va_get X.1 X.2.1 X.2.2.2.2.1 hin X.2.2.2.1 X.2.2.2.2.2.1 hP q0 he hc k hk (X.2.2.2.2.1 _ hlink) (fun _ h9 => h9) hv hdg (kk H locs ls hP hS hl)
theorem gd_put (X : Cx κ cc own nL fr lo) {C : String} {T : u_T} {N ci index a : Nat} (hin : ∀ w ∈ u_ws C T N, w ∈ gT) (ty0 : Nat → FieldType) (hty : ∀ k, k < N → parseFieldDescriptor (T k).2.2.1 = some (ty0 k)) (hnm : ∀ a, a < N → ∀ b, b < N → a ≠ b → (T a).2.1 ≠ (T b).2.1) (q0 : Nat) {fs : List Value} (he : ((kE κ).2.2.2 sg)[q0]? = some (a, .inr (ci, fs))) (hc : vwCl[ci]? = some (C, T, N)) (k : Nat) (hk : k < N) (hlink : Cond.fieldLink own index (T k).1 (T k).2.1 (T k).2.2.1 ∈ gT) (hfin : (T k).2.2.2 = false) {ty : FieldType} {v : Value} (hd : parseFieldDescriptor (T k).2.2.1 = some ty) (hn : narrow ty v = v) (hfit : fits ty v = true) (hl0 : k < fs.length) (hdg : decode cc pc = .ok (.putfield index, 3))
    (hset : ((kE κ).2.2.2 sg).set q0 (a, .inr (ci, fs.set k v)) = (kE κ).2.2.2 sg') (kk : Gd κ nL (pc + 3) lv rest sg') : Gd κ nL pc lv (v :: .ref a :: rest) sg := by
  obtain ⟨⟨p, l, e, R, s, m, args, below, meth, c, Q⟩, ⟨D, A, tys, wld⟩, kc, ks⟩ := κ
  intro H locs ls hP hS hl
  exact va_put X.1 X.2.1 X.2.2.2.2.1 hin ty0 hty hnm X.2.2.2.1 X.2.2.2.2.2.1 hP (X.2.2.2.2.2.2.1 sg) hS q0 he hc k hk (X.2.2.2.2.1 _ hlink) (fun _ h9 => h9) hfin hd hn hfit hl0 hdg (fun H1 locs1 hP1 _ hS1 => kk H1 locs1 ls (Eq.mp (congrArg (fun z => va_P D vwCl z H1) hset) hP1) hS1 hl)
theorem gd_iald (X : Cx κ cc own nL fr lo) {a : Nat} (q0 t0 : Nat) {cA : ClassId} {n : Nat} {f : Nat → Int32} (ha : ((kE κ).2.2.2 sg)[q0]? = some (a, .inl (cA, n, .inl f))) (ht : (kE κ).2.2.1[t0]? = some (cA, .int)) {i : Int32} (hin : vp_in i n) (hdg : decode cc pc = .ok (.iaload, 1))
    (kk : Gd κ nL (pc + 1) lv (.int (f i.toNatClampNeg) :: rest) sg) : Gd κ nL pc lv (.int i :: .ref a :: rest) sg := by
  obtain ⟨⟨p, l, e, R, s, m, args, below, meth, c, Q⟩, ⟨D, A, tys, wld⟩, kc, ks⟩ := κ
  intro H locs ls hP hS hl
  exact va_iald X.1 X.2.1 X.2.2.2.2.2.1 hP q0 t0 ha ht hin hdg (kk H locs ls hP hS hl)
theorem gd_bald (X : Cx κ cc own nL fr lo) {a : Nat} (q0 t0 : Nat) {cA : ClassId} {n : Nat} {f : Nat → Int32} (ha : ((kE κ).2.2.2 sg)[q0]? = some (a, .inl (cA, n, .inl f))) (ht : (kE κ).2.2.1[t0]? = some (cA, .byte)) {i : Int32} (hin : vp_in i n) (hdg : decode cc pc = .ok (.baload, 1))
    (kk : Gd κ nL (pc + 1) lv (.int (f i.toNatClampNeg) :: rest) sg) : Gd κ nL pc lv (.int i :: .ref a :: rest) sg := by
  obtain ⟨⟨p, l, e, R, s, m, args, below, meth, c, Q⟩, ⟨D, A, tys, wld⟩, kc, ks⟩ := κ
  intro H locs ls hP hS hl
  exact va_bald X.1 X.2.1 X.2.2.2.2.2.1 hP q0 t0 ha ht hin hdg (kk H locs ls hP hS hl)
theorem gd_zald (X : Cx κ cc own nL fr lo) {a : Nat} (q0 t0 : Nat) {cA : ClassId} {n : Nat} {f : Nat → Int32} (ha : ((kE κ).2.2.2 sg)[q0]? = some (a, .inl (cA, n, .inl f))) (ht : (kE κ).2.2.1[t0]? = some (cA, .boolean)) {i : Int32} (hin : vp_in i n) (hdg : decode cc pc = .ok (.baload, 1))
    (kk : Gd κ nL (pc + 1) lv (.int (f i.toNatClampNeg) :: rest) sg) : Gd κ nL pc lv (.int i :: .ref a :: rest) sg := by
  obtain ⟨⟨p, l, e, R, s, m, args, below, meth, c, Q⟩, ⟨D, A, tys, wld⟩, kc, ks⟩ := κ
  intro H locs ls hP hS hl
  exact va_zald X.1 X.2.1 X.2.2.2.2.2.1 hP q0 t0 ha ht hin hdg (kk H locs ls hP hS hl)
theorem gd_iast (X : Cx κ cc own nL fr lo) {a : Nat} (q0 t0 : Nat) {cA : ClassId} {n : Nat} {f : Nat → Int32} (ha : ((kE κ).2.2.2 sg)[q0]? = some (a, .inl (cA, n, .inl f))) (ht : (kE κ).2.2.1[t0]? = some (cA, .int)) {i x : Int32} (hin : vp_in i n) (hdg : decode cc pc = .ok (.iastore, 1))
    (hset : ((kE κ).2.2.2 sg).set q0 (a, .inl (cA, n, .inl (upd f i.toNatClampNeg x))) = (kE κ).2.2.2 sg') (kk : Gd κ nL (pc + 1) lv rest sg') : Gd κ nL pc lv (.int x :: .int i :: .ref a :: rest) sg := by
  obtain ⟨⟨p, l, e, R, s, m, args, below, meth, c, Q⟩, ⟨D, A, tys, wld⟩, kc, ks⟩ := κ
  intro H locs ls hP hS hl
  exact va_iast X.1 X.2.1 X.2.2.2.2.2.1 hP (X.2.2.2.2.2.2.1 sg) hS q0 t0 ha ht hin hdg (fun H1 locs1 hP1 _ hS1 => kk H1 locs1 ls (Eq.mp (congrArg (fun z => va_P D vwCl z H1) hset) hP1) hS1 hl)
theorem gd_bast (X : Cx κ cc own nL fr lo) {a : Nat} (q0 t0 : Nat) {cA : ClassId} {n : Nat} {f : Nat → Int32} (ha : ((kE κ).2.2.2 sg)[q0]? = some (a, .inl (cA, n, .inl f))) (ht : (kE κ).2.2.1[t0]? = some (cA, .byte)) {i x : Int32} (hin : vp_in i n) (hdg : decode cc pc = .ok (.bastore, 1))
    (hset : ((kE κ).2.2.2 sg).set q0 (a, .inl (cA, n, .inl (upd f i.toNatClampNeg (vp_nar .byte x)))) = (kE κ).2.2.2 sg') (kk : Gd κ nL (pc + 1) lv rest sg') : Gd κ nL pc lv (.int x :: .int i :: .ref a :: rest) sg := by
  obtain ⟨⟨p, l, e, R, s, m, args, below, meth, c, Q⟩, ⟨D, A, tys, wld⟩, kc, ks⟩ := κ
  intro H locs ls hP hS hl
  exact va_bast X.1 X.2.1 X.2.2.2.2.2.1 hP (X.2.2.2.2.2.2.1 sg) hS q0 t0 ha ht hin hdg (fun H1 locs1 hP1 _ hS1 => kk H1 locs1 ls (Eq.mp (congrArg (fun z => va_P D vwCl z H1) hset) hP1) hS1 hl)
theorem gd_zast (X : Cx κ cc own nL fr lo) {a : Nat} (q0 t0 : Nat) {cA : ClassId} {n : Nat} {f : Nat → Int32} (ha : ((kE κ).2.2.2 sg)[q0]? = some (a, .inl (cA, n, .inl f))) (ht : (kE κ).2.2.1[t0]? = some (cA, .boolean)) {i x : Int32} (hin : vp_in i n) (hdg : decode cc pc = .ok (.bastore, 1))
    (hset : ((kE κ).2.2.2 sg).set q0 (a, .inl (cA, n, .inl (upd f i.toNatClampNeg (vp_nar .boolean x)))) = (kE κ).2.2.2 sg') (kk : Gd κ nL (pc + 1) lv rest sg') : Gd κ nL pc lv (.int x :: .int i :: .ref a :: rest) sg := by
  obtain ⟨⟨p, l, e, R, s, m, args, below, meth, c, Q⟩, ⟨D, A, tys, wld⟩, kc, ks⟩ := κ
  intro H locs ls hP hS hl
  exact va_zast X.1 X.2.1 X.2.2.2.2.2.1 hP (X.2.2.2.2.2.2.1 sg) hS q0 t0 ha ht hin hdg (fun H1 locs1 hP1 _ hS1 => kk H1 locs1 ls (Eq.mp (congrArg (fun z => va_P D vwCl z H1) hset) hP1) hS1 hl)
theorem gd_aald (X : Cx κ cc own nL fr lo) {a : Nat} (q0 t0 : Nat) {cA : ClassId} {ty : FieldType} {n : Nat} {f : Nat → Option Nat} (ha : ((kE κ).2.2.2 sg)[q0]? = some (a, .inl (cA, n, .inr (.inr (.inr (.inr f)))))) (ht : (kE κ).2.2.1[t0]? = some (cA, ty)) (hty : ty.isReference = true) {i : Int32} (hin : vp_in i n) {b : Nat} (hf : f i.toNatClampNeg = some b) (hdg : decode cc pc = .ok (.aaload, 1))
    (kk : Gd κ nL (pc + 1) lv (.ref b :: rest) sg) : Gd κ nL pc lv (.int i :: .ref a :: rest) sg := by
  obtain ⟨⟨p, l, e, R, s, m, args, below, meth, c, Q⟩, ⟨D, A, tys, wld⟩, kc, ks⟩ := κ
  intro H locs ls hP hS hl
  have hlt : i.toNatClampNeg < n := Nat.not_le.mp fun q => hin (Or.inr q)
  have hK := X.2.2.2.2.2.1
  exact W.aald (v := .ref b) (ty := ty) X.1 X.2.1 (hP q0 _ ha) ((hK.2 t0 _ ht).1 n (fun j => va_rf (f j))) hty (fun q => by cases q) (by show ¬ (i < 0 ∨ (arrV _ _ _).slots.size ≤ _); rw [arrV_size]; exact hin) (by show (arrV _ _ _).slots[_]? = _; rw [arrV_read _ _ hlt, hf]; rfl) rfl rfl hdg (kk H locs ls hP hS hl)
theorem gd_iret (X : Cx κ cc own nL fr lo) {post : Option Value → Sg → Prop} (hR : Rx κ (some .int) post) {r : Int32} (hdg : decode cc pc = .ok (.ireturn, 1)) (h : post (some (.int r)) sg) : Gd κ nL pc lv [.int r] sg := by
  obtain ⟨⟨p, l, e, R, s, m, args, below, meth, c, Q⟩, ⟨D, A, tys, wld⟩, kc, ks⟩ := κ
  intro H locs ls hP hS hl
  obtain ⟨hr, hlk, rfl⟩ := hR
  exact W.iret X.1 X.2.1 hr (fun t ht hW => ⟨⟨_, sg, rfl, h, by rw [ht]; exact hP⟩, hS.F ht⟩) hS.2.2 hdg hlk
theorem gd_zret (X : Cx κ cc own nL fr lo) {post : Option Value → Sg → Prop} (hR : Rx κ (some .boolean) post) {r : Int32} (hdg : decode cc pc = .ok (.ireturn, 1)) (hn : narrow .boolean (.int r) = .int r) (h : post (some (.int r)) sg) : Gd κ nL pc lv [.int r] sg := by
  obtain ⟨⟨p, l, e, R, s, m, args, below, meth, c, Q⟩, ⟨D, A, tys, wld⟩, kc, ks⟩ := κ
  intro H locs ls hP hS hl
  obtain ⟨hr, hlk, rfl⟩ := hR
  exact W.zret X.1 X.2.1 hr hn (fun t ht hW => ⟨⟨_, sg, rfl, h, by rw [ht]; exact hP⟩, hS.F ht⟩) hS.2.2 hdg hlk
theorem gd_vret (X : Cx κ cc own nL fr lo) {post : Option Value → Sg → Prop} (hR : Rx κ none post) (hdg : decode cc pc = .ok (.return_, 1)) (h : post none sg) : Gd κ nL pc lv [] sg := by
  obtain ⟨⟨p, l, e, R, s, m, args, below, meth, c, Q⟩, ⟨D, A, tys, wld⟩, kc, ks⟩ := κ
  intro H locs ls hP hS hl
  obtain ⟨hr, hlk, rfl⟩ := hR
  exact W.vret X.1 X.2.1 hr (fun t ht hW => ⟨⟨_, sg, rfl, h, by rw [ht]; exact hP⟩, hS.F ht⟩) hS.2.2 hdg hlk
theorem gd_aret (X : Cx κ cc own nL fr lo) {post : Option Value → Sg → Prop} {C : String} (hR : Rx κ (some (.object C)) post) {a : Nat} (hdg : decode cc pc = .ok (.areturn, 1)) (h : post (some (.ref a)) sg) : Gd κ nL pc lv [.ref a] sg := by
  obtain ⟨⟨p, l, e, R, s, m, args, below, meth, c, Q⟩, ⟨D, A, tys, wld⟩, kc, ks⟩ := κ
  intro H locs ls hP hS hl
  obtain ⟨hr, hlk, rfl⟩ := hR
  exact W.aret X.1 X.2.1 hr (Or.inl ⟨_, rfl⟩) (Or.inr ⟨_, rfl⟩) (fun t ht hW => ⟨⟨_, sg, rfl, h, by rw [ht]; exact hP⟩, hS.F ht⟩) hS.2.2 hdg hlk
theorem gd_run {p : Program} {l : Launch} {e : Env} {R : Room} {s : State} {m : MethodId} {args : Array Value} {below : List Frame} {meth : Method} {c : Code} {Q : State → Prop} {D : va_G} {A : Nat → Prop} {tys : List (ClassId × FieldType)} {wld : Sg → va_W} {kc ks : Nat} {a : Array Value} {post : Option Value → Sg → Prop} {H : Heap} {locs : List Loc} {ls : Array Slot} {st0 : List Value}
    (hr : va_Run p l e R s m args below meth c H locs kc ks 0 0 (F0 m pc ls st0) rest (QU (D, A, tys, wld) post a) A) (hS : va_S A s.heap H locs) (hl : lv_has ls nL lv)
    (kk : ∀ (v : Option Value) (g : Sg), post v g → Gd ((p, l, e, R, s, m, args, below, meth, c, Q), (D, A, tys, wld), kc, ks) nL (pc + 3) lv (v.toList ++ rest) g) : W p l e R s m args below meth c H locs kc ks Q (F0 m pc ls st0) := by
  intro T hT X
  obtain ⟨v, st₀, t, T', L, h0, X', hL, e1, e2, ⟨⟨v2, g, hv, hp, hb⟩, hz, hk⟩, st⟩ := hr T hT X
  cases hv
  rw [h0] at hz hk
  obtain ⟨t2, a1, b1⟩ := kk v g hp T'.heap (locs ++ L) ls (by rw [e1]; exact hb) ⟨Nat.le_trans hS.1 (by rw [e1]; exact hz), fun q h1 h2 => by rw [e1, hk q (Nat.lt_of_lt_of_le h1 hS.1) h2]; exact hS.2.1 q h1 h2, fun q hq => by
      rcases List.mem_append.mp hq with h | h
      · exact hS.2.2 q h
      · exact hL q h⟩ hl T' rfl X'
  exact ⟨t2, st t2 a1, b1⟩
theorem gd_callV (X : Cx κ cc own nL fr lo) {y : MethodName} {cb : ByteArray} {n na index : Nat} {ret : Option FieldType} {fr' lo' : Nat} {b : Nat} {As : List Value} {post : Option Value → Sg → Prop} (hk : LkV own index y cb n ret na) (hM : Mt (kL κ) (kE κ) y cb n ret fr' lo' (.ref b :: As) sg post) (q0 : Nat) {ci N : Nat} {T : u_T} {fs : List Value} (hc : vwCl[ci]? = some (y.cls, T, N)) (he : ((kE κ).2.2.2 sg)[q0]? = some (b, .inr (ci, fs))) (hroom : fr' + 1 ≤ fr ∧ 8 + (n + 11) + lo' ≤ lo) (hlen : As.length = na) (hst : st = As.reverse ++ .ref b :: rest) (hcat : (rest.map fun v => v.category).sum ≤ 8) (hdg : decode cc pc = .ok (.invokevirtual index, 3))
    (kk : ∀ (v : Option Value) (g : Sg), post v g → Gd κ nL (pc + 3) lv (v.toList ++ rest) g) : Gd κ nL pc lv st sg := by
  obtain ⟨⟨p, l, e, R, s, m, args, below, meth, c, Q⟩, ⟨D, A, tys, wld⟩, kc, ks⟩ := κ
  intro H locs ls hP hS hl
  obtain ⟨hx, hb, hml, hown, hts, hK, hD, hrm, hkc, hks⟩ := X
  obtain ⟨k1, k2, k3, k4, k5, k6, k7, k8⟩ := hk
  refine gd_run (va_runV (As := As) (rest := rest) (Ts := gT) ⟨hx, hb, hml, hown, hts⟩ hM ⟨callB_of na hts (lw_good2 _ _ _ _ k5) rfl rfl rfl (hts _ k4) (hts _ k1) ⟨k6, k7, k8⟩ ⟨Nat.le_trans hroom.1 hrm.1, Nat.le_trans hroom.2 hrm.2⟩, hts _ k2, hts _ k3⟩ ⟨?_, va_recv hK hP hc he, ?_⟩ rfl hlen hl.1 hst (lv_room hcat) hdg ⟨hkc, hks⟩) hS hl kk
  · intro a U g mk q
    obtain ⟨q0, qP, qK, qD⟩ := q
    exact ⟨q0, qP, va_K.moved (u := U) (U := U.calling g mk a) (Vm.Alike.refl U.vm) qK, qD⟩
  · intro U hU hW
    exact ⟨rfl, by rw [hU]; exact hP, va_K.moved hW.alike hK, hD⟩
theorem gd_callS (X : Cx κ cc own nL fr lo) {y : MethodName} {cb : ByteArray} {n na index : Nat} {ret : Option FieldType} {fr' lo' : Nat} {As : List Value} {post : Option Value → Sg → Prop} (hk : LkS own index y cb n ret na) (hM : Mt (kL κ) (kE κ) y cb n ret fr' lo' As sg post) (hroom : fr' + 1 ≤ fr ∧ 8 + (n + 11) + lo' ≤ lo) (hlen : As.length = na) (hst : st = As.reverse ++ rest) (hcat : (rest.map fun v => v.category).sum ≤ 8) (hdg : decode cc pc = .ok (.invokestatic index, 3))
    (kk : ∀ (v : Option Value) (g : Sg), post v g → Gd κ nL (pc + 3) lv (v.toList ++ rest) g) : Gd κ nL pc lv st sg := by
  obtain ⟨⟨p, l, e, R, s, m, args, below, meth, c, Q⟩, ⟨D, A, tys, wld⟩, kc, ks⟩ := κ
  intro H locs ls hP hS hl
  obtain ⟨hx, hb, hml, hown, hts, hK, hD, hrm, hkc, hks⟩ := X
  obtain ⟨k1, k2, k4, k5, k6, k7, k8⟩ := hk
  refine gd_run (va_runS (As := As) (rest := rest) (Ts := gT) ⟨hx, hb, hml, hown, hts⟩ hM ⟨callB_of na hts (lw_good2 _ _ _ _ k5) rfl rfl rfl (hts _ k4) (hts _ k1) ⟨k6, k7, k8⟩ ⟨Nat.le_trans hroom.1 hrm.1, Nat.le_trans hroom.2 hrm.2⟩, hts _ k2⟩ ⟨?_, ?_⟩ rfl hlen hl.1 hst (lv_room hcat) hdg ⟨hkc, hks⟩) hS hl kk
  · intro a U g mk q
    obtain ⟨q0, qP, qK, qD⟩ := q
    exact ⟨q0, qP, va_K.moved (u := U) (U := U.calling g mk a) (Vm.Alike.refl U.vm) qK, qD⟩
  · intro U hU hW
    exact ⟨rfl, by rw [hU]; exact hP, va_K.moved hW.alike hK, hD⟩
theorem gd_callVi (X : Cx κ cc own nL fr lo) {y : MethodName} {cb : ByteArray} {n na index : Nat} {ret : Option FieldType} {fr' lo' : Nat} {b : Nat} {As : List Value} {post : Int32 → Sg → Prop} (hk : LkV own index y cb n ret na) (hM : Mt (kL κ) (kE κ) y cb n ret fr' lo' (.ref b :: As) sg (oI post)) (q0 : Nat) {ci N : Nat} {T : u_T} {fs : List Value} (hc : vwCl[ci]? = some (y.cls, T, N)) (he : ((kE κ).2.2.2 sg)[q0]? = some (b, .inr (ci, fs))) (hroom : fr' + 1 ≤ fr ∧ 8 + (n + 11) + lo' ≤ lo) (hlen : As.length = na) (hst : st = As.reverse ++ .ref b :: rest) (hcat : (rest.map fun v => v.category).sum ≤ 8) (hdg : decode cc pc = .ok (.invokevirtual index, 3)) (kk : ∀ (r : Int32) (g : Sg), post r g → Gd κ nL (pc + 3) lv (.int r :: rest) g) : Gd κ nL pc lv st sg := gd_callV X hk hM q0 hc he hroom hlen hst hcat hdg (fun v g hp => by obtain ⟨r, rfl, h⟩ := hp; exact kk r g h)
theorem gd_callVr (X : Cx κ cc own nL fr lo) {y : MethodName} {cb : ByteArray} {n na index : Nat} {ret : Option FieldType} {fr' lo' : Nat} {b : Nat} {As : List Value} {post : Int32 → Prop} (hk : LkV own index y cb n ret na) (hM : Mt (kL κ) (kE κ) y cb n ret fr' lo' (.ref b :: As) sg (oR sg post)) (q0 : Nat) {ci N : Nat} {T : u_T} {fs : List Value} (hc : vwCl[ci]? = some (y.cls, T, N)) (he : ((kE κ).2.2.2 sg)[q0]? = some (b, .inr (ci, fs))) (hroom : fr' + 1 ≤ fr ∧ 8 + (n + 11) + lo' ≤ lo) (hlen : As.length = na) (hst : st = As.reverse ++ .ref b :: rest) (hcat : (rest.map fun v => v.category).sum ≤ 8) (hdg : decode cc pc = .ok (.invokevirtual index, 3)) (kk : ∀ (r : Int32), post r → Gd κ nL (pc + 3) lv (.int r :: rest) sg) : Gd κ nL pc lv st sg := gd_callV X hk hM q0 hc he hroom hlen hst hcat hdg (fun v g hp => by obtain ⟨r, rfl, rfl, h⟩ := hp; exact kk r h)
theorem gd_callVv (X : Cx κ cc own nL fr lo) {y : MethodName} {cb : ByteArray} {n na index : Nat} {ret : Option FieldType} {fr' lo' : Nat} {b : Nat} {As : List Value} {post : Sg → Prop} (hk : LkV own index y cb n ret na) (hM : Mt (kL κ) (kE κ) y cb n ret fr' lo' (.ref b :: As) sg (oV post)) (q0 : Nat) {ci N : Nat} {T : u_T} {fs : List Value} (hc : vwCl[ci]? = some (y.cls, T, N)) (he : ((kE κ).2.2.2 sg)[q0]? = some (b, .inr (ci, fs))) (hroom : fr' + 1 ≤ fr ∧ 8 + (n + 11) + lo' ≤ lo) (hlen : As.length = na) (hst : st = As.reverse ++ .ref b :: rest) (hcat : (rest.map fun v => v.category).sum ≤ 8) (hdg : decode cc pc = .ok (.invokevirtual index, 3)) (kk : ∀ (g : Sg), post g → Gd κ nL (pc + 3) lv rest g) : Gd κ nL pc lv st sg := gd_callV X hk hM q0 hc he hroom hlen hst hcat hdg (fun v g hp => by obtain ⟨rfl, h⟩ := hp; exact kk g h)
theorem gd_callVa (X : Cx κ cc own nL fr lo) {y : MethodName} {cb : ByteArray} {n na index : Nat} {ret : Option FieldType} {fr' lo' : Nat} {b : Nat} {As : List Value} {a : Nat} {post : Sg → Prop} (hk : LkV own index y cb n ret na) (hM : Mt (kL κ) (kE κ) y cb n ret fr' lo' (.ref b :: As) sg (oA a post)) (q0 : Nat) {ci N : Nat} {T : u_T} {fs : List Value} (hc : vwCl[ci]? = some (y.cls, T, N)) (he : ((kE κ).2.2.2 sg)[q0]? = some (b, .inr (ci, fs))) (hroom : fr' + 1 ≤ fr ∧ 8 + (n + 11) + lo' ≤ lo) (hlen : As.length = na) (hst : st = As.reverse ++ .ref b :: rest) (hcat : (rest.map fun v => v.category).sum ≤ 8) (hdg : decode cc pc = .ok (.invokevirtual index, 3)) (kk : ∀ (g : Sg), post g → Gd κ nL (pc + 3) lv (.ref a :: rest) g) : Gd κ nL pc lv st sg := gd_callV X hk hM q0 hc he hroom hlen hst hcat hdg (fun v g hp => by obtain ⟨rfl, h⟩ := hp; exact kk g h)
theorem gd_callSi (X : Cx κ cc own nL fr lo) {y : MethodName} {cb : ByteArray} {n na index : Nat} {ret : Option FieldType} {fr' lo' : Nat} {As : List Value} {post : Int32 → Sg → Prop} (hk : LkS own index y cb n ret na) (hM : Mt (kL κ) (kE κ) y cb n ret fr' lo' As sg (oI post))  (hroom : fr' + 1 ≤ fr ∧ 8 + (n + 11) + lo' ≤ lo) (hlen : As.length = na) (hst : st = As.reverse ++ rest) (hcat : (rest.map fun v => v.category).sum ≤ 8) (hdg : decode cc pc = .ok (.invokestatic index, 3)) (kk : ∀ (r : Int32) (g : Sg), post r g → Gd κ nL (pc + 3) lv (.int r :: rest) g) : Gd κ nL pc lv st sg := gd_callS X hk hM  hroom hlen hst hcat hdg (fun v g hp => by obtain ⟨r, rfl, h⟩ := hp; exact kk r g h)
theorem gd_callSr (X : Cx κ cc own nL fr lo) {y : MethodName} {cb : ByteArray} {n na index : Nat} {ret : Option FieldType} {fr' lo' : Nat} {As : List Value} {post : Int32 → Prop} (hk : LkS own index y cb n ret na) (hM : Mt (kL κ) (kE κ) y cb n ret fr' lo' As sg (oR sg post))  (hroom : fr' + 1 ≤ fr ∧ 8 + (n + 11) + lo' ≤ lo) (hlen : As.length = na) (hst : st = As.reverse ++ rest) (hcat : (rest.map fun v => v.category).sum ≤ 8) (hdg : decode cc pc = .ok (.invokestatic index, 3)) (kk : ∀ (r : Int32), post r → Gd κ nL (pc + 3) lv (.int r :: rest) sg) : Gd κ nL pc lv st sg := gd_callS X hk hM  hroom hlen hst hcat hdg (fun v g hp => by obtain ⟨r, rfl, rfl, h⟩ := hp; exact kk r h)
theorem gd_callSv (X : Cx κ cc own nL fr lo) {y : MethodName} {cb : ByteArray} {n na index : Nat} {ret : Option FieldType} {fr' lo' : Nat} {As : List Value} {post : Sg → Prop} (hk : LkS own index y cb n ret na) (hM : Mt (kL κ) (kE κ) y cb n ret fr' lo' As sg (oV post))  (hroom : fr' + 1 ≤ fr ∧ 8 + (n + 11) + lo' ≤ lo) (hlen : As.length = na) (hst : st = As.reverse ++ rest) (hcat : (rest.map fun v => v.category).sum ≤ 8) (hdg : decode cc pc = .ok (.invokestatic index, 3)) (kk : ∀ (g : Sg), post g → Gd κ nL (pc + 3) lv rest g) : Gd κ nL pc lv st sg := gd_callS X hk hM  hroom hlen hst hcat hdg (fun v g hp => by obtain ⟨rfl, h⟩ := hp; exact kk g h)
theorem gd_callSa (X : Cx κ cc own nL fr lo) {y : MethodName} {cb : ByteArray} {n na index : Nat} {ret : Option FieldType} {fr' lo' : Nat} {As : List Value} {a : Nat} {post : Sg → Prop} (hk : LkS own index y cb n ret na) (hM : Mt (kL κ) (kE κ) y cb n ret fr' lo' As sg (oA a post))  (hroom : fr' + 1 ≤ fr ∧ 8 + (n + 11) + lo' ≤ lo) (hlen : As.length = na) (hst : st = As.reverse ++ rest) (hcat : (rest.map fun v => v.category).sum ≤ 8) (hdg : decode cc pc = .ok (.invokestatic index, 3)) (kk : ∀ (g : Sg), post g → Gd κ nL (pc + 3) lv (.ref a :: rest) g) : Gd κ nL pc lv st sg := gd_callS X hk hM  hroom hlen hst hcat hdg (fun v g hp => by obtain ⟨rfl, h⟩ := hp; exact kk g h)
end GD
end
section
/-! the worlds: the class's 46 cells, the reference's 8, over a table of ints g -/
def tyG (cy : Nat → ClassId) : List (ClassId × FieldType) := [(cy 0, .byte), (cy 1, .int), (cy 2, .boolean), (cy 3, .object "MinuteSignal$Held"), (cy 4, .array .int)]
def WC (cy : Nat → ClassId) (ad : Nat → Nat) (g : SG) : va_W := [
  (ad 0, .inr (4, [.ref (ad 20), .ref (ad 1), .ref (ad 3), .ref (ad 4), .ref (ad 5), .ref (ad 9), .int (g 0 0), .int (g 0 1)])),
  (ad 1, .inr (2, [.ref (ad 2), .int (g 0 2), .int (g 0 3)])),
  (ad 2, .inl (cy 3, 10, .inr (.inr (.inr (.inr (fun i => some (ad (20 + 2 * (i + 1))))))))),
  (ad 3, .inl (cy 3, 2, .inr (.inr (.inr (.inr (fun i => some (ad (20 + 2 * (i + 11))))))))),
  (ad 4, .inl (cy 2, 2, .inl (g 1))),
  (ad 5, .inr (0, [.ref (ad 6), .ref (ad 7), .ref (ad 8), .int (g 0 4), .int (g 0 5)])),
  (ad 6, .inl (cy 1, 20, .inl (g 2))),
  (ad 7, .inl (cy 1, 6, .inl (g 3))),
  (ad 8, .inl (cy 1, 6, .inl (g 4))),
  (ad 9, .inr (3, [.ref (ad 10), .ref (ad 11), .ref (ad 12), .int (g 0 6), .int (g 0 7), .int (g 0 8), .int (g 0 9)])),
  (ad 10, .inl (cy 1, 11520, .inl (g 5))),
  (ad 11, .inl (cy 1, 60, .inl (g 6))),
  (ad 12, .inl (cy 4, 7, .inr (.inr (.inr (.inr (fun i => some (ad (13 + i)))))))),
  (ad 13, .inl (cy 1, 192, .inl (g 7))),
  (ad 14, .inl (cy 1, 192, .inl (g 8))),
  (ad 15, .inl (cy 1, 192, .inl (g 9))),
  (ad 16, .inl (cy 1, 192, .inl (g 10))),
  (ad 17, .inl (cy 1, 192, .inl (g 11))),
  (ad 18, .inl (cy 1, 192, .inl (g 12))),
  (ad 19, .inl (cy 1, 192, .inl (g 13))),
  (ad 20, .inr (1, [.ref (ad 21), .int (g 20 0), .int (g 20 1), .int (g 20 2), .int (g 20 3), .int (g 20 4)])),
  (ad 21, .inl (cy 0, 120, .inl (g 40))),
  (ad 22, .inr (1, [.ref (ad 23), .int (g 21 0), .int (g 21 1), .int (g 21 2), .int (g 21 3), .int (g 21 4)])),
  (ad 23, .inl (cy 0, 120, .inl (g 41))),
  (ad 24, .inr (1, [.ref (ad 25), .int (g 22 0), .int (g 22 1), .int (g 22 2), .int (g 22 3), .int (g 22 4)])),
  (ad 25, .inl (cy 0, 120, .inl (g 42))),
  (ad 26, .inr (1, [.ref (ad 27), .int (g 23 0), .int (g 23 1), .int (g 23 2), .int (g 23 3), .int (g 23 4)])),
  (ad 27, .inl (cy 0, 120, .inl (g 43))),
  (ad 28, .inr (1, [.ref (ad 29), .int (g 24 0), .int (g 24 1), .int (g 24 2), .int (g 24 3), .int (g 24 4)])),
  (ad 29, .inl (cy 0, 120, .inl (g 44))),
  (ad 30, .inr (1, [.ref (ad 31), .int (g 25 0), .int (g 25 1), .int (g 25 2), .int (g 25 3), .int (g 25 4)])),
  (ad 31, .inl (cy 0, 120, .inl (g 45))),
  (ad 32, .inr (1, [.ref (ad 33), .int (g 26 0), .int (g 26 1), .int (g 26 2), .int (g 26 3), .int (g 26 4)])),
  (ad 33, .inl (cy 0, 120, .inl (g 46))),
  (ad 34, .inr (1, [.ref (ad 35), .int (g 27 0), .int (g 27 1), .int (g 27 2), .int (g 27 3), .int (g 27 4)])),
  (ad 35, .inl (cy 0, 120, .inl (g 47))),
  (ad 36, .inr (1, [.ref (ad 37), .int (g 28 0), .int (g 28 1), .int (g 28 2), .int (g 28 3), .int (g 28 4)])),
  (ad 37, .inl (cy 0, 120, .inl (g 48))),
  (ad 38, .inr (1, [.ref (ad 39), .int (g 29 0), .int (g 29 1), .int (g 29 2), .int (g 29 3), .int (g 29 4)])),
  (ad 39, .inl (cy 0, 120, .inl (g 49))),
  (ad 40, .inr (1, [.ref (ad 41), .int (g 30 0), .int (g 30 1), .int (g 30 2), .int (g 30 3), .int (g 30 4)])),
  (ad 41, .inl (cy 0, 120, .inl (g 50))),
  (ad 42, .inr (1, [.ref (ad 43), .int (g 31 0), .int (g 31 1), .int (g 31 2), .int (g 31 3), .int (g 31 4)])),
  (ad 43, .inl (cy 0, 120, .inl (g 51))),
  (ad 44, .inr (1, [.ref (ad 45), .int (g 32 0), .int (g 32 1), .int (g 32 2), .int (g 32 3), .int (g 32 4)])),
  (ad 45, .inl (cy 0, 120, .inl (g 52)))]
def WM (cy : Nat → ClassId) (ad : Nat → Nat) (g : SG) : va_W := [
  (ad 0, .inr (5, [.ref (ad 1), .int (g 0 0), .int (g 0 1), .ref (ad 2), .ref (ad 3), .ref (ad 4), .int (g 0 2), .int (g 0 3), .int (g 0 4), .ref (ad 5), .ref (ad 6), .ref (ad 7), .int (g 0 5), .int (g 0 6)])),
  (ad 1, .inl (cy 1, 126, .inl (g 1))),
  (ad 2, .inl (cy 1, 1260, .inl (g 2))),
  (ad 3, .inl (cy 2, 2, .inl (g 3))),
  (ad 4, .inl (cy 1, 252, .inl (g 4))),
  (ad 5, .inl (cy 1, 6, .inl (g 5))),
  (ad 6, .inl (cy 1, 6, .inl (g 6))),
  (ad 7, .inl (cy 1, 11520, .inl (g 7)))]
abbrev eC (D : va_G) (A : Nat → Prop) (cy : Nat → ClassId) (ad : Nat → Nat) : EX SG := (D, A, tyG cy, WC cy ad)
abbrev eM (D : va_G) (A : Nat → Prop) (cy : Nat → ClassId) (ad : Nat → Nat) : EX SG := (D, A, tyG cy, WM cy ad)
abbrev kC (b : BX) (D : va_G) (A : Nat → Prop) (cy : Nat → ClassId) (ad : Nat → Nat) : KX SG := (b, eC D A cy ad, 0, 0)
abbrev kM (b : BX) (D : va_G) (A : Nat → Prop) (cy : Nat → ClassId) (ad : Nat → Nat) : KX SG := (b, eM D A cy ad, 0, 0)
theorem upd_sput (g : SG) (a i : Nat) (v : Int32) : upd (g a) i v = sput g a i v a := by
  funext j
  unfold upd sput
  by_cases h : j = i
  · subst h; simp
  · have h2 : Nat.beq j i = false := by
      cases hq : Nat.beq j i with
      | false => rfl
      | true => exact absurd (Nat.eq_of_beq_eq_true hq) h
    simp [h, h2]
def jrem (x y : Int32) : Int32 := x - x / y * y
def jshl (x y : Int32) : Int32 := x <<< (y &&& 31)
def jshr (x y : Int32) : Int32 := x >>> (y &&& 31)
def jushr (x y : Int32) : Int32 := (x.toUInt32 >>> (y.toUInt32 &&& Int32.toUInt32 31)).toInt32
def R_law : String := "MinuteSignalLaw"
theorem q_0 : Cond.selects RX5 yX5_rowChanged yX5_rowChanged ∈ gT := gT_in (List.mem_of_getElem? (i := 0) (by decide +kernel)) (by decide +kernel)
theorem q_1 : Cond.selects RX5 yX5_isShown yX5_isShown ∈ gT := gT_in (List.mem_of_getElem? (i := 1) (by decide +kernel)) (by decide +kernel)
theorem q_2 : Cond.selects RX5 yX5_fittingFrames yX5_fittingFrames ∈ gT := gT_in (List.mem_of_getElem? (i := 2) (by decide +kernel)) (by decide +kernel)
theorem q_3 : Cond.selects RX5 yX5_fittingVote yX5_fittingVote ∈ gT := gT_in (List.mem_of_getElem? (i := 3) (by decide +kernel)) (by decide +kernel)
theorem q_4 : Cond.selects RX5 yX5_drifted yX5_drifted ∈ gT := gT_in (List.mem_of_getElem? (i := 4) (by decide +kernel)) (by decide +kernel)
theorem q_5 : Cond.selects RX5 yX5_apart yX5_apart ∈ gT := gT_in (List.mem_of_getElem? (i := 5) (by decide +kernel)) (by decide +kernel)
theorem q_6 : Cond.selects RX6 yX6_remember yX6_remember ∈ gT := gT_in (List.mem_of_getElem? (i := 6) (by decide +kernel)) (by decide +kernel)
theorem q_7 : Cond.selects RX6 yX6_comes yX6_comes ∈ gT := gT_in (List.mem_of_getElem? (i := 7) (by decide +kernel)) (by decide +kernel)
theorem q_8 : Cond.selects RX6 yX6_becomes yX6_becomes ∈ gT := gT_in (List.mem_of_getElem? (i := 8) (by decide +kernel)) (by decide +kernel)
theorem q_9 : Cond.selects RX6 yX6_tells yX6_tells ∈ gT := gT_in (List.mem_of_getElem? (i := 9) (by decide +kernel)) (by decide +kernel)
theorem q_10 : Cond.selects RX6 yX6_layPhase yX6_layPhase ∈ gT := gT_in (List.mem_of_getElem? (i := 10) (by decide +kernel)) (by decide +kernel)
theorem q_11 : Cond.selects RX6 yX6_symbolAt yX6_symbolAt ∈ gT := gT_in (List.mem_of_getElem? (i := 11) (by decide +kernel)) (by decide +kernel)
theorem q_12 : Cond.selects RX6 yX6_layFrames yX6_layFrames ∈ gT := gT_in (List.mem_of_getElem? (i := 12) (by decide +kernel)) (by decide +kernel)
theorem q_13 : Cond.selects RX6 yX6_firstOf yX6_firstOf ∈ gT := gT_in (List.mem_of_getElem? (i := 13) (by decide +kernel)) (by decide +kernel)
theorem q_14 : Cond.selects RX6 yX6_missesOf yX6_missesOf ∈ gT := gT_in (List.mem_of_getElem? (i := 14) (by decide +kernel)) (by decide +kernel)
theorem q_15 : Cond.selects RX6 yX6_wrongOf yX6_wrongOf ∈ gT := gT_in (List.mem_of_getElem? (i := 15) (by decide +kernel)) (by decide +kernel)
theorem q_16 : Cond.selects RX6 yX6_isShown yX6_isShown ∈ gT := gT_in (List.mem_of_getElem? (i := 16) (by decide +kernel)) (by decide +kernel)
theorem q_17 : Cond.selects RX6 yX6_lastTime yX6_lastTime ∈ gT := gT_in (List.mem_of_getElem? (i := 17) (by decide +kernel)) (by decide +kernel)
theorem q_18 : Cond.selects RX6 yX6_parity yX6_parity ∈ gT := gT_in (List.mem_of_getElem? (i := 18) (by decide +kernel)) (by decide +kernel)
theorem q_19 : Cond.selects RX6 yX6_isClear yX6_isClear ∈ gT := gT_in (List.mem_of_getElem? (i := 19) (by decide +kernel)) (by decide +kernel)
theorem q_20 : Cond.selects RX6 yX6_valueOf yX6_valueOf ∈ gT := gT_in (List.mem_of_getElem? (i := 20) (by decide +kernel)) (by decide +kernel)
theorem q_21 : Cond.selects RX6 yX6_twoFigures yX6_twoFigures ∈ gT := gT_in (List.mem_of_getElem? (i := 21) (by decide +kernel)) (by decide +kernel)
theorem q_22 : Cond.selects RX6 yX6_apart yX6_apart ∈ gT := gT_in (List.mem_of_getElem? (i := 22) (by decide +kernel)) (by decide +kernel)
theorem q_23 : Cond.initialized R_law ∈ gT := gT_in (List.mem_of_getElem? (i := 23) (by decide +kernel)) (by decide +kernel)
theorem q_24 : Cond.initialized RX5 ∈ gT := gT_in (List.mem_of_getElem? (i := 24) (by decide +kernel)) (by decide +kernel)
theorem q_25 : Cond.initialized RX1 ∈ gT := gT_in (List.mem_of_getElem? (i := 25) (by decide +kernel)) (by decide +kernel)
theorem q_26 : Cond.initialized RX2 ∈ gT := gT_in (List.mem_of_getElem? (i := 26) (by decide +kernel)) (by decide +kernel)
theorem q_27 : Cond.initialized RX0 ∈ gT := gT_in (List.mem_of_getElem? (i := 27) (by decide +kernel)) (by decide +kernel)
theorem q_28 : Cond.initialized RX4 ∈ gT := gT_in (List.mem_of_getElem? (i := 28) (by decide +kernel)) (by decide +kernel)
theorem q_29 : Cond.initialized RX6 ∈ gT := gT_in (List.mem_of_getElem? (i := 29) (by decide +kernel)) (by decide +kernel)
theorem q_30 : Cond.initialized RJ9 ∈ gT := gT_in (List.mem_of_getElem? (i := 30) (by decide +kernel)) (by decide +kernel)
theorem q_31 : Cond.initialized RX3 ∈ gT := gT_in (List.mem_of_getElem? (i := 31) (by decide +kernel)) (by decide +kernel)
theorem q_32 : Cond.initialized RJ6 ∈ gT := gT_in (List.mem_of_getElem? (i := 32) (by decide +kernel)) (by decide +kernel)
theorem q_35 : Cond.methodLink R_law 9 yX5_init ∈ gT := gT_in (List.mem_of_getElem? (i := 35) (by decide +kernel)) (by decide +kernel)
theorem q_36 : Cond.instanceMethod yX5_init ∈ gT := gT_in (List.mem_of_getElem? (i := 36) (by decide +kernel)) (by decide +kernel)
theorem q_37 : Cond.code yX5_init cX5_init 2 none ∈ gT := gT_in (List.mem_of_getElem? (i := 37) (by decide +kernel)) (by decide +kernel)
theorem q_44 : Cond.instanceMethod yX1_init ∈ gT := gT_in (List.mem_of_getElem? (i := 44) (by decide +kernel)) (by decide +kernel)
theorem q_45 : Cond.code yX1_init cX1_init 1 none ∈ gT := gT_in (List.mem_of_getElem? (i := 45) (by decide +kernel)) (by decide +kernel)
theorem q_47 : Cond.fieldLink RX1 9 "MinuteSignal$Held" "symbols" "[B" ∈ gT := gT_in (List.mem_of_getElem? (i := 47) (by decide +kernel)) (by decide +kernel)
theorem q_48 : Cond.fieldLink RX0 42 "MinuteSignal$Held" "symbols" "[B" ∈ gT := gT_in (List.mem_of_getElem? (i := 48) (by decide +kernel)) (by decide +kernel)
theorem q_49 : Cond.fieldLink RX5 109 "MinuteSignal$Held" "symbols" "[B" ∈ gT := gT_in (List.mem_of_getElem? (i := 49) (by decide +kernel)) (by decide +kernel)
theorem q_50 : Cond.fieldLink RX1 25 "MinuteSignal$Held" "size" "I" ∈ gT := gT_in (List.mem_of_getElem? (i := 50) (by decide +kernel)) (by decide +kernel)
theorem q_51 : Cond.fieldLink RX5 45 "MinuteSignal$Held" "size" "I" ∈ gT := gT_in (List.mem_of_getElem? (i := 51) (by decide +kernel)) (by decide +kernel)
theorem q_52 : Cond.fieldLink RX0 33 "MinuteSignal$Held" "size" "I" ∈ gT := gT_in (List.mem_of_getElem? (i := 52) (by decide +kernel)) (by decide +kernel)
theorem q_53 : Cond.fieldLink RX1 15 "MinuteSignal$Held" "need" "I" ∈ gT := gT_in (List.mem_of_getElem? (i := 53) (by decide +kernel)) (by decide +kernel)
theorem q_54 : Cond.fieldLink RX5 68 "MinuteSignal$Held" "need" "I" ∈ gT := gT_in (List.mem_of_getElem? (i := 54) (by decide +kernel)) (by decide +kernel)
theorem q_55 : Cond.fieldLink RX1 19 "MinuteSignal$Held" "drift" "I" ∈ gT := gT_in (List.mem_of_getElem? (i := 55) (by decide +kernel)) (by decide +kernel)
theorem q_56 : Cond.fieldLink RX5 71 "MinuteSignal$Held" "drift" "I" ∈ gT := gT_in (List.mem_of_getElem? (i := 56) (by decide +kernel)) (by decide +kernel)
theorem q_57 : Cond.fieldLink RX1 22 "MinuteSignal$Held" "clock" "I" ∈ gT := gT_in (List.mem_of_getElem? (i := 57) (by decide +kernel)) (by decide +kernel)
theorem q_58 : Cond.fieldLink RX5 85 "MinuteSignal$Held" "clock" "I" ∈ gT := gT_in (List.mem_of_getElem? (i := 58) (by decide +kernel)) (by decide +kernel)
theorem q_59 : Cond.fieldLink RX1 28 "MinuteSignal$Held" "age" "I" ∈ gT := gT_in (List.mem_of_getElem? (i := 59) (by decide +kernel)) (by decide +kernel)
theorem q_60 : Cond.fieldLink RX5 88 "MinuteSignal$Held" "age" "I" ∈ gT := gT_in (List.mem_of_getElem? (i := 60) (by decide +kernel)) (by decide +kernel)
theorem q_77 : Cond.methodLink RX5 18 yX2_init ∈ gT := gT_in (List.mem_of_getElem? (i := 77) (by decide +kernel)) (by decide +kernel)
theorem q_78 : Cond.instanceMethod yX2_init ∈ gT := gT_in (List.mem_of_getElem? (i := 78) (by decide +kernel)) (by decide +kernel)
theorem q_79 : Cond.code yX2_init cX2_init 2 none ∈ gT := gT_in (List.mem_of_getElem? (i := 79) (by decide +kernel)) (by decide +kernel)
theorem q_84 : Cond.fieldLink RX2 11 "MinuteSignal$History" "states" "[LMinuteSignal$Held;" ∈ gT := gT_in (List.mem_of_getElem? (i := 84) (by decide +kernel)) (by decide +kernel)
theorem q_85 : Cond.fieldLink RX2 18 "MinuteSignal$History" "next" "I" ∈ gT := gT_in (List.mem_of_getElem? (i := 85) (by decide +kernel)) (by decide +kernel)
theorem q_86 : Cond.fieldLink RX2 26 "MinuteSignal$History" "size" "I" ∈ gT := gT_in (List.mem_of_getElem? (i := 86) (by decide +kernel)) (by decide +kernel)
theorem q_87 : Cond.fieldLink RX5 105 "MinuteSignal$History" "size" "I" ∈ gT := gT_in (List.mem_of_getElem? (i := 87) (by decide +kernel)) (by decide +kernel)
theorem q_98 : Cond.instanceMethod yX0_init ∈ gT := gT_in (List.mem_of_getElem? (i := 98) (by decide +kernel)) (by decide +kernel)
theorem q_99 : Cond.code yX0_init cX0_init 1 none ∈ gT := gT_in (List.mem_of_getElem? (i := 99) (by decide +kernel)) (by decide +kernel)
theorem q_101 : Cond.fieldLink RX0 9 "MinuteSignal$Frames" "gaps" "[I" ∈ gT := gT_in (List.mem_of_getElem? (i := 101) (by decide +kernel)) (by decide +kernel)
theorem q_102 : Cond.fieldLink RX0 15 "MinuteSignal$Frames" "ones" "[I" ∈ gT := gT_in (List.mem_of_getElem? (i := 102) (by decide +kernel)) (by decide +kernel)
theorem q_103 : Cond.fieldLink RX0 18 "MinuteSignal$Frames" "clear" "[I" ∈ gT := gT_in (List.mem_of_getElem? (i := 103) (by decide +kernel)) (by decide +kernel)
theorem q_104 : Cond.fieldLink RX0 46 "MinuteSignal$Frames" "phase" "I" ∈ gT := gT_in (List.mem_of_getElem? (i := 104) (by decide +kernel)) (by decide +kernel)
theorem q_105 : Cond.fieldLink RX5 185 "MinuteSignal$Frames" "phase" "I" ∈ gT := gT_in (List.mem_of_getElem? (i := 105) (by decide +kernel)) (by decide +kernel)
theorem q_106 : Cond.fieldLink RX0 29 "MinuteSignal$Frames" "count" "I" ∈ gT := gT_in (List.mem_of_getElem? (i := 106) (by decide +kernel)) (by decide +kernel)
theorem q_107 : Cond.fieldLink RX4 30 "MinuteSignal$Frames" "count" "I" ∈ gT := gT_in (List.mem_of_getElem? (i := 107) (by decide +kernel)) (by decide +kernel)
theorem q_108 : Cond.fieldLink RX5 117 "MinuteSignal$Frames" "count" "I" ∈ gT := gT_in (List.mem_of_getElem? (i := 108) (by decide +kernel)) (by decide +kernel)
theorem q_125 : Cond.instanceMethod yX4_init ∈ gT := gT_in (List.mem_of_getElem? (i := 125) (by decide +kernel)) (by decide +kernel)
theorem q_126 : Cond.code yX4_init cX4_init 1 none ∈ gT := gT_in (List.mem_of_getElem? (i := 126) (by decide +kernel)) (by decide +kernel)
theorem q_130 : Cond.fieldLink RX4 9 "MinuteSignal$Vote" "misses" "[I" ∈ gT := gT_in (List.mem_of_getElem? (i := 130) (by decide +kernel)) (by decide +kernel)
theorem q_131 : Cond.fieldLink RX4 15 "MinuteSignal$Vote" "byMinute" "[I" ∈ gT := gT_in (List.mem_of_getElem? (i := 131) (by decide +kernel)) (by decide +kernel)
theorem q_132 : Cond.fieldLink RX4 20 "MinuteSignal$Vote" "byHour" "[[I" ∈ gT := gT_in (List.mem_of_getElem? (i := 132) (by decide +kernel)) (by decide +kernel)
theorem q_133 : Cond.fieldLink RX4 43 "MinuteSignal$Vote" "best" "I" ∈ gT := gT_in (List.mem_of_getElem? (i := 133) (by decide +kernel)) (by decide +kernel)
theorem q_134 : Cond.fieldLink RX5 133 "MinuteSignal$Vote" "best" "I" ∈ gT := gT_in (List.mem_of_getElem? (i := 134) (by decide +kernel)) (by decide +kernel)
theorem q_135 : Cond.fieldLink RX4 75 "MinuteSignal$Vote" "fewest" "I" ∈ gT := gT_in (List.mem_of_getElem? (i := 135) (by decide +kernel)) (by decide +kernel)
theorem q_136 : Cond.fieldLink RX5 142 "MinuteSignal$Vote" "fewest" "I" ∈ gT := gT_in (List.mem_of_getElem? (i := 136) (by decide +kernel)) (by decide +kernel)
theorem q_137 : Cond.fieldLink RX4 78 "MinuteSignal$Vote" "margin" "I" ∈ gT := gT_in (List.mem_of_getElem? (i := 137) (by decide +kernel)) (by decide +kernel)
theorem q_138 : Cond.fieldLink RX5 145 "MinuteSignal$Vote" "margin" "I" ∈ gT := gT_in (List.mem_of_getElem? (i := 138) (by decide +kernel)) (by decide +kernel)
theorem q_139 : Cond.fieldLink RX4 52 "MinuteSignal$Vote" "last" "I" ∈ gT := gT_in (List.mem_of_getElem? (i := 139) (by decide +kernel)) (by decide +kernel)
theorem q_140 : Cond.fieldLink RX5 82 "MinuteSignal$Vote" "last" "I" ∈ gT := gT_in (List.mem_of_getElem? (i := 140) (by decide +kernel)) (by decide +kernel)
theorem q_156 : Cond.fieldLink RX5 12 "MinuteSignal" "now" "LMinuteSignal$Held;" ∈ gT := gT_in (List.mem_of_getElem? (i := 156) (by decide +kernel)) (by decide +kernel)
theorem q_157 : Cond.fieldLink RX5 19 "MinuteSignal" "history" "LMinuteSignal$History;" ∈ gT := gT_in (List.mem_of_getElem? (i := 157) (by decide +kernel)) (by decide +kernel)
theorem q_158 : Cond.fieldLink RX5 23 "MinuteSignal" "images" "[LMinuteSignal$Held;" ∈ gT := gT_in (List.mem_of_getElem? (i := 158) (by decide +kernel)) (by decide +kernel)
theorem q_159 : Cond.fieldLink RX5 27 "MinuteSignal" "imageKept" "[Z" ∈ gT := gT_in (List.mem_of_getElem? (i := 159) (by decide +kernel)) (by decide +kernel)
theorem q_160 : Cond.fieldLink RX5 34 "MinuteSignal" "framesNow" "LMinuteSignal$Frames;" ∈ gT := gT_in (List.mem_of_getElem? (i := 160) (by decide +kernel)) (by decide +kernel)
theorem q_161 : Cond.fieldLink RX5 41 "MinuteSignal" "voteNow" "LMinuteSignal$Vote;" ∈ gT := gT_in (List.mem_of_getElem? (i := 161) (by decide +kernel)) (by decide +kernel)
theorem q_162 : Cond.fieldLink RX5 188 "MinuteSignal" "framesFit" "Z" ∈ gT := gT_in (List.mem_of_getElem? (i := 162) (by decide +kernel)) (by decide +kernel)
theorem q_163 : Cond.fieldLink RX5 192 "MinuteSignal" "voteFits" "Z" ∈ gT := gT_in (List.mem_of_getElem? (i := 163) (by decide +kernel)) (by decide +kernel)
theorem q_181 : Cond.methodLink R_law 13 yX5_hears ∈ gT := gT_in (List.mem_of_getElem? (i := 181) (by decide +kernel)) (by decide +kernel)
theorem q_182 : Cond.instanceMethod yX5_hears ∈ gT := gT_in (List.mem_of_getElem? (i := 182) (by decide +kernel)) (by decide +kernel)
theorem q_183 : Cond.selects RX5 yX5_hears yX5_hears ∈ gT := gT_in (List.mem_of_getElem? (i := 183) (by decide +kernel)) (by decide +kernel)
theorem q_184 : Cond.code yX5_hears cX5_hears 2 (some .int) ∈ gT := gT_in (List.mem_of_getElem? (i := 184) (by decide +kernel)) (by decide +kernel)
theorem q_185 : Cond.methodLink RX5 49 yX2_remember ∈ gT := gT_in (List.mem_of_getElem? (i := 185) (by decide +kernel)) (by decide +kernel)
theorem q_186 : Cond.instanceMethod yX2_remember ∈ gT := gT_in (List.mem_of_getElem? (i := 186) (by decide +kernel)) (by decide +kernel)
theorem q_187 : Cond.selects RX2 yX2_remember yX2_remember ∈ gT := gT_in (List.mem_of_getElem? (i := 187) (by decide +kernel)) (by decide +kernel)
theorem q_188 : Cond.code yX2_remember cX2_remember 2 none ∈ gT := gT_in (List.mem_of_getElem? (i := 188) (by decide +kernel)) (by decide +kernel)
theorem q_189 : Cond.methodLink RX2 22 yX1_copyFrom ∈ gT := gT_in (List.mem_of_getElem? (i := 189) (by decide +kernel)) (by decide +kernel)
theorem q_190 : Cond.instanceMethod yX1_copyFrom ∈ gT := gT_in (List.mem_of_getElem? (i := 190) (by decide +kernel)) (by decide +kernel)
theorem q_191 : Cond.selects RX1 yX1_copyFrom yX1_copyFrom ∈ gT := gT_in (List.mem_of_getElem? (i := 191) (by decide +kernel)) (by decide +kernel)
theorem q_192 : Cond.code yX1_copyFrom cX1_copyFrom 3 none ∈ gT := gT_in (List.mem_of_getElem? (i := 192) (by decide +kernel)) (by decide +kernel)
theorem q_193 : Cond.methodLink RX2 29 yJ9_min_7cf53 ∈ gT := gT_in (List.mem_of_getElem? (i := 193) (by decide +kernel)) (by decide +kernel)
theorem q_194 : Cond.static yJ9_min_7cf53 ∈ gT := gT_in (List.mem_of_getElem? (i := 194) (by decide +kernel)) (by decide +kernel)
theorem q_195 : Cond.code yJ9_min_7cf53 cJ9_min_7cf53 2 (some .int) ∈ gT := gT_in (List.mem_of_getElem? (i := 195) (by decide +kernel)) (by decide +kernel)
theorem q_196 : Cond.methodLink RX5 53 yX5_symbolOfLength ∈ gT := gT_in (List.mem_of_getElem? (i := 196) (by decide +kernel)) (by decide +kernel)
theorem q_197 : Cond.static yX5_symbolOfLength ∈ gT := gT_in (List.mem_of_getElem? (i := 197) (by decide +kernel)) (by decide +kernel)
theorem q_198 : Cond.code yX5_symbolOfLength cX5_symbolOfLength 1 (some .int) ∈ gT := gT_in (List.mem_of_getElem? (i := 198) (by decide +kernel)) (by decide +kernel)
theorem q_199 : Cond.methodLink RX5 57 yX1_append ∈ gT := gT_in (List.mem_of_getElem? (i := 199) (by decide +kernel)) (by decide +kernel)
theorem q_200 : Cond.instanceMethod yX1_append ∈ gT := gT_in (List.mem_of_getElem? (i := 200) (by decide +kernel)) (by decide +kernel)
theorem q_201 : Cond.selects RX1 yX1_append yX1_append ∈ gT := gT_in (List.mem_of_getElem? (i := 201) (by decide +kernel)) (by decide +kernel)
theorem q_202 : Cond.code yX1_append cX1_append 2 none ∈ gT := gT_in (List.mem_of_getElem? (i := 202) (by decide +kernel)) (by decide +kernel)
theorem q_203 : Cond.methodLink RX5 61 yX5_rowChanged ∈ gT := gT_in (List.mem_of_getElem? (i := 203) (by decide +kernel)) (by decide +kernel)
theorem q_205 : Cond.instanceMethod yX5_rowChanged ∈ gT := gT_in (List.mem_of_getElem? (i := 205) (by decide +kernel)) (by decide +kernel)
theorem q_206 : Cond.code yX5_rowChanged cX5_rowChanged 1 none ∈ gT := gT_in (List.mem_of_getElem? (i := 206) (by decide +kernel)) (by decide +kernel)
theorem q_207 : Cond.methodLink R_law 18 yX5_frames ∈ gT := gT_in (List.mem_of_getElem? (i := 207) (by decide +kernel)) (by decide +kernel)
theorem q_208 : Cond.instanceMethod yX5_frames ∈ gT := gT_in (List.mem_of_getElem? (i := 208) (by decide +kernel)) (by decide +kernel)
theorem q_209 : Cond.selects RX5 yX5_frames yX5_frames ∈ gT := gT_in (List.mem_of_getElem? (i := 209) (by decide +kernel)) (by decide +kernel)
theorem q_210 : Cond.code yX5_frames cX5_frames 5 (some .int) ∈ gT := gT_in (List.mem_of_getElem? (i := 210) (by decide +kernel)) (by decide +kernel)
theorem q_211 : Cond.constant RX5 64 (524287) ∈ gT := gT_in (List.mem_of_getElem? (i := 211) (by decide +kernel)) (by decide +kernel)
theorem q_212 : Cond.methodLink R_law 23 yX5_loses ∈ gT := gT_in (List.mem_of_getElem? (i := 212) (by decide +kernel)) (by decide +kernel)
theorem q_213 : Cond.instanceMethod yX5_loses ∈ gT := gT_in (List.mem_of_getElem? (i := 213) (by decide +kernel)) (by decide +kernel)
theorem q_214 : Cond.selects RX5 yX5_loses yX5_loses ∈ gT := gT_in (List.mem_of_getElem? (i := 214) (by decide +kernel)) (by decide +kernel)
theorem q_215 : Cond.code yX5_loses cX5_loses 2 (some .int) ∈ gT := gT_in (List.mem_of_getElem? (i := 215) (by decide +kernel)) (by decide +kernel)
theorem q_216 : Cond.methodLink RX5 65 yX1_dropFirst ∈ gT := gT_in (List.mem_of_getElem? (i := 216) (by decide +kernel)) (by decide +kernel)
theorem q_217 : Cond.instanceMethod yX1_dropFirst ∈ gT := gT_in (List.mem_of_getElem? (i := 217) (by decide +kernel)) (by decide +kernel)
theorem q_218 : Cond.selects RX1 yX1_dropFirst yX1_dropFirst ∈ gT := gT_in (List.mem_of_getElem? (i := 218) (by decide +kernel)) (by decide +kernel)
theorem q_219 : Cond.code yX1_dropFirst cX1_dropFirst 3 none ∈ gT := gT_in (List.mem_of_getElem? (i := 219) (by decide +kernel)) (by decide +kernel)
theorem q_220 : Cond.methodLink R_law 27 yX5_needs ∈ gT := gT_in (List.mem_of_getElem? (i := 220) (by decide +kernel)) (by decide +kernel)
theorem q_221 : Cond.instanceMethod yX5_needs ∈ gT := gT_in (List.mem_of_getElem? (i := 221) (by decide +kernel)) (by decide +kernel)
theorem q_222 : Cond.selects RX5 yX5_needs yX5_needs ∈ gT := gT_in (List.mem_of_getElem? (i := 222) (by decide +kernel)) (by decide +kernel)
theorem q_223 : Cond.code yX5_needs cX5_needs 3 (some .int) ∈ gT := gT_in (List.mem_of_getElem? (i := 223) (by decide +kernel)) (by decide +kernel)
theorem q_224 : Cond.methodLink R_law 31 yX5_drifts ∈ gT := gT_in (List.mem_of_getElem? (i := 224) (by decide +kernel)) (by decide +kernel)
theorem q_225 : Cond.instanceMethod yX5_drifts ∈ gT := gT_in (List.mem_of_getElem? (i := 225) (by decide +kernel)) (by decide +kernel)
theorem q_226 : Cond.selects RX5 yX5_drifts yX5_drifts ∈ gT := gT_in (List.mem_of_getElem? (i := 226) (by decide +kernel)) (by decide +kernel)
theorem q_227 : Cond.code yX5_drifts cX5_drifts 3 (some .int) ∈ gT := gT_in (List.mem_of_getElem? (i := 227) (by decide +kernel)) (by decide +kernel)
theorem q_228 : Cond.methodLink R_law 35 yX5_sets ∈ gT := gT_in (List.mem_of_getElem? (i := 228) (by decide +kernel)) (by decide +kernel)
theorem q_229 : Cond.instanceMethod yX5_sets ∈ gT := gT_in (List.mem_of_getElem? (i := 229) (by decide +kernel)) (by decide +kernel)
theorem q_230 : Cond.selects RX5 yX5_sets yX5_sets ∈ gT := gT_in (List.mem_of_getElem? (i := 230) (by decide +kernel)) (by decide +kernel)
theorem q_231 : Cond.code yX5_sets cX5_sets 1 (some .int) ∈ gT := gT_in (List.mem_of_getElem? (i := 231) (by decide +kernel)) (by decide +kernel)
theorem q_232 : Cond.methodLink RX5 74 yX5_isShown ∈ gT := gT_in (List.mem_of_getElem? (i := 232) (by decide +kernel)) (by decide +kernel)
theorem q_234 : Cond.instanceMethod yX5_isShown ∈ gT := gT_in (List.mem_of_getElem? (i := 234) (by decide +kernel)) (by decide +kernel)
theorem q_235 : Cond.code yX5_isShown cX5_isShown 1 (some .boolean) ∈ gT := gT_in (List.mem_of_getElem? (i := 235) (by decide +kernel)) (by decide +kernel)
theorem q_236 : Cond.methodLink RX5 113 yX5_fittingFrames ∈ gT := gT_in (List.mem_of_getElem? (i := 236) (by decide +kernel)) (by decide +kernel)
theorem q_238 : Cond.instanceMethod yX5_fittingFrames ∈ gT := gT_in (List.mem_of_getElem? (i := 238) (by decide +kernel)) (by decide +kernel)
theorem q_239 : Cond.code yX5_fittingFrames cX5_fittingFrames 1 (some (.object "MinuteSignal$Frames")) ∈ gT := gT_in (List.mem_of_getElem? (i := 239) (by decide +kernel)) (by decide +kernel)
theorem q_240 : Cond.methodLink RX5 195 yX0_cut ∈ gT := gT_in (List.mem_of_getElem? (i := 240) (by decide +kernel)) (by decide +kernel)
theorem q_241 : Cond.instanceMethod yX0_cut ∈ gT := gT_in (List.mem_of_getElem? (i := 241) (by decide +kernel)) (by decide +kernel)
theorem q_242 : Cond.selects RX0 yX0_cut yX0_cut ∈ gT := gT_in (List.mem_of_getElem? (i := 242) (by decide +kernel)) (by decide +kernel)
theorem q_243 : Cond.code yX0_cut cX0_cut 3 none ∈ gT := gT_in (List.mem_of_getElem? (i := 243) (by decide +kernel)) (by decide +kernel)
theorem q_244 : Cond.methodLink RX0 21 yX0_findPhase ∈ gT := gT_in (List.mem_of_getElem? (i := 244) (by decide +kernel)) (by decide +kernel)
theorem q_245 : Cond.instanceMethod yX0_findPhase ∈ gT := gT_in (List.mem_of_getElem? (i := 245) (by decide +kernel)) (by decide +kernel)
theorem q_246 : Cond.selects RX0 yX0_findPhase yX0_findPhase ∈ gT := gT_in (List.mem_of_getElem? (i := 246) (by decide +kernel)) (by decide +kernel)
theorem q_247 : Cond.code yX0_findPhase cX0_findPhase 3 none ∈ gT := gT_in (List.mem_of_getElem? (i := 247) (by decide +kernel)) (by decide +kernel)
theorem q_248 : Cond.methodLink RX0 25 yX0_firstOf ∈ gT := gT_in (List.mem_of_getElem? (i := 248) (by decide +kernel)) (by decide +kernel)
theorem q_249 : Cond.instanceMethod yX0_firstOf ∈ gT := gT_in (List.mem_of_getElem? (i := 249) (by decide +kernel)) (by decide +kernel)
theorem q_250 : Cond.selects RX0 yX0_firstOf yX0_firstOf ∈ gT := gT_in (List.mem_of_getElem? (i := 250) (by decide +kernel)) (by decide +kernel)
theorem q_251 : Cond.code yX0_firstOf cX0_firstOf 2 (some .int) ∈ gT := gT_in (List.mem_of_getElem? (i := 251) (by decide +kernel)) (by decide +kernel)
theorem q_252 : Cond.methodLink RX0 38 yX0_takeFrame ∈ gT := gT_in (List.mem_of_getElem? (i := 252) (by decide +kernel)) (by decide +kernel)
theorem q_253 : Cond.instanceMethod yX0_takeFrame ∈ gT := gT_in (List.mem_of_getElem? (i := 253) (by decide +kernel)) (by decide +kernel)
theorem q_254 : Cond.selects RX0 yX0_takeFrame yX0_takeFrame ∈ gT := gT_in (List.mem_of_getElem? (i := 254) (by decide +kernel)) (by decide +kernel)
theorem q_255 : Cond.code yX0_takeFrame cX0_takeFrame 7 none ∈ gT := gT_in (List.mem_of_getElem? (i := 255) (by decide +kernel)) (by decide +kernel)
theorem q_256 : Cond.methodLink RX5 78 yX5_fittingVote ∈ gT := gT_in (List.mem_of_getElem? (i := 256) (by decide +kernel)) (by decide +kernel)
theorem q_258 : Cond.instanceMethod yX5_fittingVote ∈ gT := gT_in (List.mem_of_getElem? (i := 258) (by decide +kernel)) (by decide +kernel)
theorem q_259 : Cond.code yX5_fittingVote cX5_fittingVote 1 (some (.object "MinuteSignal$Vote")) ∈ gT := gT_in (List.mem_of_getElem? (i := 259) (by decide +kernel)) (by decide +kernel)
theorem q_260 : Cond.methodLink RX5 198 yX4_take ∈ gT := gT_in (List.mem_of_getElem? (i := 260) (by decide +kernel)) (by decide +kernel)
theorem q_261 : Cond.instanceMethod yX4_take ∈ gT := gT_in (List.mem_of_getElem? (i := 261) (by decide +kernel)) (by decide +kernel)
theorem q_262 : Cond.selects RX4 yX4_take yX4_take ∈ gT := gT_in (List.mem_of_getElem? (i := 262) (by decide +kernel)) (by decide +kernel)
theorem q_263 : Cond.code yX4_take cX4_take 3 none ∈ gT := gT_in (List.mem_of_getElem? (i := 263) (by decide +kernel)) (by decide +kernel)
theorem q_264 : Cond.methodLink RX4 23 yX4_countByMinute ∈ gT := gT_in (List.mem_of_getElem? (i := 264) (by decide +kernel)) (by decide +kernel)
theorem q_265 : Cond.instanceMethod yX4_countByMinute ∈ gT := gT_in (List.mem_of_getElem? (i := 265) (by decide +kernel)) (by decide +kernel)
theorem q_266 : Cond.selects RX4 yX4_countByMinute yX4_countByMinute ∈ gT := gT_in (List.mem_of_getElem? (i := 266) (by decide +kernel)) (by decide +kernel)
theorem q_267 : Cond.code yX4_countByMinute cX4_countByMinute 6 none ∈ gT := gT_in (List.mem_of_getElem? (i := 267) (by decide +kernel)) (by decide +kernel)
theorem q_268 : Cond.methodLink RX4 55 yX3_bitsOf ∈ gT := gT_in (List.mem_of_getElem? (i := 268) (by decide +kernel)) (by decide +kernel)
theorem q_269 : Cond.static yX3_bitsOf ∈ gT := gT_in (List.mem_of_getElem? (i := 269) (by decide +kernel)) (by decide +kernel)
theorem q_270 : Cond.code yX3_bitsOf cX3_bitsOf 8 (some .int) ∈ gT := gT_in (List.mem_of_getElem? (i := 270) (by decide +kernel)) (by decide +kernel)
theorem q_271 : Cond.methodLink RX3 15 yX3_minuteOf ∈ gT := gT_in (List.mem_of_getElem? (i := 271) (by decide +kernel)) (by decide +kernel)
theorem q_272 : Cond.static yX3_minuteOf ∈ gT := gT_in (List.mem_of_getElem? (i := 272) (by decide +kernel)) (by decide +kernel)
theorem q_273 : Cond.code yX3_minuteOf cX3_minuteOf 1 (some .int) ∈ gT := gT_in (List.mem_of_getElem? (i := 273) (by decide +kernel)) (by decide +kernel)
theorem q_274 : Cond.methodLink RX3 22 yX3_shiftOf ∈ gT := gT_in (List.mem_of_getElem? (i := 274) (by decide +kernel)) (by decide +kernel)
theorem q_275 : Cond.static yX3_shiftOf ∈ gT := gT_in (List.mem_of_getElem? (i := 275) (by decide +kernel)) (by decide +kernel)
theorem q_276 : Cond.code yX3_shiftOf cX3_shiftOf 1 (some .int) ∈ gT := gT_in (List.mem_of_getElem? (i := 276) (by decide +kernel)) (by decide +kernel)
theorem q_277 : Cond.methodLink RX3 25 yX3_leapOf ∈ gT := gT_in (List.mem_of_getElem? (i := 277) (by decide +kernel)) (by decide +kernel)
theorem q_278 : Cond.static yX3_leapOf ∈ gT := gT_in (List.mem_of_getElem? (i := 278) (by decide +kernel)) (by decide +kernel)
theorem q_279 : Cond.code yX3_leapOf cX3_leapOf 1 (some .int) ∈ gT := gT_in (List.mem_of_getElem? (i := 279) (by decide +kernel)) (by decide +kernel)
theorem q_280 : Cond.methodLink RX3 19 yX3_summerOf ∈ gT := gT_in (List.mem_of_getElem? (i := 280) (by decide +kernel)) (by decide +kernel)
theorem q_281 : Cond.static yX3_summerOf ∈ gT := gT_in (List.mem_of_getElem? (i := 281) (by decide +kernel)) (by decide +kernel)
theorem q_282 : Cond.code yX3_summerOf cX3_summerOf 1 (some .int) ∈ gT := gT_in (List.mem_of_getElem? (i := 282) (by decide +kernel)) (by decide +kernel)
theorem q_283 : Cond.methodLink RX3 35 yJ6_bitCount_0f7a4 ∈ gT := gT_in (List.mem_of_getElem? (i := 283) (by decide +kernel)) (by decide +kernel)
theorem q_284 : Cond.static yJ6_bitCount_0f7a4 ∈ gT := gT_in (List.mem_of_getElem? (i := 284) (by decide +kernel)) (by decide +kernel)
theorem q_285 : Cond.code yJ6_bitCount_0f7a4 cJ6_bitCount_0f7a4 1 (some .int) ∈ gT := gT_in (List.mem_of_getElem? (i := 285) (by decide +kernel)) (by decide +kernel)
theorem q_286 : Cond.constant RJ6 265 (1431655765) ∈ gT := gT_in (List.mem_of_getElem? (i := 286) (by decide +kernel)) (by decide +kernel)
theorem q_287 : Cond.constant RJ6 266 (858993459) ∈ gT := gT_in (List.mem_of_getElem? (i := 287) (by decide +kernel)) (by decide +kernel)
theorem q_288 : Cond.constant RJ6 267 (252645135) ∈ gT := gT_in (List.mem_of_getElem? (i := 288) (by decide +kernel)) (by decide +kernel)
theorem q_289 : Cond.methodLink RX4 59 yX0_missesOf ∈ gT := gT_in (List.mem_of_getElem? (i := 289) (by decide +kernel)) (by decide +kernel)
theorem q_290 : Cond.instanceMethod yX0_missesOf ∈ gT := gT_in (List.mem_of_getElem? (i := 290) (by decide +kernel)) (by decide +kernel)
theorem q_291 : Cond.selects RX0 yX0_missesOf yX0_missesOf ∈ gT := gT_in (List.mem_of_getElem? (i := 291) (by decide +kernel)) (by decide +kernel)
theorem q_292 : Cond.code yX0_missesOf cX0_missesOf 4 (some .int) ∈ gT := gT_in (List.mem_of_getElem? (i := 292) (by decide +kernel)) (by decide +kernel)
theorem q_293 : Cond.methodLink RX0 53 yJ6_bitCount_0f7a4 ∈ gT := gT_in (List.mem_of_getElem? (i := 293) (by decide +kernel)) (by decide +kernel)
theorem q_294 : Cond.methodLink RX4 27 yX4_countByHour ∈ gT := gT_in (List.mem_of_getElem? (i := 294) (by decide +kernel)) (by decide +kernel)
theorem q_295 : Cond.instanceMethod yX4_countByHour ∈ gT := gT_in (List.mem_of_getElem? (i := 295) (by decide +kernel)) (by decide +kernel)
theorem q_296 : Cond.selects RX4 yX4_countByHour yX4_countByHour ∈ gT := gT_in (List.mem_of_getElem? (i := 296) (by decide +kernel)) (by decide +kernel)
theorem q_297 : Cond.code yX4_countByHour cX4_countByHour 6 none ∈ gT := gT_in (List.mem_of_getElem? (i := 297) (by decide +kernel)) (by decide +kernel)
theorem q_298 : Cond.methodLink RX4 63 yX4_timeAt ∈ gT := gT_in (List.mem_of_getElem? (i := 298) (by decide +kernel)) (by decide +kernel)
theorem q_299 : Cond.static yX4_timeAt ∈ gT := gT_in (List.mem_of_getElem? (i := 299) (by decide +kernel)) (by decide +kernel)
theorem q_300 : Cond.code yX4_timeAt cX4_timeAt 2 (some .int) ∈ gT := gT_in (List.mem_of_getElem? (i := 300) (by decide +kernel)) (by decide +kernel)
theorem q_301 : Cond.constant RX4 66 (520207) ∈ gT := gT_in (List.mem_of_getElem? (i := 301) (by decide +kernel)) (by decide +kernel)
theorem q_302 : Cond.methodLink RX4 36 yX4_addUp ∈ gT := gT_in (List.mem_of_getElem? (i := 302) (by decide +kernel)) (by decide +kernel)
theorem q_303 : Cond.instanceMethod yX4_addUp ∈ gT := gT_in (List.mem_of_getElem? (i := 303) (by decide +kernel)) (by decide +kernel)
theorem q_304 : Cond.selects RX4 yX4_addUp yX4_addUp ∈ gT := gT_in (List.mem_of_getElem? (i := 304) (by decide +kernel)) (by decide +kernel)
theorem q_305 : Cond.code yX4_addUp cX4_addUp 10 none ∈ gT := gT_in (List.mem_of_getElem? (i := 305) (by decide +kernel)) (by decide +kernel)
theorem q_306 : Cond.methodLink RX4 67 yX3_next ∈ gT := gT_in (List.mem_of_getElem? (i := 306) (by decide +kernel)) (by decide +kernel)
theorem q_307 : Cond.static yX3_next ∈ gT := gT_in (List.mem_of_getElem? (i := 307) (by decide +kernel)) (by decide +kernel)
theorem q_308 : Cond.code yX3_next cX3_next 3 (some .int) ∈ gT := gT_in (List.mem_of_getElem? (i := 308) (by decide +kernel)) (by decide +kernel)
theorem q_309 : Cond.methodLink RX3 28 yX3_of ∈ gT := gT_in (List.mem_of_getElem? (i := 309) (by decide +kernel)) (by decide +kernel)
theorem q_310 : Cond.static yX3_of ∈ gT := gT_in (List.mem_of_getElem? (i := 310) (by decide +kernel)) (by decide +kernel)
theorem q_311 : Cond.code yX3_of cX3_of 4 (some .int) ∈ gT := gT_in (List.mem_of_getElem? (i := 311) (by decide +kernel)) (by decide +kernel)
theorem q_312 : Cond.methodLink RX4 70 yJ9_min_7cf53 ∈ gT := gT_in (List.mem_of_getElem? (i := 312) (by decide +kernel)) (by decide +kernel)
theorem q_313 : Cond.methodLink RX4 40 yX4_choose ∈ gT := gT_in (List.mem_of_getElem? (i := 313) (by decide +kernel)) (by decide +kernel)
theorem q_314 : Cond.instanceMethod yX4_choose ∈ gT := gT_in (List.mem_of_getElem? (i := 314) (by decide +kernel)) (by decide +kernel)
theorem q_315 : Cond.selects RX4 yX4_choose yX4_choose ∈ gT := gT_in (List.mem_of_getElem? (i := 315) (by decide +kernel)) (by decide +kernel)
theorem q_316 : Cond.code yX4_choose cX4_choose 4 none ∈ gT := gT_in (List.mem_of_getElem? (i := 316) (by decide +kernel)) (by decide +kernel)
theorem q_317 : Cond.methodLink RX4 46 yX3_later ∈ gT := gT_in (List.mem_of_getElem? (i := 317) (by decide +kernel)) (by decide +kernel)
theorem q_318 : Cond.static yX3_later ∈ gT := gT_in (List.mem_of_getElem? (i := 318) (by decide +kernel)) (by decide +kernel)
theorem q_319 : Cond.code yX3_later cX3_later 4 (some .int) ∈ gT := gT_in (List.mem_of_getElem? (i := 319) (by decide +kernel)) (by decide +kernel)
theorem q_320 : Cond.methodLink RX3 32 yX3_next ∈ gT := gT_in (List.mem_of_getElem? (i := 320) (by decide +kernel)) (by decide +kernel)
theorem q_321 : Cond.methodLink RX5 91 yX3_minuteOf ∈ gT := gT_in (List.mem_of_getElem? (i := 321) (by decide +kernel)) (by decide +kernel)
theorem q_322 : Cond.methodLink R_law 40 yX5_goes ∈ gT := gT_in (List.mem_of_getElem? (i := 322) (by decide +kernel)) (by decide +kernel)
theorem q_323 : Cond.instanceMethod yX5_goes ∈ gT := gT_in (List.mem_of_getElem? (i := 323) (by decide +kernel)) (by decide +kernel)
theorem q_324 : Cond.selects RX5 yX5_goes yX5_goes ∈ gT := gT_in (List.mem_of_getElem? (i := 324) (by decide +kernel)) (by decide +kernel)
theorem q_325 : Cond.code yX5_goes cX5_goes 2 (some .int) ∈ gT := gT_in (List.mem_of_getElem? (i := 325) (by decide +kernel)) (by decide +kernel)
theorem q_326 : Cond.methodLink RX5 96 yX3_later ∈ gT := gT_in (List.mem_of_getElem? (i := 326) (by decide +kernel)) (by decide +kernel)
theorem q_327 : Cond.methodLink RX5 100 yJ9_min_7cf53 ∈ gT := gT_in (List.mem_of_getElem? (i := 327) (by decide +kernel)) (by decide +kernel)
theorem q_328 : Cond.methodLink R_law 44 yX5_undo ∈ gT := gT_in (List.mem_of_getElem? (i := 328) (by decide +kernel)) (by decide +kernel)
theorem q_329 : Cond.instanceMethod yX5_undo ∈ gT := gT_in (List.mem_of_getElem? (i := 329) (by decide +kernel)) (by decide +kernel)
theorem q_330 : Cond.selects RX5 yX5_undo yX5_undo ∈ gT := gT_in (List.mem_of_getElem? (i := 330) (by decide +kernel)) (by decide +kernel)
theorem q_331 : Cond.code yX5_undo cX5_undo 1 (some .int) ∈ gT := gT_in (List.mem_of_getElem? (i := 331) (by decide +kernel)) (by decide +kernel)
theorem q_332 : Cond.methodLink RX5 106 yX2_recall ∈ gT := gT_in (List.mem_of_getElem? (i := 332) (by decide +kernel)) (by decide +kernel)
theorem q_333 : Cond.instanceMethod yX2_recall ∈ gT := gT_in (List.mem_of_getElem? (i := 333) (by decide +kernel)) (by decide +kernel)
theorem q_334 : Cond.selects RX2 yX2_recall yX2_recall ∈ gT := gT_in (List.mem_of_getElem? (i := 334) (by decide +kernel)) (by decide +kernel)
theorem q_335 : Cond.code yX2_recall cX2_recall 2 none ∈ gT := gT_in (List.mem_of_getElem? (i := 335) (by decide +kernel)) (by decide +kernel)
theorem q_336 : Cond.methodLink R_law 48 yX5_symbol ∈ gT := gT_in (List.mem_of_getElem? (i := 336) (by decide +kernel)) (by decide +kernel)
theorem q_337 : Cond.instanceMethod yX5_symbol ∈ gT := gT_in (List.mem_of_getElem? (i := 337) (by decide +kernel)) (by decide +kernel)
theorem q_338 : Cond.selects RX5 yX5_symbol yX5_symbol ∈ gT := gT_in (List.mem_of_getElem? (i := 338) (by decide +kernel)) (by decide +kernel)
theorem q_339 : Cond.code yX5_symbol cX5_symbol 2 (some .int) ∈ gT := gT_in (List.mem_of_getElem? (i := 339) (by decide +kernel)) (by decide +kernel)
theorem q_340 : Cond.methodLink R_law 52 yX5_read ∈ gT := gT_in (List.mem_of_getElem? (i := 340) (by decide +kernel)) (by decide +kernel)
theorem q_341 : Cond.instanceMethod yX5_read ∈ gT := gT_in (List.mem_of_getElem? (i := 341) (by decide +kernel)) (by decide +kernel)
theorem q_342 : Cond.selects RX5 yX5_read yX5_read ∈ gT := gT_in (List.mem_of_getElem? (i := 342) (by decide +kernel)) (by decide +kernel)
theorem q_343 : Cond.code yX5_read cX5_read 4 (some .int) ∈ gT := gT_in (List.mem_of_getElem? (i := 343) (by decide +kernel)) (by decide +kernel)
theorem q_344 : Cond.methodLink RX5 120 yX0_firstOf ∈ gT := gT_in (List.mem_of_getElem? (i := 344) (by decide +kernel)) (by decide +kernel)
theorem q_345 : Cond.methodLink RX5 123 yX0_parity ∈ gT := gT_in (List.mem_of_getElem? (i := 345) (by decide +kernel)) (by decide +kernel)
theorem q_346 : Cond.instanceMethod yX0_parity ∈ gT := gT_in (List.mem_of_getElem? (i := 346) (by decide +kernel)) (by decide +kernel)
theorem q_347 : Cond.selects RX0 yX0_parity yX0_parity ∈ gT := gT_in (List.mem_of_getElem? (i := 347) (by decide +kernel)) (by decide +kernel)
theorem q_348 : Cond.code yX0_parity cX0_parity 3 (some .int) ∈ gT := gT_in (List.mem_of_getElem? (i := 348) (by decide +kernel)) (by decide +kernel)
theorem q_349 : Cond.methodLink RX0 49 yX0_allClear ∈ gT := gT_in (List.mem_of_getElem? (i := 349) (by decide +kernel)) (by decide +kernel)
theorem q_350 : Cond.instanceMethod yX0_allClear ∈ gT := gT_in (List.mem_of_getElem? (i := 350) (by decide +kernel)) (by decide +kernel)
theorem q_351 : Cond.selects RX0 yX0_allClear yX0_allClear ∈ gT := gT_in (List.mem_of_getElem? (i := 351) (by decide +kernel)) (by decide +kernel)
theorem q_352 : Cond.code yX0_allClear cX0_allClear 3 (some .boolean) ∈ gT := gT_in (List.mem_of_getElem? (i := 352) (by decide +kernel)) (by decide +kernel)
theorem q_353 : Cond.constant RX5 126 (520192) ∈ gT := gT_in (List.mem_of_getElem? (i := 353) (by decide +kernel)) (by decide +kernel)
theorem q_354 : Cond.methodLink RX5 127 yX0_minuteOfHour ∈ gT := gT_in (List.mem_of_getElem? (i := 354) (by decide +kernel)) (by decide +kernel)
theorem q_355 : Cond.instanceMethod yX0_minuteOfHour ∈ gT := gT_in (List.mem_of_getElem? (i := 355) (by decide +kernel)) (by decide +kernel)
theorem q_356 : Cond.selects RX0 yX0_minuteOfHour yX0_minuteOfHour ∈ gT := gT_in (List.mem_of_getElem? (i := 356) (by decide +kernel)) (by decide +kernel)
theorem q_357 : Cond.code yX0_minuteOfHour cX0_minuteOfHour 2 (some .int) ∈ gT := gT_in (List.mem_of_getElem? (i := 357) (by decide +kernel)) (by decide +kernel)
theorem q_358 : Cond.methodLink RX0 58 yX0_byFigures ∈ gT := gT_in (List.mem_of_getElem? (i := 358) (by decide +kernel)) (by decide +kernel)
theorem q_359 : Cond.static yX0_byFigures ∈ gT := gT_in (List.mem_of_getElem? (i := 359) (by decide +kernel)) (by decide +kernel)
theorem q_360 : Cond.code yX0_byFigures cX0_byFigures 4 (some .int) ∈ gT := gT_in (List.mem_of_getElem? (i := 360) (by decide +kernel)) (by decide +kernel)
theorem q_361 : Cond.methodLink RX5 130 yX0_hour ∈ gT := gT_in (List.mem_of_getElem? (i := 361) (by decide +kernel)) (by decide +kernel)
theorem q_362 : Cond.instanceMethod yX0_hour ∈ gT := gT_in (List.mem_of_getElem? (i := 362) (by decide +kernel)) (by decide +kernel)
theorem q_363 : Cond.selects RX0 yX0_hour yX0_hour ∈ gT := gT_in (List.mem_of_getElem? (i := 363) (by decide +kernel)) (by decide +kernel)
theorem q_364 : Cond.code yX0_hour cX0_hour 2 (some .int) ∈ gT := gT_in (List.mem_of_getElem? (i := 364) (by decide +kernel)) (by decide +kernel)
theorem q_365 : Cond.constant RX0 62 (258048) ∈ gT := gT_in (List.mem_of_getElem? (i := 365) (by decide +kernel)) (by decide +kernel)
theorem q_366 : Cond.methodLink RX5 136 yX0_wrong ∈ gT := gT_in (List.mem_of_getElem? (i := 366) (by decide +kernel)) (by decide +kernel)
theorem q_367 : Cond.instanceMethod yX0_wrong ∈ gT := gT_in (List.mem_of_getElem? (i := 367) (by decide +kernel)) (by decide +kernel)
theorem q_368 : Cond.selects RX0 yX0_wrong yX0_wrong ∈ gT := gT_in (List.mem_of_getElem? (i := 368) (by decide +kernel)) (by decide +kernel)
theorem q_369 : Cond.code yX0_wrong cX0_wrong 3 (some .int) ∈ gT := gT_in (List.mem_of_getElem? (i := 369) (by decide +kernel)) (by decide +kernel)
theorem q_370 : Cond.methodLink RX0 63 yX3_bitsOf ∈ gT := gT_in (List.mem_of_getElem? (i := 370) (by decide +kernel)) (by decide +kernel)
theorem q_371 : Cond.methodLink RX5 139 yX5_symbol ∈ gT := gT_in (List.mem_of_getElem? (i := 371) (by decide +kernel)) (by decide +kernel)
theorem q_372 : Cond.methodLink R_law 56 yX5_vote ∈ gT := gT_in (List.mem_of_getElem? (i := 372) (by decide +kernel)) (by decide +kernel)
theorem q_373 : Cond.instanceMethod yX5_vote ∈ gT := gT_in (List.mem_of_getElem? (i := 373) (by decide +kernel)) (by decide +kernel)
theorem q_374 : Cond.selects RX5 yX5_vote yX5_vote ∈ gT := gT_in (List.mem_of_getElem? (i := 374) (by decide +kernel)) (by decide +kernel)
theorem q_375 : Cond.code yX5_vote cX5_vote 3 (some .int) ∈ gT := gT_in (List.mem_of_getElem? (i := 375) (by decide +kernel)) (by decide +kernel)
theorem q_376 : Cond.methodLink RX5 148 yX3_partOf ∈ gT := gT_in (List.mem_of_getElem? (i := 376) (by decide +kernel)) (by decide +kernel)
theorem q_377 : Cond.static yX3_partOf ∈ gT := gT_in (List.mem_of_getElem? (i := 377) (by decide +kernel)) (by decide +kernel)
theorem q_378 : Cond.code yX3_partOf cX3_partOf 2 (some .int) ∈ gT := gT_in (List.mem_of_getElem? (i := 378) (by decide +kernel)) (by decide +kernel)
theorem q_379 : Cond.methodLink R_law 60 yX5_misses ∈ gT := gT_in (List.mem_of_getElem? (i := 379) (by decide +kernel)) (by decide +kernel)
theorem q_380 : Cond.instanceMethod yX5_misses ∈ gT := gT_in (List.mem_of_getElem? (i := 380) (by decide +kernel)) (by decide +kernel)
theorem q_381 : Cond.selects RX5 yX5_misses yX5_misses ∈ gT := gT_in (List.mem_of_getElem? (i := 381) (by decide +kernel)) (by decide +kernel)
theorem q_382 : Cond.code yX5_misses cX5_misses 5 (some .int) ∈ gT := gT_in (List.mem_of_getElem? (i := 382) (by decide +kernel)) (by decide +kernel)
theorem q_383 : Cond.methodLink RX5 151 yX3_isTime ∈ gT := gT_in (List.mem_of_getElem? (i := 383) (by decide +kernel)) (by decide +kernel)
theorem q_384 : Cond.static yX3_isTime ∈ gT := gT_in (List.mem_of_getElem? (i := 384) (by decide +kernel)) (by decide +kernel)
theorem q_385 : Cond.code yX3_isTime cX3_isTime 4 (some .boolean) ∈ gT := gT_in (List.mem_of_getElem? (i := 385) (by decide +kernel)) (by decide +kernel)
theorem q_386 : Cond.methodLink RX3 9 yX3_isSign ∈ gT := gT_in (List.mem_of_getElem? (i := 386) (by decide +kernel)) (by decide +kernel)
theorem q_387 : Cond.static yX3_isSign ∈ gT := gT_in (List.mem_of_getElem? (i := 387) (by decide +kernel)) (by decide +kernel)
theorem q_388 : Cond.code yX3_isSign cX3_isSign 1 (some .boolean) ∈ gT := gT_in (List.mem_of_getElem? (i := 388) (by decide +kernel)) (by decide +kernel)
theorem q_389 : Cond.methodLink RX5 155 yX3_of ∈ gT := gT_in (List.mem_of_getElem? (i := 389) (by decide +kernel)) (by decide +kernel)
theorem q_390 : Cond.methodLink RX5 159 yX0_missesFrom ∈ gT := gT_in (List.mem_of_getElem? (i := 390) (by decide +kernel)) (by decide +kernel)
theorem q_391 : Cond.instanceMethod yX0_missesFrom ∈ gT := gT_in (List.mem_of_getElem? (i := 391) (by decide +kernel)) (by decide +kernel)
theorem q_392 : Cond.selects RX0 yX0_missesFrom yX0_missesFrom ∈ gT := gT_in (List.mem_of_getElem? (i := 392) (by decide +kernel)) (by decide +kernel)
theorem q_393 : Cond.code yX0_missesFrom cX0_missesFrom 5 (some .int) ∈ gT := gT_in (List.mem_of_getElem? (i := 393) (by decide +kernel)) (by decide +kernel)
theorem q_394 : Cond.constant RX0 68 (524287) ∈ gT := gT_in (List.mem_of_getElem? (i := 394) (by decide +kernel)) (by decide +kernel)
theorem q_395 : Cond.methodLink RX0 69 yX0_missesOf ∈ gT := gT_in (List.mem_of_getElem? (i := 395) (by decide +kernel)) (by decide +kernel)
theorem q_396 : Cond.methodLink RX0 72 yX3_next ∈ gT := gT_in (List.mem_of_getElem? (i := 396) (by decide +kernel)) (by decide +kernel)
theorem q_397 : Cond.methodLink R_law 65 yX5_close ∈ gT := gT_in (List.mem_of_getElem? (i := 397) (by decide +kernel)) (by decide +kernel)
theorem q_398 : Cond.instanceMethod yX5_close ∈ gT := gT_in (List.mem_of_getElem? (i := 398) (by decide +kernel)) (by decide +kernel)
theorem q_399 : Cond.selects RX5 yX5_close yX5_close ∈ gT := gT_in (List.mem_of_getElem? (i := 399) (by decide +kernel)) (by decide +kernel)
theorem q_400 : Cond.code yX5_close cX5_close 4 (some .int) ∈ gT := gT_in (List.mem_of_getElem? (i := 400) (by decide +kernel)) (by decide +kernel)
theorem q_401 : Cond.methodLink RX5 162 yX4_closeCount ∈ gT := gT_in (List.mem_of_getElem? (i := 401) (by decide +kernel)) (by decide +kernel)
theorem q_402 : Cond.instanceMethod yX4_closeCount ∈ gT := gT_in (List.mem_of_getElem? (i := 402) (by decide +kernel)) (by decide +kernel)
theorem q_403 : Cond.selects RX4 yX4_closeCount yX4_closeCount ∈ gT := gT_in (List.mem_of_getElem? (i := 403) (by decide +kernel)) (by decide +kernel)
theorem q_404 : Cond.code yX4_closeCount cX4_closeCount 4 (some .int) ∈ gT := gT_in (List.mem_of_getElem? (i := 404) (by decide +kernel)) (by decide +kernel)
theorem q_405 : Cond.methodLink RX5 165 yX4_closeTime ∈ gT := gT_in (List.mem_of_getElem? (i := 405) (by decide +kernel)) (by decide +kernel)
theorem q_406 : Cond.instanceMethod yX4_closeTime ∈ gT := gT_in (List.mem_of_getElem? (i := 406) (by decide +kernel)) (by decide +kernel)
theorem q_407 : Cond.selects RX4 yX4_closeTime yX4_closeTime ∈ gT := gT_in (List.mem_of_getElem? (i := 407) (by decide +kernel)) (by decide +kernel)
theorem q_408 : Cond.code yX4_closeTime cX4_closeTime 5 (some .int) ∈ gT := gT_in (List.mem_of_getElem? (i := 408) (by decide +kernel)) (by decide +kernel)
theorem q_409 : Cond.methodLink R_law 69 yX5_bits ∈ gT := gT_in (List.mem_of_getElem? (i := 409) (by decide +kernel)) (by decide +kernel)
theorem q_410 : Cond.instanceMethod yX5_bits ∈ gT := gT_in (List.mem_of_getElem? (i := 410) (by decide +kernel)) (by decide +kernel)
theorem q_411 : Cond.selects RX5 yX5_bits yX5_bits ∈ gT := gT_in (List.mem_of_getElem? (i := 411) (by decide +kernel)) (by decide +kernel)
theorem q_412 : Cond.code yX5_bits cX5_bits 5 (some .int) ∈ gT := gT_in (List.mem_of_getElem? (i := 412) (by decide +kernel)) (by decide +kernel)
theorem q_413 : Cond.methodLink RX5 168 yX3_bitsOf ∈ gT := gT_in (List.mem_of_getElem? (i := 413) (by decide +kernel)) (by decide +kernel)
theorem q_414 : Cond.methodLink R_law 73 yX5_clock ∈ gT := gT_in (List.mem_of_getElem? (i := 414) (by decide +kernel)) (by decide +kernel)
theorem q_415 : Cond.instanceMethod yX5_clock ∈ gT := gT_in (List.mem_of_getElem? (i := 415) (by decide +kernel)) (by decide +kernel)
theorem q_416 : Cond.selects RX5 yX5_clock yX5_clock ∈ gT := gT_in (List.mem_of_getElem? (i := 416) (by decide +kernel)) (by decide +kernel)
theorem q_417 : Cond.code yX5_clock cX5_clock 2 (some .int) ∈ gT := gT_in (List.mem_of_getElem? (i := 417) (by decide +kernel)) (by decide +kernel)
theorem q_418 : Cond.constant RX5 171 (-1000000) ∈ gT := gT_in (List.mem_of_getElem? (i := 418) (by decide +kernel)) (by decide +kernel)
theorem q_419 : Cond.methodLink RX5 172 yX5_drifted ∈ gT := gT_in (List.mem_of_getElem? (i := 419) (by decide +kernel)) (by decide +kernel)
theorem q_421 : Cond.instanceMethod yX5_drifted ∈ gT := gT_in (List.mem_of_getElem? (i := 421) (by decide +kernel)) (by decide +kernel)
theorem q_422 : Cond.code yX5_drifted cX5_drifted 1 (some .int) ∈ gT := gT_in (List.mem_of_getElem? (i := 422) (by decide +kernel)) (by decide +kernel)
theorem q_423 : Cond.methodLink RX5 176 yX5_apart ∈ gT := gT_in (List.mem_of_getElem? (i := 423) (by decide +kernel)) (by decide +kernel)
theorem q_425 : Cond.instanceMethod yX5_apart ∈ gT := gT_in (List.mem_of_getElem? (i := 425) (by decide +kernel)) (by decide +kernel)
theorem q_426 : Cond.code yX5_apart cX5_apart 3 (some .int) ∈ gT := gT_in (List.mem_of_getElem? (i := 426) (by decide +kernel)) (by decide +kernel)
theorem q_427 : Cond.methodLink RX5 202 yJ9_floorMod_7cf53 ∈ gT := gT_in (List.mem_of_getElem? (i := 427) (by decide +kernel)) (by decide +kernel)
theorem q_428 : Cond.static yJ9_floorMod_7cf53 ∈ gT := gT_in (List.mem_of_getElem? (i := 428) (by decide +kernel)) (by decide +kernel)
theorem q_429 : Cond.code yJ9_floorMod_7cf53 cJ9_floorMod_7cf53 3 (some .int) ∈ gT := gT_in (List.mem_of_getElem? (i := 429) (by decide +kernel)) (by decide +kernel)
theorem q_430 : Cond.methodLink R_law 77 yX5_keep ∈ gT := gT_in (List.mem_of_getElem? (i := 430) (by decide +kernel)) (by decide +kernel)
theorem q_431 : Cond.instanceMethod yX5_keep ∈ gT := gT_in (List.mem_of_getElem? (i := 431) (by decide +kernel)) (by decide +kernel)
theorem q_432 : Cond.selects RX5 yX5_keep yX5_keep ∈ gT := gT_in (List.mem_of_getElem? (i := 432) (by decide +kernel)) (by decide +kernel)
theorem q_433 : Cond.code yX5_keep cX5_keep 2 (some .int) ∈ gT := gT_in (List.mem_of_getElem? (i := 433) (by decide +kernel)) (by decide +kernel)
theorem q_434 : Cond.methodLink RX5 179 yX1_copyFrom ∈ gT := gT_in (List.mem_of_getElem? (i := 434) (by decide +kernel)) (by decide +kernel)
theorem q_435 : Cond.methodLink R_law 81 yX5_back ∈ gT := gT_in (List.mem_of_getElem? (i := 435) (by decide +kernel)) (by decide +kernel)
theorem q_436 : Cond.instanceMethod yX5_back ∈ gT := gT_in (List.mem_of_getElem? (i := 436) (by decide +kernel)) (by decide +kernel)
theorem q_437 : Cond.selects RX5 yX5_back yX5_back ∈ gT := gT_in (List.mem_of_getElem? (i := 437) (by decide +kernel)) (by decide +kernel)
theorem q_438 : Cond.code yX5_back cX5_back 2 (some .int) ∈ gT := gT_in (List.mem_of_getElem? (i := 438) (by decide +kernel)) (by decide +kernel)
theorem q_439 : Cond.methodLink RX5 182 yX2_forget ∈ gT := gT_in (List.mem_of_getElem? (i := 439) (by decide +kernel)) (by decide +kernel)
theorem q_440 : Cond.instanceMethod yX2_forget ∈ gT := gT_in (List.mem_of_getElem? (i := 440) (by decide +kernel)) (by decide +kernel)
theorem q_441 : Cond.selects RX2 yX2_forget yX2_forget ∈ gT := gT_in (List.mem_of_getElem? (i := 441) (by decide +kernel)) (by decide +kernel)
theorem q_442 : Cond.code yX2_forget cX2_forget 1 none ∈ gT := gT_in (List.mem_of_getElem? (i := 442) (by decide +kernel)) (by decide +kernel)
theorem q_443 : Cond.methodLink R_law 85 yX5_count ∈ gT := gT_in (List.mem_of_getElem? (i := 443) (by decide +kernel)) (by decide +kernel)
theorem q_444 : Cond.instanceMethod yX5_count ∈ gT := gT_in (List.mem_of_getElem? (i := 444) (by decide +kernel)) (by decide +kernel)
theorem q_445 : Cond.selects RX5 yX5_count yX5_count ∈ gT := gT_in (List.mem_of_getElem? (i := 445) (by decide +kernel)) (by decide +kernel)
theorem q_446 : Cond.code yX5_count cX5_count 2 (some .int) ∈ gT := gT_in (List.mem_of_getElem? (i := 446) (by decide +kernel)) (by decide +kernel)
theorem q_449 : Cond.methodLink R_law 12 yX6_init ∈ gT := gT_in (List.mem_of_getElem? (i := 449) (by decide +kernel)) (by decide +kernel)
theorem q_450 : Cond.instanceMethod yX6_init ∈ gT := gT_in (List.mem_of_getElem? (i := 450) (by decide +kernel)) (by decide +kernel)
theorem q_451 : Cond.code yX6_init cX6_init 1 none ∈ gT := gT_in (List.mem_of_getElem? (i := 451) (by decide +kernel)) (by decide +kernel)
theorem q_453 : Cond.fieldLink RX6 7 "MinuteSignalModel" "now" "[I" ∈ gT := gT_in (List.mem_of_getElem? (i := 453) (by decide +kernel)) (by decide +kernel)
theorem q_454 : Cond.fieldLink RX6 55 "MinuteSignalModel" "undoMany" "I" ∈ gT := gT_in (List.mem_of_getElem? (i := 454) (by decide +kernel)) (by decide +kernel)
theorem q_455 : Cond.fieldLink RX6 51 "MinuteSignalModel" "undoAt" "I" ∈ gT := gT_in (List.mem_of_getElem? (i := 455) (by decide +kernel)) (by decide +kernel)
theorem q_456 : Cond.fieldLink RX6 13 "MinuteSignalModel" "undos" "[I" ∈ gT := gT_in (List.mem_of_getElem? (i := 456) (by decide +kernel)) (by decide +kernel)
theorem q_457 : Cond.fieldLink RX6 16 "MinuteSignalModel" "isKept" "[Z" ∈ gT := gT_in (List.mem_of_getElem? (i := 457) (by decide +kernel)) (by decide +kernel)
theorem q_458 : Cond.fieldLink RX6 20 "MinuteSignalModel" "kept" "[I" ∈ gT := gT_in (List.mem_of_getElem? (i := 458) (by decide +kernel)) (by decide +kernel)
theorem q_459 : Cond.fieldLink RX6 58 "MinuteSignalModel" "isTold" "Z" ∈ gT := gT_in (List.mem_of_getElem? (i := 459) (by decide +kernel)) (by decide +kernel)
theorem q_460 : Cond.fieldLink RX6 76 "MinuteSignalModel" "phase" "I" ∈ gT := gT_in (List.mem_of_getElem? (i := 460) (by decide +kernel)) (by decide +kernel)
theorem q_461 : Cond.fieldLink RX6 79 "MinuteSignalModel" "frameMany" "I" ∈ gT := gT_in (List.mem_of_getElem? (i := 461) (by decide +kernel)) (by decide +kernel)
theorem q_462 : Cond.fieldLink RX6 23 "MinuteSignalModel" "known" "[I" ∈ gT := gT_in (List.mem_of_getElem? (i := 462) (by decide +kernel)) (by decide +kernel)
theorem q_463 : Cond.fieldLink RX6 26 "MinuteSignalModel" "ones" "[I" ∈ gT := gT_in (List.mem_of_getElem? (i := 463) (by decide +kernel)) (by decide +kernel)
theorem q_464 : Cond.fieldLink RX6 29 "MinuteSignalModel" "missed" "[I" ∈ gT := gT_in (List.mem_of_getElem? (i := 464) (by decide +kernel)) (by decide +kernel)
theorem q_465 : Cond.fieldLink RX6 97 "MinuteSignalModel" "best" "I" ∈ gT := gT_in (List.mem_of_getElem? (i := 465) (by decide +kernel)) (by decide +kernel)
theorem q_466 : Cond.fieldLink RX6 103 "MinuteSignalModel" "margin" "I" ∈ gT := gT_in (List.mem_of_getElem? (i := 466) (by decide +kernel)) (by decide +kernel)
theorem q_496 : Cond.methodLink R_law 17 yX6_hears ∈ gT := gT_in (List.mem_of_getElem? (i := 496) (by decide +kernel)) (by decide +kernel)
theorem q_497 : Cond.instanceMethod yX6_hears ∈ gT := gT_in (List.mem_of_getElem? (i := 497) (by decide +kernel)) (by decide +kernel)
theorem q_498 : Cond.selects RX6 yX6_hears yX6_hears ∈ gT := gT_in (List.mem_of_getElem? (i := 498) (by decide +kernel)) (by decide +kernel)
theorem q_499 : Cond.code yX6_hears cX6_hears 2 (some .int) ∈ gT := gT_in (List.mem_of_getElem? (i := 499) (by decide +kernel)) (by decide +kernel)
theorem q_500 : Cond.methodLink RX6 47 yX6_in ∈ gT := gT_in (List.mem_of_getElem? (i := 500) (by decide +kernel)) (by decide +kernel)
theorem q_501 : Cond.static yX6_in ∈ gT := gT_in (List.mem_of_getElem? (i := 501) (by decide +kernel)) (by decide +kernel)
theorem q_502 : Cond.code yX6_in cX6_in 3 (some .boolean) ∈ gT := gT_in (List.mem_of_getElem? (i := 502) (by decide +kernel)) (by decide +kernel)
theorem q_503 : Cond.methodLink RX6 62 yX6_remember ∈ gT := gT_in (List.mem_of_getElem? (i := 503) (by decide +kernel)) (by decide +kernel)
theorem q_505 : Cond.instanceMethod yX6_remember ∈ gT := gT_in (List.mem_of_getElem? (i := 505) (by decide +kernel)) (by decide +kernel)
theorem q_506 : Cond.code yX6_remember cX6_remember 2 none ∈ gT := gT_in (List.mem_of_getElem? (i := 506) (by decide +kernel)) (by decide +kernel)
theorem q_507 : Cond.methodLink RX6 65 yX6_comes ∈ gT := gT_in (List.mem_of_getElem? (i := 507) (by decide +kernel)) (by decide +kernel)
theorem q_509 : Cond.instanceMethod yX6_comes ∈ gT := gT_in (List.mem_of_getElem? (i := 509) (by decide +kernel)) (by decide +kernel)
theorem q_510 : Cond.code yX6_comes cX6_comes 2 none ∈ gT := gT_in (List.mem_of_getElem? (i := 510) (by decide +kernel)) (by decide +kernel)
theorem q_511 : Cond.methodLink R_law 22 yX6_frames ∈ gT := gT_in (List.mem_of_getElem? (i := 511) (by decide +kernel)) (by decide +kernel)
theorem q_512 : Cond.instanceMethod yX6_frames ∈ gT := gT_in (List.mem_of_getElem? (i := 512) (by decide +kernel)) (by decide +kernel)
theorem q_513 : Cond.selects RX6 yX6_frames yX6_frames ∈ gT := gT_in (List.mem_of_getElem? (i := 513) (by decide +kernel)) (by decide +kernel)
theorem q_514 : Cond.code yX6_frames cX6_frames 4 (some .int) ∈ gT := gT_in (List.mem_of_getElem? (i := 514) (by decide +kernel)) (by decide +kernel)
theorem q_515 : Cond.constant RX6 69 (524287) ∈ gT := gT_in (List.mem_of_getElem? (i := 515) (by decide +kernel)) (by decide +kernel)
theorem q_516 : Cond.methodLink RX6 32 yX6_has ∈ gT := gT_in (List.mem_of_getElem? (i := 516) (by decide +kernel)) (by decide +kernel)
theorem q_517 : Cond.static yX6_has ∈ gT := gT_in (List.mem_of_getElem? (i := 517) (by decide +kernel)) (by decide +kernel)
theorem q_518 : Cond.code yX6_has cX6_has 2 (some .boolean) ∈ gT := gT_in (List.mem_of_getElem? (i := 518) (by decide +kernel)) (by decide +kernel)
theorem q_519 : Cond.methodLink R_law 26 yX6_loses ∈ gT := gT_in (List.mem_of_getElem? (i := 519) (by decide +kernel)) (by decide +kernel)
theorem q_520 : Cond.instanceMethod yX6_loses ∈ gT := gT_in (List.mem_of_getElem? (i := 520) (by decide +kernel)) (by decide +kernel)
theorem q_521 : Cond.selects RX6 yX6_loses yX6_loses ∈ gT := gT_in (List.mem_of_getElem? (i := 521) (by decide +kernel)) (by decide +kernel)
theorem q_522 : Cond.code yX6_loses cX6_loses 3 (some .int) ∈ gT := gT_in (List.mem_of_getElem? (i := 522) (by decide +kernel)) (by decide +kernel)
theorem q_523 : Cond.methodLink R_law 30 yX6_needs ∈ gT := gT_in (List.mem_of_getElem? (i := 523) (by decide +kernel)) (by decide +kernel)
theorem q_524 : Cond.instanceMethod yX6_needs ∈ gT := gT_in (List.mem_of_getElem? (i := 524) (by decide +kernel)) (by decide +kernel)
theorem q_525 : Cond.selects RX6 yX6_needs yX6_needs ∈ gT := gT_in (List.mem_of_getElem? (i := 525) (by decide +kernel)) (by decide +kernel)
theorem q_526 : Cond.code yX6_needs cX6_needs 2 (some .int) ∈ gT := gT_in (List.mem_of_getElem? (i := 526) (by decide +kernel)) (by decide +kernel)
theorem q_527 : Cond.methodLink RX6 70 yX6_becomes ∈ gT := gT_in (List.mem_of_getElem? (i := 527) (by decide +kernel)) (by decide +kernel)
theorem q_529 : Cond.instanceMethod yX6_becomes ∈ gT := gT_in (List.mem_of_getElem? (i := 529) (by decide +kernel)) (by decide +kernel)
theorem q_530 : Cond.code yX6_becomes cX6_becomes 4 (some .int) ∈ gT := gT_in (List.mem_of_getElem? (i := 530) (by decide +kernel)) (by decide +kernel)
theorem q_531 : Cond.methodLink R_law 34 yX6_drifts ∈ gT := gT_in (List.mem_of_getElem? (i := 531) (by decide +kernel)) (by decide +kernel)
theorem q_532 : Cond.instanceMethod yX6_drifts ∈ gT := gT_in (List.mem_of_getElem? (i := 532) (by decide +kernel)) (by decide +kernel)
theorem q_533 : Cond.selects RX6 yX6_drifts yX6_drifts ∈ gT := gT_in (List.mem_of_getElem? (i := 533) (by decide +kernel)) (by decide +kernel)
theorem q_534 : Cond.code yX6_drifts cX6_drifts 2 (some .int) ∈ gT := gT_in (List.mem_of_getElem? (i := 534) (by decide +kernel)) (by decide +kernel)
theorem q_535 : Cond.methodLink R_law 39 yX6_sets ∈ gT := gT_in (List.mem_of_getElem? (i := 535) (by decide +kernel)) (by decide +kernel)
theorem q_536 : Cond.instanceMethod yX6_sets ∈ gT := gT_in (List.mem_of_getElem? (i := 536) (by decide +kernel)) (by decide +kernel)
theorem q_537 : Cond.selects RX6 yX6_sets yX6_sets ∈ gT := gT_in (List.mem_of_getElem? (i := 537) (by decide +kernel)) (by decide +kernel)
theorem q_538 : Cond.code yX6_sets cX6_sets 2 (some .int) ∈ gT := gT_in (List.mem_of_getElem? (i := 538) (by decide +kernel)) (by decide +kernel)
theorem q_539 : Cond.methodLink RX6 109 yX6_tells ∈ gT := gT_in (List.mem_of_getElem? (i := 539) (by decide +kernel)) (by decide +kernel)
theorem q_541 : Cond.instanceMethod yX6_tells ∈ gT := gT_in (List.mem_of_getElem? (i := 541) (by decide +kernel)) (by decide +kernel)
theorem q_542 : Cond.code yX6_tells cX6_tells 3 none ∈ gT := gT_in (List.mem_of_getElem? (i := 542) (by decide +kernel)) (by decide +kernel)
theorem q_543 : Cond.methodLink RX6 91 yX6_layPhase ∈ gT := gT_in (List.mem_of_getElem? (i := 543) (by decide +kernel)) (by decide +kernel)
theorem q_545 : Cond.instanceMethod yX6_layPhase ∈ gT := gT_in (List.mem_of_getElem? (i := 545) (by decide +kernel)) (by decide +kernel)
theorem q_546 : Cond.code yX6_layPhase cX6_layPhase 5 none ∈ gT := gT_in (List.mem_of_getElem? (i := 546) (by decide +kernel)) (by decide +kernel)
theorem q_547 : Cond.methodLink RX6 73 yX6_symbolAt ∈ gT := gT_in (List.mem_of_getElem? (i := 547) (by decide +kernel)) (by decide +kernel)
theorem q_549 : Cond.instanceMethod yX6_symbolAt ∈ gT := gT_in (List.mem_of_getElem? (i := 549) (by decide +kernel)) (by decide +kernel)
theorem q_550 : Cond.code yX6_symbolAt cX6_symbolAt 2 (some .int) ∈ gT := gT_in (List.mem_of_getElem? (i := 550) (by decide +kernel)) (by decide +kernel)
theorem q_551 : Cond.methodLink RX6 94 yX6_layFrames ∈ gT := gT_in (List.mem_of_getElem? (i := 551) (by decide +kernel)) (by decide +kernel)
theorem q_553 : Cond.instanceMethod yX6_layFrames ∈ gT := gT_in (List.mem_of_getElem? (i := 553) (by decide +kernel)) (by decide +kernel)
theorem q_554 : Cond.code yX6_layFrames cX6_layFrames 3 none ∈ gT := gT_in (List.mem_of_getElem? (i := 554) (by decide +kernel)) (by decide +kernel)
theorem q_555 : Cond.methodLink RX6 82 yX6_firstOf ∈ gT := gT_in (List.mem_of_getElem? (i := 555) (by decide +kernel)) (by decide +kernel)
theorem q_557 : Cond.instanceMethod yX6_firstOf ∈ gT := gT_in (List.mem_of_getElem? (i := 557) (by decide +kernel)) (by decide +kernel)
theorem q_558 : Cond.code yX6_firstOf cX6_firstOf 2 (some .int) ∈ gT := gT_in (List.mem_of_getElem? (i := 558) (by decide +kernel)) (by decide +kernel)
theorem q_559 : Cond.methodLink RX6 100 yX6_missesOf ∈ gT := gT_in (List.mem_of_getElem? (i := 559) (by decide +kernel)) (by decide +kernel)
theorem q_561 : Cond.instanceMethod yX6_missesOf ∈ gT := gT_in (List.mem_of_getElem? (i := 561) (by decide +kernel)) (by decide +kernel)
theorem q_562 : Cond.code yX6_missesOf cX6_missesOf 5 (some .int) ∈ gT := gT_in (List.mem_of_getElem? (i := 562) (by decide +kernel)) (by decide +kernel)
theorem q_563 : Cond.methodLink RX6 88 yX6_wrongOf ∈ gT := gT_in (List.mem_of_getElem? (i := 563) (by decide +kernel)) (by decide +kernel)
theorem q_565 : Cond.instanceMethod yX6_wrongOf ∈ gT := gT_in (List.mem_of_getElem? (i := 565) (by decide +kernel)) (by decide +kernel)
theorem q_566 : Cond.code yX6_wrongOf cX6_wrongOf 3 (some .int) ∈ gT := gT_in (List.mem_of_getElem? (i := 566) (by decide +kernel)) (by decide +kernel)
theorem q_567 : Cond.methodLink RX6 85 yX6_bitsOf ∈ gT := gT_in (List.mem_of_getElem? (i := 567) (by decide +kernel)) (by decide +kernel)
theorem q_568 : Cond.static yX6_bitsOf ∈ gT := gT_in (List.mem_of_getElem? (i := 568) (by decide +kernel)) (by decide +kernel)
theorem q_569 : Cond.code yX6_bitsOf cX6_bitsOf 5 (some .int) ∈ gT := gT_in (List.mem_of_getElem? (i := 569) (by decide +kernel)) (by decide +kernel)
theorem q_570 : Cond.methodLink RX6 36 yX6_figures ∈ gT := gT_in (List.mem_of_getElem? (i := 570) (by decide +kernel)) (by decide +kernel)
theorem q_571 : Cond.static yX6_figures ∈ gT := gT_in (List.mem_of_getElem? (i := 571) (by decide +kernel)) (by decide +kernel)
theorem q_572 : Cond.code yX6_figures cX6_figures 2 (some .int) ∈ gT := gT_in (List.mem_of_getElem? (i := 572) (by decide +kernel)) (by decide +kernel)
theorem q_573 : Cond.methodLink RX6 40 yX6_many ∈ gT := gT_in (List.mem_of_getElem? (i := 573) (by decide +kernel)) (by decide +kernel)
theorem q_574 : Cond.static yX6_many ∈ gT := gT_in (List.mem_of_getElem? (i := 574) (by decide +kernel)) (by decide +kernel)
theorem q_575 : Cond.code yX6_many cX6_many 3 (some .int) ∈ gT := gT_in (List.mem_of_getElem? (i := 575) (by decide +kernel)) (by decide +kernel)
theorem q_576 : Cond.methodLink RX6 44 yX6_nextOf ∈ gT := gT_in (List.mem_of_getElem? (i := 576) (by decide +kernel)) (by decide +kernel)
theorem q_577 : Cond.static yX6_nextOf ∈ gT := gT_in (List.mem_of_getElem? (i := 577) (by decide +kernel)) (by decide +kernel)
theorem q_578 : Cond.code yX6_nextOf cX6_nextOf 3 (some .int) ∈ gT := gT_in (List.mem_of_getElem? (i := 578) (by decide +kernel)) (by decide +kernel)
theorem q_579 : Cond.methodLink RX6 112 yX6_isShown ∈ gT := gT_in (List.mem_of_getElem? (i := 579) (by decide +kernel)) (by decide +kernel)
theorem q_581 : Cond.instanceMethod yX6_isShown ∈ gT := gT_in (List.mem_of_getElem? (i := 581) (by decide +kernel)) (by decide +kernel)
theorem q_582 : Cond.code yX6_isShown cX6_isShown 1 (some .boolean) ∈ gT := gT_in (List.mem_of_getElem? (i := 582) (by decide +kernel)) (by decide +kernel)
theorem q_583 : Cond.methodLink RX6 116 yX6_lastTime ∈ gT := gT_in (List.mem_of_getElem? (i := 583) (by decide +kernel)) (by decide +kernel)
theorem q_585 : Cond.instanceMethod yX6_lastTime ∈ gT := gT_in (List.mem_of_getElem? (i := 585) (by decide +kernel)) (by decide +kernel)
theorem q_586 : Cond.code yX6_lastTime cX6_lastTime 1 (some .int) ∈ gT := gT_in (List.mem_of_getElem? (i := 586) (by decide +kernel)) (by decide +kernel)
theorem q_587 : Cond.methodLink RX6 106 yX6_later ∈ gT := gT_in (List.mem_of_getElem? (i := 587) (by decide +kernel)) (by decide +kernel)
theorem q_588 : Cond.static yX6_later ∈ gT := gT_in (List.mem_of_getElem? (i := 588) (by decide +kernel)) (by decide +kernel)
theorem q_589 : Cond.code yX6_later cX6_later 4 (some .int) ∈ gT := gT_in (List.mem_of_getElem? (i := 589) (by decide +kernel)) (by decide +kernel)
theorem q_590 : Cond.methodLink R_law 43 yX6_goes ∈ gT := gT_in (List.mem_of_getElem? (i := 590) (by decide +kernel)) (by decide +kernel)
theorem q_591 : Cond.instanceMethod yX6_goes ∈ gT := gT_in (List.mem_of_getElem? (i := 591) (by decide +kernel)) (by decide +kernel)
theorem q_592 : Cond.selects RX6 yX6_goes yX6_goes ∈ gT := gT_in (List.mem_of_getElem? (i := 592) (by decide +kernel)) (by decide +kernel)
theorem q_593 : Cond.code yX6_goes cX6_goes 2 (some .int) ∈ gT := gT_in (List.mem_of_getElem? (i := 593) (by decide +kernel)) (by decide +kernel)
theorem q_594 : Cond.methodLink R_law 47 yX6_undo ∈ gT := gT_in (List.mem_of_getElem? (i := 594) (by decide +kernel)) (by decide +kernel)
theorem q_595 : Cond.instanceMethod yX6_undo ∈ gT := gT_in (List.mem_of_getElem? (i := 595) (by decide +kernel)) (by decide +kernel)
theorem q_596 : Cond.selects RX6 yX6_undo yX6_undo ∈ gT := gT_in (List.mem_of_getElem? (i := 596) (by decide +kernel)) (by decide +kernel)
theorem q_597 : Cond.code yX6_undo cX6_undo 2 (some .int) ∈ gT := gT_in (List.mem_of_getElem? (i := 597) (by decide +kernel)) (by decide +kernel)
theorem q_598 : Cond.methodLink R_law 51 yX6_symbol ∈ gT := gT_in (List.mem_of_getElem? (i := 598) (by decide +kernel)) (by decide +kernel)
theorem q_599 : Cond.instanceMethod yX6_symbol ∈ gT := gT_in (List.mem_of_getElem? (i := 599) (by decide +kernel)) (by decide +kernel)
theorem q_600 : Cond.selects RX6 yX6_symbol yX6_symbol ∈ gT := gT_in (List.mem_of_getElem? (i := 600) (by decide +kernel)) (by decide +kernel)
theorem q_601 : Cond.code yX6_symbol cX6_symbol 2 (some .int) ∈ gT := gT_in (List.mem_of_getElem? (i := 601) (by decide +kernel)) (by decide +kernel)
theorem q_602 : Cond.methodLink R_law 55 yX6_read ∈ gT := gT_in (List.mem_of_getElem? (i := 602) (by decide +kernel)) (by decide +kernel)
theorem q_603 : Cond.instanceMethod yX6_read ∈ gT := gT_in (List.mem_of_getElem? (i := 603) (by decide +kernel)) (by decide +kernel)
theorem q_604 : Cond.selects RX6 yX6_read yX6_read ∈ gT := gT_in (List.mem_of_getElem? (i := 604) (by decide +kernel)) (by decide +kernel)
theorem q_605 : Cond.code yX6_read cX6_read 3 (some .int) ∈ gT := gT_in (List.mem_of_getElem? (i := 605) (by decide +kernel)) (by decide +kernel)
theorem q_606 : Cond.methodLink RX6 127 yX6_parity ∈ gT := gT_in (List.mem_of_getElem? (i := 606) (by decide +kernel)) (by decide +kernel)
theorem q_608 : Cond.instanceMethod yX6_parity ∈ gT := gT_in (List.mem_of_getElem? (i := 608) (by decide +kernel)) (by decide +kernel)
theorem q_609 : Cond.code yX6_parity cX6_parity 4 (some .int) ∈ gT := gT_in (List.mem_of_getElem? (i := 609) (by decide +kernel)) (by decide +kernel)
theorem q_610 : Cond.methodLink RX6 120 yX6_isClear ∈ gT := gT_in (List.mem_of_getElem? (i := 610) (by decide +kernel)) (by decide +kernel)
theorem q_612 : Cond.instanceMethod yX6_isClear ∈ gT := gT_in (List.mem_of_getElem? (i := 612) (by decide +kernel)) (by decide +kernel)
theorem q_613 : Cond.code yX6_isClear cX6_isClear 6 (some .boolean) ∈ gT := gT_in (List.mem_of_getElem? (i := 613) (by decide +kernel)) (by decide +kernel)
theorem q_614 : Cond.methodLink RX6 123 yX6_valueOf ∈ gT := gT_in (List.mem_of_getElem? (i := 614) (by decide +kernel)) (by decide +kernel)
theorem q_616 : Cond.instanceMethod yX6_valueOf ∈ gT := gT_in (List.mem_of_getElem? (i := 616) (by decide +kernel)) (by decide +kernel)
theorem q_617 : Cond.code yX6_valueOf cX6_valueOf 4 (some .int) ∈ gT := gT_in (List.mem_of_getElem? (i := 617) (by decide +kernel)) (by decide +kernel)
theorem q_618 : Cond.methodLink RX6 130 yX6_twoFigures ∈ gT := gT_in (List.mem_of_getElem? (i := 618) (by decide +kernel)) (by decide +kernel)
theorem q_620 : Cond.instanceMethod yX6_twoFigures ∈ gT := gT_in (List.mem_of_getElem? (i := 620) (by decide +kernel)) (by decide +kernel)
theorem q_621 : Cond.code yX6_twoFigures cX6_twoFigures 7 (some .int) ∈ gT := gT_in (List.mem_of_getElem? (i := 621) (by decide +kernel)) (by decide +kernel)
theorem q_622 : Cond.methodLink R_law 59 yX6_vote ∈ gT := gT_in (List.mem_of_getElem? (i := 622) (by decide +kernel)) (by decide +kernel)
theorem q_623 : Cond.instanceMethod yX6_vote ∈ gT := gT_in (List.mem_of_getElem? (i := 623) (by decide +kernel)) (by decide +kernel)
theorem q_624 : Cond.selects RX6 yX6_vote yX6_vote ∈ gT := gT_in (List.mem_of_getElem? (i := 624) (by decide +kernel)) (by decide +kernel)
theorem q_625 : Cond.code yX6_vote cX6_vote 2 (some .int) ∈ gT := gT_in (List.mem_of_getElem? (i := 625) (by decide +kernel)) (by decide +kernel)
theorem q_626 : Cond.methodLink RX6 134 yX6_partOf ∈ gT := gT_in (List.mem_of_getElem? (i := 626) (by decide +kernel)) (by decide +kernel)
theorem q_627 : Cond.static yX6_partOf ∈ gT := gT_in (List.mem_of_getElem? (i := 627) (by decide +kernel)) (by decide +kernel)
theorem q_628 : Cond.code yX6_partOf cX6_partOf 2 (some .int) ∈ gT := gT_in (List.mem_of_getElem? (i := 628) (by decide +kernel)) (by decide +kernel)
theorem q_629 : Cond.methodLink R_law 64 yX6_misses ∈ gT := gT_in (List.mem_of_getElem? (i := 629) (by decide +kernel)) (by decide +kernel)
theorem q_630 : Cond.instanceMethod yX6_misses ∈ gT := gT_in (List.mem_of_getElem? (i := 630) (by decide +kernel)) (by decide +kernel)
theorem q_631 : Cond.selects RX6 yX6_misses yX6_misses ∈ gT := gT_in (List.mem_of_getElem? (i := 631) (by decide +kernel)) (by decide +kernel)
theorem q_632 : Cond.code yX6_misses cX6_misses 5 (some .int) ∈ gT := gT_in (List.mem_of_getElem? (i := 632) (by decide +kernel)) (by decide +kernel)
theorem q_633 : Cond.methodLink RX6 137 yX6_isTime ∈ gT := gT_in (List.mem_of_getElem? (i := 633) (by decide +kernel)) (by decide +kernel)
theorem q_634 : Cond.static yX6_isTime ∈ gT := gT_in (List.mem_of_getElem? (i := 634) (by decide +kernel)) (by decide +kernel)
theorem q_635 : Cond.code yX6_isTime cX6_isTime 4 (some .boolean) ∈ gT := gT_in (List.mem_of_getElem? (i := 635) (by decide +kernel)) (by decide +kernel)
theorem q_636 : Cond.methodLink RX6 141 yX6_codeOf ∈ gT := gT_in (List.mem_of_getElem? (i := 636) (by decide +kernel)) (by decide +kernel)
theorem q_637 : Cond.static yX6_codeOf ∈ gT := gT_in (List.mem_of_getElem? (i := 637) (by decide +kernel)) (by decide +kernel)
theorem q_638 : Cond.code yX6_codeOf cX6_codeOf 4 (some .int) ∈ gT := gT_in (List.mem_of_getElem? (i := 638) (by decide +kernel)) (by decide +kernel)
theorem q_639 : Cond.methodLink R_law 68 yX6_close ∈ gT := gT_in (List.mem_of_getElem? (i := 639) (by decide +kernel)) (by decide +kernel)
theorem q_640 : Cond.instanceMethod yX6_close ∈ gT := gT_in (List.mem_of_getElem? (i := 640) (by decide +kernel)) (by decide +kernel)
theorem q_641 : Cond.selects RX6 yX6_close yX6_close ∈ gT := gT_in (List.mem_of_getElem? (i := 641) (by decide +kernel)) (by decide +kernel)
theorem q_642 : Cond.code yX6_close cX6_close 5 (some .int) ∈ gT := gT_in (List.mem_of_getElem? (i := 642) (by decide +kernel)) (by decide +kernel)
theorem q_643 : Cond.methodLink R_law 72 yX6_bits ∈ gT := gT_in (List.mem_of_getElem? (i := 643) (by decide +kernel)) (by decide +kernel)
theorem q_644 : Cond.instanceMethod yX6_bits ∈ gT := gT_in (List.mem_of_getElem? (i := 644) (by decide +kernel)) (by decide +kernel)
theorem q_645 : Cond.selects RX6 yX6_bits yX6_bits ∈ gT := gT_in (List.mem_of_getElem? (i := 645) (by decide +kernel)) (by decide +kernel)
theorem q_646 : Cond.code yX6_bits cX6_bits 5 (some .int) ∈ gT := gT_in (List.mem_of_getElem? (i := 646) (by decide +kernel)) (by decide +kernel)
theorem q_647 : Cond.methodLink R_law 76 yX6_clock ∈ gT := gT_in (List.mem_of_getElem? (i := 647) (by decide +kernel)) (by decide +kernel)
theorem q_648 : Cond.instanceMethod yX6_clock ∈ gT := gT_in (List.mem_of_getElem? (i := 648) (by decide +kernel)) (by decide +kernel)
theorem q_649 : Cond.selects RX6 yX6_clock yX6_clock ∈ gT := gT_in (List.mem_of_getElem? (i := 649) (by decide +kernel)) (by decide +kernel)
theorem q_650 : Cond.code yX6_clock cX6_clock 3 (some .int) ∈ gT := gT_in (List.mem_of_getElem? (i := 650) (by decide +kernel)) (by decide +kernel)
theorem q_651 : Cond.constant RX6 144 (-1000000) ∈ gT := gT_in (List.mem_of_getElem? (i := 651) (by decide +kernel)) (by decide +kernel)
theorem q_652 : Cond.methodLink RX6 145 yX6_apart ∈ gT := gT_in (List.mem_of_getElem? (i := 652) (by decide +kernel)) (by decide +kernel)
theorem q_654 : Cond.instanceMethod yX6_apart ∈ gT := gT_in (List.mem_of_getElem? (i := 654) (by decide +kernel)) (by decide +kernel)
theorem q_655 : Cond.code yX6_apart cX6_apart 2 (some .int) ∈ gT := gT_in (List.mem_of_getElem? (i := 655) (by decide +kernel)) (by decide +kernel)
theorem q_656 : Cond.methodLink R_law 80 yX6_keep ∈ gT := gT_in (List.mem_of_getElem? (i := 656) (by decide +kernel)) (by decide +kernel)
theorem q_657 : Cond.instanceMethod yX6_keep ∈ gT := gT_in (List.mem_of_getElem? (i := 657) (by decide +kernel)) (by decide +kernel)
theorem q_658 : Cond.selects RX6 yX6_keep yX6_keep ∈ gT := gT_in (List.mem_of_getElem? (i := 658) (by decide +kernel)) (by decide +kernel)
theorem q_659 : Cond.code yX6_keep cX6_keep 3 (some .int) ∈ gT := gT_in (List.mem_of_getElem? (i := 659) (by decide +kernel)) (by decide +kernel)
theorem q_660 : Cond.methodLink R_law 84 yX6_back ∈ gT := gT_in (List.mem_of_getElem? (i := 660) (by decide +kernel)) (by decide +kernel)
theorem q_661 : Cond.instanceMethod yX6_back ∈ gT := gT_in (List.mem_of_getElem? (i := 661) (by decide +kernel)) (by decide +kernel)
theorem q_662 : Cond.selects RX6 yX6_back yX6_back ∈ gT := gT_in (List.mem_of_getElem? (i := 662) (by decide +kernel)) (by decide +kernel)
theorem q_663 : Cond.code yX6_back cX6_back 3 (some .int) ∈ gT := gT_in (List.mem_of_getElem? (i := 663) (by decide +kernel)) (by decide +kernel)
theorem q_664 : Cond.methodLink R_law 88 yX6_count ∈ gT := gT_in (List.mem_of_getElem? (i := 664) (by decide +kernel)) (by decide +kernel)
theorem q_665 : Cond.instanceMethod yX6_count ∈ gT := gT_in (List.mem_of_getElem? (i := 665) (by decide +kernel)) (by decide +kernel)
theorem q_666 : Cond.selects RX6 yX6_count yX6_count ∈ gT := gT_in (List.mem_of_getElem? (i := 666) (by decide +kernel)) (by decide +kernel)
theorem q_667 : Cond.code yX6_count cX6_count 2 (some .int) ∈ gT := gT_in (List.mem_of_getElem? (i := 667) (by decide +kernel)) (by decide +kernel)
theorem inX0 : ∀ w ∈ u_ws RX0 TX0 5, w ∈ gT := by decide +kernel
theorem inX1 : ∀ w ∈ u_ws RX1 TX1 6, w ∈ gT := by decide +kernel
theorem inX2 : ∀ w ∈ u_ws RX2 TX2 3, w ∈ gT := by decide +kernel
theorem inX4 : ∀ w ∈ u_ws RX4 TX4 7, w ∈ gT := by decide +kernel
theorem inX5 : ∀ w ∈ u_ws RX5 TX5 8, w ∈ gT := by decide +kernel
theorem inX6 : ∀ w ∈ u_ws RX6 TX6 14, w ∈ gT := by decide +kernel
theorem lk_L_13 : LkV R_law 13 yX5_hears cX5_hears 2 (some .int) 1 := ⟨q_181, q_182, q_183, q_24, q_184, by decide +kernel, by decide +kernel, by decide +kernel⟩
theorem lk_X5_49 : LkV RX5 49 yX2_remember cX2_remember 2 none 1 := ⟨q_185, q_186, q_187, q_26, q_188, by decide +kernel, by decide +kernel, by decide +kernel⟩
theorem lk_X2_22 : LkV RX2 22 yX1_copyFrom cX1_copyFrom 3 none 1 := ⟨q_189, q_190, q_191, q_25, q_192, by decide +kernel, by decide +kernel, by decide +kernel⟩
theorem lk_X2_29 : LkS RX2 29 yJ9_min_7cf53 cJ9_min_7cf53 2 (some .int) 2 := ⟨q_193, q_194, q_30, q_195, by decide +kernel, by decide +kernel, by decide +kernel⟩
theorem lk_X5_53 : LkS RX5 53 yX5_symbolOfLength cX5_symbolOfLength 1 (some .int) 1 := ⟨q_196, q_197, q_24, q_198, by decide +kernel, by decide +kernel, by decide +kernel⟩
theorem lk_X5_57 : LkV RX5 57 yX1_append cX1_append 2 none 1 := ⟨q_199, q_200, q_201, q_25, q_202, by decide +kernel, by decide +kernel, by decide +kernel⟩
theorem lk_X5_61 : LkV RX5 61 yX5_rowChanged cX5_rowChanged 1 none 0 := ⟨q_203, q_205, q_0, q_24, q_206, by decide +kernel, by decide +kernel, by decide +kernel⟩
theorem lk_L_18 : LkV R_law 18 yX5_frames cX5_frames 5 (some .int) 2 := ⟨q_207, q_208, q_209, q_24, q_210, by decide +kernel, by decide +kernel, by decide +kernel⟩
theorem lk_L_23 : LkV R_law 23 yX5_loses cX5_loses 2 (some .int) 1 := ⟨q_212, q_213, q_214, q_24, q_215, by decide +kernel, by decide +kernel, by decide +kernel⟩
theorem lk_X5_65 : LkV RX5 65 yX1_dropFirst cX1_dropFirst 3 none 1 := ⟨q_216, q_217, q_218, q_25, q_219, by decide +kernel, by decide +kernel, by decide +kernel⟩
theorem lk_L_27 : LkV R_law 27 yX5_needs cX5_needs 3 (some .int) 1 := ⟨q_220, q_221, q_222, q_24, q_223, by decide +kernel, by decide +kernel, by decide +kernel⟩
theorem lk_L_31 : LkV R_law 31 yX5_drifts cX5_drifts 3 (some .int) 1 := ⟨q_224, q_225, q_226, q_24, q_227, by decide +kernel, by decide +kernel, by decide +kernel⟩
theorem lk_L_35 : LkV R_law 35 yX5_sets cX5_sets 1 (some .int) 0 := ⟨q_228, q_229, q_230, q_24, q_231, by decide +kernel, by decide +kernel, by decide +kernel⟩
theorem lk_X5_74 : LkV RX5 74 yX5_isShown cX5_isShown 1 (some .boolean) 0 := ⟨q_232, q_234, q_1, q_24, q_235, by decide +kernel, by decide +kernel, by decide +kernel⟩
theorem lk_X5_113 : LkV RX5 113 yX5_fittingFrames cX5_fittingFrames 1 (some (.object "MinuteSignal$Frames")) 0 := ⟨q_236, q_238, q_2, q_24, q_239, by decide +kernel, by decide +kernel, by decide +kernel⟩
theorem lk_X5_195 : LkV RX5 195 yX0_cut cX0_cut 3 none 1 := ⟨q_240, q_241, q_242, q_27, q_243, by decide +kernel, by decide +kernel, by decide +kernel⟩
theorem lk_X0_21 : LkV RX0 21 yX0_findPhase cX0_findPhase 3 none 1 := ⟨q_244, q_245, q_246, q_27, q_247, by decide +kernel, by decide +kernel, by decide +kernel⟩
theorem lk_X0_25 : LkV RX0 25 yX0_firstOf cX0_firstOf 2 (some .int) 1 := ⟨q_248, q_249, q_250, q_27, q_251, by decide +kernel, by decide +kernel, by decide +kernel⟩
theorem lk_X0_38 : LkV RX0 38 yX0_takeFrame cX0_takeFrame 7 none 2 := ⟨q_252, q_253, q_254, q_27, q_255, by decide +kernel, by decide +kernel, by decide +kernel⟩
theorem lk_X5_78 : LkV RX5 78 yX5_fittingVote cX5_fittingVote 1 (some (.object "MinuteSignal$Vote")) 0 := ⟨q_256, q_258, q_3, q_24, q_259, by decide +kernel, by decide +kernel, by decide +kernel⟩
theorem lk_X5_198 : LkV RX5 198 yX4_take cX4_take 3 none 1 := ⟨q_260, q_261, q_262, q_28, q_263, by decide +kernel, by decide +kernel, by decide +kernel⟩
theorem lk_X4_23 : LkV RX4 23 yX4_countByMinute cX4_countByMinute 6 none 1 := ⟨q_264, q_265, q_266, q_28, q_267, by decide +kernel, by decide +kernel, by decide +kernel⟩
theorem lk_X4_55 : LkS RX4 55 yX3_bitsOf cX3_bitsOf 8 (some .int) 1 := ⟨q_268, q_269, q_31, q_270, by decide +kernel, by decide +kernel, by decide +kernel⟩
theorem lk_X3_15 : LkS RX3 15 yX3_minuteOf cX3_minuteOf 1 (some .int) 1 := ⟨q_271, q_272, q_31, q_273, by decide +kernel, by decide +kernel, by decide +kernel⟩
theorem lk_X3_22 : LkS RX3 22 yX3_shiftOf cX3_shiftOf 1 (some .int) 1 := ⟨q_274, q_275, q_31, q_276, by decide +kernel, by decide +kernel, by decide +kernel⟩
theorem lk_X3_25 : LkS RX3 25 yX3_leapOf cX3_leapOf 1 (some .int) 1 := ⟨q_277, q_278, q_31, q_279, by decide +kernel, by decide +kernel, by decide +kernel⟩
theorem lk_X3_19 : LkS RX3 19 yX3_summerOf cX3_summerOf 1 (some .int) 1 := ⟨q_280, q_281, q_31, q_282, by decide +kernel, by decide +kernel, by decide +kernel⟩
theorem lk_X3_35 : LkS RX3 35 yJ6_bitCount_0f7a4 cJ6_bitCount_0f7a4 1 (some .int) 1 := ⟨q_283, q_284, q_32, q_285, by decide +kernel, by decide +kernel, by decide +kernel⟩
theorem lk_X4_59 : LkV RX4 59 yX0_missesOf cX0_missesOf 4 (some .int) 3 := ⟨q_289, q_290, q_291, q_27, q_292, by decide +kernel, by decide +kernel, by decide +kernel⟩
theorem lk_X0_53 : LkS RX0 53 yJ6_bitCount_0f7a4 cJ6_bitCount_0f7a4 1 (some .int) 1 := ⟨q_293, q_284, q_32, q_285, by decide +kernel, by decide +kernel, by decide +kernel⟩
theorem lk_X4_27 : LkV RX4 27 yX4_countByHour cX4_countByHour 6 none 1 := ⟨q_294, q_295, q_296, q_28, q_297, by decide +kernel, by decide +kernel, by decide +kernel⟩
theorem lk_X4_63 : LkS RX4 63 yX4_timeAt cX4_timeAt 2 (some .int) 2 := ⟨q_298, q_299, q_28, q_300, by decide +kernel, by decide +kernel, by decide +kernel⟩
theorem lk_X4_36 : LkV RX4 36 yX4_addUp cX4_addUp 10 none 2 := ⟨q_302, q_303, q_304, q_28, q_305, by decide +kernel, by decide +kernel, by decide +kernel⟩
theorem lk_X4_67 : LkS RX4 67 yX3_next cX3_next 3 (some .int) 1 := ⟨q_306, q_307, q_31, q_308, by decide +kernel, by decide +kernel, by decide +kernel⟩
theorem lk_X3_28 : LkS RX3 28 yX3_of cX3_of 4 (some .int) 4 := ⟨q_309, q_310, q_31, q_311, by decide +kernel, by decide +kernel, by decide +kernel⟩
theorem lk_X4_70 : LkS RX4 70 yJ9_min_7cf53 cJ9_min_7cf53 2 (some .int) 2 := ⟨q_312, q_194, q_30, q_195, by decide +kernel, by decide +kernel, by decide +kernel⟩
theorem lk_X4_40 : LkV RX4 40 yX4_choose cX4_choose 4 none 0 := ⟨q_313, q_314, q_315, q_28, q_316, by decide +kernel, by decide +kernel, by decide +kernel⟩
theorem lk_X4_46 : LkS RX4 46 yX3_later cX3_later 4 (some .int) 2 := ⟨q_317, q_318, q_31, q_319, by decide +kernel, by decide +kernel, by decide +kernel⟩
theorem lk_X3_32 : LkS RX3 32 yX3_next cX3_next 3 (some .int) 1 := ⟨q_320, q_307, q_31, q_308, by decide +kernel, by decide +kernel, by decide +kernel⟩
theorem lk_X5_91 : LkS RX5 91 yX3_minuteOf cX3_minuteOf 1 (some .int) 1 := ⟨q_321, q_272, q_31, q_273, by decide +kernel, by decide +kernel, by decide +kernel⟩
theorem lk_L_40 : LkV R_law 40 yX5_goes cX5_goes 2 (some .int) 1 := ⟨q_322, q_323, q_324, q_24, q_325, by decide +kernel, by decide +kernel, by decide +kernel⟩
theorem lk_X5_96 : LkS RX5 96 yX3_later cX3_later 4 (some .int) 2 := ⟨q_326, q_318, q_31, q_319, by decide +kernel, by decide +kernel, by decide +kernel⟩
theorem lk_X5_100 : LkS RX5 100 yJ9_min_7cf53 cJ9_min_7cf53 2 (some .int) 2 := ⟨q_327, q_194, q_30, q_195, by decide +kernel, by decide +kernel, by decide +kernel⟩
theorem lk_L_44 : LkV R_law 44 yX5_undo cX5_undo 1 (some .int) 0 := ⟨q_328, q_329, q_330, q_24, q_331, by decide +kernel, by decide +kernel, by decide +kernel⟩
theorem lk_X5_106 : LkV RX5 106 yX2_recall cX2_recall 2 none 1 := ⟨q_332, q_333, q_334, q_26, q_335, by decide +kernel, by decide +kernel, by decide +kernel⟩
theorem lk_L_48 : LkV R_law 48 yX5_symbol cX5_symbol 2 (some .int) 1 := ⟨q_336, q_337, q_338, q_24, q_339, by decide +kernel, by decide +kernel, by decide +kernel⟩
theorem lk_L_52 : LkV R_law 52 yX5_read cX5_read 4 (some .int) 2 := ⟨q_340, q_341, q_342, q_24, q_343, by decide +kernel, by decide +kernel, by decide +kernel⟩
theorem lk_X5_120 : LkV RX5 120 yX0_firstOf cX0_firstOf 2 (some .int) 1 := ⟨q_344, q_249, q_250, q_27, q_251, by decide +kernel, by decide +kernel, by decide +kernel⟩
theorem lk_X5_123 : LkV RX5 123 yX0_parity cX0_parity 3 (some .int) 2 := ⟨q_345, q_346, q_347, q_27, q_348, by decide +kernel, by decide +kernel, by decide +kernel⟩
theorem lk_X0_49 : LkV RX0 49 yX0_allClear cX0_allClear 3 (some .boolean) 2 := ⟨q_349, q_350, q_351, q_27, q_352, by decide +kernel, by decide +kernel, by decide +kernel⟩
theorem lk_X5_127 : LkV RX5 127 yX0_minuteOfHour cX0_minuteOfHour 2 (some .int) 1 := ⟨q_354, q_355, q_356, q_27, q_357, by decide +kernel, by decide +kernel, by decide +kernel⟩
theorem lk_X0_58 : LkS RX0 58 yX0_byFigures cX0_byFigures 4 (some .int) 3 := ⟨q_358, q_359, q_27, q_360, by decide +kernel, by decide +kernel, by decide +kernel⟩
theorem lk_X5_130 : LkV RX5 130 yX0_hour cX0_hour 2 (some .int) 1 := ⟨q_361, q_362, q_363, q_27, q_364, by decide +kernel, by decide +kernel, by decide +kernel⟩
theorem lk_X5_136 : LkV RX5 136 yX0_wrong cX0_wrong 3 (some .int) 2 := ⟨q_366, q_367, q_368, q_27, q_369, by decide +kernel, by decide +kernel, by decide +kernel⟩
theorem lk_X0_63 : LkS RX0 63 yX3_bitsOf cX3_bitsOf 8 (some .int) 1 := ⟨q_370, q_269, q_31, q_270, by decide +kernel, by decide +kernel, by decide +kernel⟩
theorem lk_X5_139 : LkV RX5 139 yX5_symbol cX5_symbol 2 (some .int) 1 := ⟨q_371, q_337, q_338, q_24, q_339, by decide +kernel, by decide +kernel, by decide +kernel⟩
theorem lk_L_56 : LkV R_law 56 yX5_vote cX5_vote 3 (some .int) 1 := ⟨q_372, q_373, q_374, q_24, q_375, by decide +kernel, by decide +kernel, by decide +kernel⟩
theorem lk_X5_148 : LkS RX5 148 yX3_partOf cX3_partOf 2 (some .int) 2 := ⟨q_376, q_377, q_31, q_378, by decide +kernel, by decide +kernel, by decide +kernel⟩
theorem lk_L_60 : LkV R_law 60 yX5_misses cX5_misses 5 (some .int) 4 := ⟨q_379, q_380, q_381, q_24, q_382, by decide +kernel, by decide +kernel, by decide +kernel⟩
theorem lk_X5_151 : LkS RX5 151 yX3_isTime cX3_isTime 4 (some .boolean) 4 := ⟨q_383, q_384, q_31, q_385, by decide +kernel, by decide +kernel, by decide +kernel⟩
theorem lk_X3_9 : LkS RX3 9 yX3_isSign cX3_isSign 1 (some .boolean) 1 := ⟨q_386, q_387, q_31, q_388, by decide +kernel, by decide +kernel, by decide +kernel⟩
theorem lk_X5_155 : LkS RX5 155 yX3_of cX3_of 4 (some .int) 4 := ⟨q_389, q_310, q_31, q_311, by decide +kernel, by decide +kernel, by decide +kernel⟩
theorem lk_X5_159 : LkV RX5 159 yX0_missesFrom cX0_missesFrom 5 (some .int) 1 := ⟨q_390, q_391, q_392, q_27, q_393, by decide +kernel, by decide +kernel, by decide +kernel⟩
theorem lk_X0_69 : LkV RX0 69 yX0_missesOf cX0_missesOf 4 (some .int) 3 := ⟨q_395, q_290, q_291, q_27, q_292, by decide +kernel, by decide +kernel, by decide +kernel⟩
theorem lk_X0_72 : LkS RX0 72 yX3_next cX3_next 3 (some .int) 1 := ⟨q_396, q_307, q_31, q_308, by decide +kernel, by decide +kernel, by decide +kernel⟩
theorem lk_L_65 : LkV R_law 65 yX5_close cX5_close 4 (some .int) 2 := ⟨q_397, q_398, q_399, q_24, q_400, by decide +kernel, by decide +kernel, by decide +kernel⟩
theorem lk_X5_162 : LkV RX5 162 yX4_closeCount cX4_closeCount 4 (some .int) 1 := ⟨q_401, q_402, q_403, q_28, q_404, by decide +kernel, by decide +kernel, by decide +kernel⟩
theorem lk_X5_165 : LkV RX5 165 yX4_closeTime cX4_closeTime 5 (some .int) 2 := ⟨q_405, q_406, q_407, q_28, q_408, by decide +kernel, by decide +kernel, by decide +kernel⟩
theorem lk_L_69 : LkV R_law 69 yX5_bits cX5_bits 5 (some .int) 4 := ⟨q_409, q_410, q_411, q_24, q_412, by decide +kernel, by decide +kernel, by decide +kernel⟩
theorem lk_X5_168 : LkS RX5 168 yX3_bitsOf cX3_bitsOf 8 (some .int) 1 := ⟨q_413, q_269, q_31, q_270, by decide +kernel, by decide +kernel, by decide +kernel⟩
theorem lk_L_73 : LkV R_law 73 yX5_clock cX5_clock 2 (some .int) 1 := ⟨q_414, q_415, q_416, q_24, q_417, by decide +kernel, by decide +kernel, by decide +kernel⟩
theorem lk_X5_172 : LkV RX5 172 yX5_drifted cX5_drifted 1 (some .int) 0 := ⟨q_419, q_421, q_4, q_24, q_422, by decide +kernel, by decide +kernel, by decide +kernel⟩
theorem lk_X5_176 : LkV RX5 176 yX5_apart cX5_apart 3 (some .int) 0 := ⟨q_423, q_425, q_5, q_24, q_426, by decide +kernel, by decide +kernel, by decide +kernel⟩
theorem lk_X5_202 : LkS RX5 202 yJ9_floorMod_7cf53 cJ9_floorMod_7cf53 3 (some .int) 2 := ⟨q_427, q_428, q_30, q_429, by decide +kernel, by decide +kernel, by decide +kernel⟩
theorem lk_L_77 : LkV R_law 77 yX5_keep cX5_keep 2 (some .int) 1 := ⟨q_430, q_431, q_432, q_24, q_433, by decide +kernel, by decide +kernel, by decide +kernel⟩
theorem lk_X5_179 : LkV RX5 179 yX1_copyFrom cX1_copyFrom 3 none 1 := ⟨q_434, q_190, q_191, q_25, q_192, by decide +kernel, by decide +kernel, by decide +kernel⟩
theorem lk_L_81 : LkV R_law 81 yX5_back cX5_back 2 (some .int) 1 := ⟨q_435, q_436, q_437, q_24, q_438, by decide +kernel, by decide +kernel, by decide +kernel⟩
theorem lk_X5_182 : LkV RX5 182 yX2_forget cX2_forget 1 none 0 := ⟨q_439, q_440, q_441, q_26, q_442, by decide +kernel, by decide +kernel, by decide +kernel⟩
theorem lk_L_85 : LkV R_law 85 yX5_count cX5_count 2 (some .int) 1 := ⟨q_443, q_444, q_445, q_24, q_446, by decide +kernel, by decide +kernel, by decide +kernel⟩
theorem lk_L_17 : LkV R_law 17 yX6_hears cX6_hears 2 (some .int) 1 := ⟨q_496, q_497, q_498, q_29, q_499, by decide +kernel, by decide +kernel, by decide +kernel⟩
theorem lk_X6_47 : LkS RX6 47 yX6_in cX6_in 3 (some .boolean) 3 := ⟨q_500, q_501, q_29, q_502, by decide +kernel, by decide +kernel, by decide +kernel⟩
theorem lk_X6_62 : LkV RX6 62 yX6_remember cX6_remember 2 none 0 := ⟨q_503, q_505, q_6, q_29, q_506, by decide +kernel, by decide +kernel, by decide +kernel⟩
theorem lk_X6_65 : LkV RX6 65 yX6_comes cX6_comes 2 none 1 := ⟨q_507, q_509, q_7, q_29, q_510, by decide +kernel, by decide +kernel, by decide +kernel⟩
theorem lk_L_22 : LkV R_law 22 yX6_frames cX6_frames 4 (some .int) 2 := ⟨q_511, q_512, q_513, q_29, q_514, by decide +kernel, by decide +kernel, by decide +kernel⟩
theorem lk_X6_32 : LkS RX6 32 yX6_has cX6_has 2 (some .boolean) 2 := ⟨q_516, q_517, q_29, q_518, by decide +kernel, by decide +kernel, by decide +kernel⟩
theorem lk_L_26 : LkV R_law 26 yX6_loses cX6_loses 3 (some .int) 1 := ⟨q_519, q_520, q_521, q_29, q_522, by decide +kernel, by decide +kernel, by decide +kernel⟩
theorem lk_L_30 : LkV R_law 30 yX6_needs cX6_needs 2 (some .int) 1 := ⟨q_523, q_524, q_525, q_29, q_526, by decide +kernel, by decide +kernel, by decide +kernel⟩
theorem lk_X6_70 : LkV RX6 70 yX6_becomes cX6_becomes 4 (some .int) 2 := ⟨q_527, q_529, q_8, q_29, q_530, by decide +kernel, by decide +kernel, by decide +kernel⟩
theorem lk_L_34 : LkV R_law 34 yX6_drifts cX6_drifts 2 (some .int) 1 := ⟨q_531, q_532, q_533, q_29, q_534, by decide +kernel, by decide +kernel, by decide +kernel⟩
theorem lk_L_39 : LkV R_law 39 yX6_sets cX6_sets 2 (some .int) 0 := ⟨q_535, q_536, q_537, q_29, q_538, by decide +kernel, by decide +kernel, by decide +kernel⟩
theorem lk_X6_109 : LkV RX6 109 yX6_tells cX6_tells 3 none 0 := ⟨q_539, q_541, q_9, q_29, q_542, by decide +kernel, by decide +kernel, by decide +kernel⟩
theorem lk_X6_91 : LkV RX6 91 yX6_layPhase cX6_layPhase 5 none 0 := ⟨q_543, q_545, q_10, q_29, q_546, by decide +kernel, by decide +kernel, by decide +kernel⟩
theorem lk_X6_73 : LkV RX6 73 yX6_symbolAt cX6_symbolAt 2 (some .int) 1 := ⟨q_547, q_549, q_11, q_29, q_550, by decide +kernel, by decide +kernel, by decide +kernel⟩
theorem lk_X6_94 : LkV RX6 94 yX6_layFrames cX6_layFrames 3 none 0 := ⟨q_551, q_553, q_12, q_29, q_554, by decide +kernel, by decide +kernel, by decide +kernel⟩
theorem lk_X6_82 : LkV RX6 82 yX6_firstOf cX6_firstOf 2 (some .int) 1 := ⟨q_555, q_557, q_13, q_29, q_558, by decide +kernel, by decide +kernel, by decide +kernel⟩
theorem lk_X6_100 : LkV RX6 100 yX6_missesOf cX6_missesOf 5 (some .int) 1 := ⟨q_559, q_561, q_14, q_29, q_562, by decide +kernel, by decide +kernel, by decide +kernel⟩
theorem lk_X6_88 : LkV RX6 88 yX6_wrongOf cX6_wrongOf 3 (some .int) 2 := ⟨q_563, q_565, q_15, q_29, q_566, by decide +kernel, by decide +kernel, by decide +kernel⟩
theorem lk_X6_85 : LkS RX6 85 yX6_bitsOf cX6_bitsOf 5 (some .int) 1 := ⟨q_567, q_568, q_29, q_569, by decide +kernel, by decide +kernel, by decide +kernel⟩
theorem lk_X6_36 : LkS RX6 36 yX6_figures cX6_figures 2 (some .int) 2 := ⟨q_570, q_571, q_29, q_572, by decide +kernel, by decide +kernel, by decide +kernel⟩
theorem lk_X6_40 : LkS RX6 40 yX6_many cX6_many 3 (some .int) 1 := ⟨q_573, q_574, q_29, q_575, by decide +kernel, by decide +kernel, by decide +kernel⟩
theorem lk_X6_44 : LkS RX6 44 yX6_nextOf cX6_nextOf 3 (some .int) 1 := ⟨q_576, q_577, q_29, q_578, by decide +kernel, by decide +kernel, by decide +kernel⟩
theorem lk_X6_112 : LkV RX6 112 yX6_isShown cX6_isShown 1 (some .boolean) 0 := ⟨q_579, q_581, q_16, q_29, q_582, by decide +kernel, by decide +kernel, by decide +kernel⟩
theorem lk_X6_116 : LkV RX6 116 yX6_lastTime cX6_lastTime 1 (some .int) 0 := ⟨q_583, q_585, q_17, q_29, q_586, by decide +kernel, by decide +kernel, by decide +kernel⟩
theorem lk_X6_106 : LkS RX6 106 yX6_later cX6_later 4 (some .int) 2 := ⟨q_587, q_588, q_29, q_589, by decide +kernel, by decide +kernel, by decide +kernel⟩
theorem lk_L_43 : LkV R_law 43 yX6_goes cX6_goes 2 (some .int) 1 := ⟨q_590, q_591, q_592, q_29, q_593, by decide +kernel, by decide +kernel, by decide +kernel⟩
theorem lk_L_47 : LkV R_law 47 yX6_undo cX6_undo 2 (some .int) 0 := ⟨q_594, q_595, q_596, q_29, q_597, by decide +kernel, by decide +kernel, by decide +kernel⟩
theorem lk_L_51 : LkV R_law 51 yX6_symbol cX6_symbol 2 (some .int) 1 := ⟨q_598, q_599, q_600, q_29, q_601, by decide +kernel, by decide +kernel, by decide +kernel⟩
theorem lk_L_55 : LkV R_law 55 yX6_read cX6_read 3 (some .int) 2 := ⟨q_602, q_603, q_604, q_29, q_605, by decide +kernel, by decide +kernel, by decide +kernel⟩
theorem lk_X6_127 : LkV RX6 127 yX6_parity cX6_parity 4 (some .int) 3 := ⟨q_606, q_608, q_18, q_29, q_609, by decide +kernel, by decide +kernel, by decide +kernel⟩
theorem lk_X6_120 : LkV RX6 120 yX6_isClear cX6_isClear 6 (some .boolean) 3 := ⟨q_610, q_612, q_19, q_29, q_613, by decide +kernel, by decide +kernel, by decide +kernel⟩
theorem lk_X6_123 : LkV RX6 123 yX6_valueOf cX6_valueOf 4 (some .int) 3 := ⟨q_614, q_616, q_20, q_29, q_617, by decide +kernel, by decide +kernel, by decide +kernel⟩
theorem lk_X6_130 : LkV RX6 130 yX6_twoFigures cX6_twoFigures 7 (some .int) 4 := ⟨q_618, q_620, q_21, q_29, q_621, by decide +kernel, by decide +kernel, by decide +kernel⟩
theorem lk_L_59 : LkV R_law 59 yX6_vote cX6_vote 2 (some .int) 1 := ⟨q_622, q_623, q_624, q_29, q_625, by decide +kernel, by decide +kernel, by decide +kernel⟩
theorem lk_X6_134 : LkS RX6 134 yX6_partOf cX6_partOf 2 (some .int) 2 := ⟨q_626, q_627, q_29, q_628, by decide +kernel, by decide +kernel, by decide +kernel⟩
theorem lk_L_64 : LkV R_law 64 yX6_misses cX6_misses 5 (some .int) 4 := ⟨q_629, q_630, q_631, q_29, q_632, by decide +kernel, by decide +kernel, by decide +kernel⟩
theorem lk_X6_137 : LkS RX6 137 yX6_isTime cX6_isTime 4 (some .boolean) 4 := ⟨q_633, q_634, q_29, q_635, by decide +kernel, by decide +kernel, by decide +kernel⟩
theorem lk_X6_141 : LkS RX6 141 yX6_codeOf cX6_codeOf 4 (some .int) 4 := ⟨q_636, q_637, q_29, q_638, by decide +kernel, by decide +kernel, by decide +kernel⟩
theorem lk_L_68 : LkV R_law 68 yX6_close cX6_close 5 (some .int) 2 := ⟨q_639, q_640, q_641, q_29, q_642, by decide +kernel, by decide +kernel, by decide +kernel⟩
theorem lk_L_72 : LkV R_law 72 yX6_bits cX6_bits 5 (some .int) 4 := ⟨q_643, q_644, q_645, q_29, q_646, by decide +kernel, by decide +kernel, by decide +kernel⟩
theorem lk_L_76 : LkV R_law 76 yX6_clock cX6_clock 3 (some .int) 1 := ⟨q_647, q_648, q_649, q_29, q_650, by decide +kernel, by decide +kernel, by decide +kernel⟩
theorem lk_X6_145 : LkV RX6 145 yX6_apart cX6_apart 2 (some .int) 0 := ⟨q_652, q_654, q_22, q_29, q_655, by decide +kernel, by decide +kernel, by decide +kernel⟩
theorem lk_L_80 : LkV R_law 80 yX6_keep cX6_keep 3 (some .int) 1 := ⟨q_656, q_657, q_658, q_29, q_659, by decide +kernel, by decide +kernel, by decide +kernel⟩
theorem lk_L_84 : LkV R_law 84 yX6_back cX6_back 3 (some .int) 1 := ⟨q_660, q_661, q_662, q_29, q_663, by decide +kernel, by decide +kernel, by decide +kernel⟩
theorem lk_L_88 : LkV R_law 88 yX6_count cX6_count 2 (some .int) 1 := ⟨q_664, q_665, q_666, q_29, q_667, by decide +kernel, by decide +kernel, by decide +kernel⟩
theorem wc_held (cy : Nat → ClassId) (ad : Nat → Nat) (g : SG) : ∀ h : Nat, h < 13 → (WC cy ad g)[20 + 2 * h]? = some (ad (20 + 2 * h), .inr (1, [.ref (ad (21 + 2 * h)), .int (g (20 + h) 0), .int (g (20 + h) 1), .int (g (20 + h) 2), .int (g (20 + h) 3), .int (g (20 + h) 4)]))
  | 0, _ => rfl
  | 1, _ => rfl
  | 2, _ => rfl
  | 3, _ => rfl
  | 4, _ => rfl
  | 5, _ => rfl
  | 6, _ => rfl
  | 7, _ => rfl
  | 8, _ => rfl
  | 9, _ => rfl
  | 10, _ => rfl
  | 11, _ => rfl
  | 12, _ => rfl
  | h + 13, hh => absurd hh (by omega)
theorem wc_harr (cy : Nat → ClassId) (ad : Nat → Nat) (g : SG) : ∀ h : Nat, h < 13 → (WC cy ad g)[21 + 2 * h]? = some (ad (21 + 2 * h), .inl (cy 0, 120, .inl (g (40 + h))))
  | 0, _ => rfl
  | 1, _ => rfl
  | 2, _ => rfl
  | 3, _ => rfl
  | 4, _ => rfl
  | 5, _ => rfl
  | 6, _ => rfl
  | 7, _ => rfl
  | 8, _ => rfl
  | 9, _ => rfl
  | 10, _ => rfl
  | 11, _ => rfl
  | 12, _ => rfl
  | h + 13, hh => absurd hh (by omega)
theorem wc_heldset0 (cy : Nat → ClassId) (ad : Nat → Nat) (g : SG) (v : Int32) : ∀ h : Nat, h < 13 → (WC cy ad g).set (20 + 2 * h) (ad (20 + 2 * h), .inr (1, [.ref (ad (21 + 2 * h)), .int (g (20 + h) 0), .int (g (20 + h) 1), .int (g (20 + h) 2), .int (g (20 + h) 3), .int (g (20 + h) 4)].set 1 (.int v))) = WC cy ad (sput g (20 + h) 0 v)
  | 0, _ => rfl
  | 1, _ => rfl
  | 2, _ => rfl
  | 3, _ => rfl
  | 4, _ => rfl
  | 5, _ => rfl
  | 6, _ => rfl
  | 7, _ => rfl
  | 8, _ => rfl
  | 9, _ => rfl
  | 10, _ => rfl
  | 11, _ => rfl
  | 12, _ => rfl
  | h + 13, hh => absurd hh (by omega)
theorem wc_heldset1 (cy : Nat → ClassId) (ad : Nat → Nat) (g : SG) (v : Int32) : ∀ h : Nat, h < 13 → (WC cy ad g).set (20 + 2 * h) (ad (20 + 2 * h), .inr (1, [.ref (ad (21 + 2 * h)), .int (g (20 + h) 0), .int (g (20 + h) 1), .int (g (20 + h) 2), .int (g (20 + h) 3), .int (g (20 + h) 4)].set 2 (.int v))) = WC cy ad (sput g (20 + h) 1 v)
  | 0, _ => rfl
  | 1, _ => rfl
  | 2, _ => rfl
  | 3, _ => rfl
  | 4, _ => rfl
  | 5, _ => rfl
  | 6, _ => rfl
  | 7, _ => rfl
  | 8, _ => rfl
  | 9, _ => rfl
  | 10, _ => rfl
  | 11, _ => rfl
  | 12, _ => rfl
  | h + 13, hh => absurd hh (by omega)
theorem wc_heldset2 (cy : Nat → ClassId) (ad : Nat → Nat) (g : SG) (v : Int32) : ∀ h : Nat, h < 13 → (WC cy ad g).set (20 + 2 * h) (ad (20 + 2 * h), .inr (1, [.ref (ad (21 + 2 * h)), .int (g (20 + h) 0), .int (g (20 + h) 1), .int (g (20 + h) 2), .int (g (20 + h) 3), .int (g (20 + h) 4)].set 3 (.int v))) = WC cy ad (sput g (20 + h) 2 v)
  | 0, _ => rfl
  | 1, _ => rfl
  | 2, _ => rfl
  | 3, _ => rfl
  | 4, _ => rfl
  | 5, _ => rfl
  | 6, _ => rfl
  | 7, _ => rfl
  | 8, _ => rfl
  | 9, _ => rfl
  | 10, _ => rfl
  | 11, _ => rfl
  | 12, _ => rfl
  | h + 13, hh => absurd hh (by omega)
theorem wc_heldset3 (cy : Nat → ClassId) (ad : Nat → Nat) (g : SG) (v : Int32) : ∀ h : Nat, h < 13 → (WC cy ad g).set (20 + 2 * h) (ad (20 + 2 * h), .inr (1, [.ref (ad (21 + 2 * h)), .int (g (20 + h) 0), .int (g (20 + h) 1), .int (g (20 + h) 2), .int (g (20 + h) 3), .int (g (20 + h) 4)].set 4 (.int v))) = WC cy ad (sput g (20 + h) 3 v)
  | 0, _ => rfl
  | 1, _ => rfl
  | 2, _ => rfl
  | 3, _ => rfl
  | 4, _ => rfl
  | 5, _ => rfl
  | 6, _ => rfl
  | 7, _ => rfl
  | 8, _ => rfl
  | 9, _ => rfl
  | 10, _ => rfl
  | 11, _ => rfl
  | 12, _ => rfl
  | h + 13, hh => absurd hh (by omega)
theorem wc_heldset4 (cy : Nat → ClassId) (ad : Nat → Nat) (g : SG) (v : Int32) : ∀ h : Nat, h < 13 → (WC cy ad g).set (20 + 2 * h) (ad (20 + 2 * h), .inr (1, [.ref (ad (21 + 2 * h)), .int (g (20 + h) 0), .int (g (20 + h) 1), .int (g (20 + h) 2), .int (g (20 + h) 3), .int (g (20 + h) 4)].set 5 (.int v))) = WC cy ad (sput g (20 + h) 4 v)
  | 0, _ => rfl
  | 1, _ => rfl
  | 2, _ => rfl
  | 3, _ => rfl
  | 4, _ => rfl
  | 5, _ => rfl
  | 6, _ => rfl
  | 7, _ => rfl
  | 8, _ => rfl
  | 9, _ => rfl
  | 10, _ => rfl
  | 11, _ => rfl
  | 12, _ => rfl
  | h + 13, hh => absurd hh (by omega)
theorem wc_harrset (cy : Nat → ClassId) (ad : Nat → Nat) (g : SG) (i : Nat) (v : Int32) : ∀ h : Nat, h < 13 → (WC cy ad g).set (21 + 2 * h) (ad (21 + 2 * h), .inl (cy 0, 120, .inl (upd (g (40 + h)) i v))) = WC cy ad (sput g (40 + h) i v)
  | 0, _ => by rw [upd_sput]; rfl
  | 1, _ => by rw [upd_sput]; rfl
  | 2, _ => by rw [upd_sput]; rfl
  | 3, _ => by rw [upd_sput]; rfl
  | 4, _ => by rw [upd_sput]; rfl
  | 5, _ => by rw [upd_sput]; rfl
  | 6, _ => by rw [upd_sput]; rfl
  | 7, _ => by rw [upd_sput]; rfl
  | 8, _ => by rw [upd_sput]; rfl
  | 9, _ => by rw [upd_sput]; rfl
  | 10, _ => by rw [upd_sput]; rfl
  | 11, _ => by rw [upd_sput]; rfl
  | 12, _ => by rw [upd_sput]; rfl
  | h + 13, hh => absurd hh (by omega)
theorem wc_row (cy : Nat → ClassId) (ad : Nat → Nat) (g : SG) : ∀ h : Nat, h < 7 → (WC cy ad g)[13 + h]? = some (ad (13 + h), .inl (cy 1, 192, .inl (g (7 + h))))
  | 0, _ => rfl
  | 1, _ => rfl
  | 2, _ => rfl
  | 3, _ => rfl
  | 4, _ => rfl
  | 5, _ => rfl
  | 6, _ => rfl
  | h + 7, hh => absurd hh (by omega)
theorem wc_rowset (cy : Nat → ClassId) (ad : Nat → Nat) (g : SG) (i : Nat) (v : Int32) : ∀ h : Nat, h < 7 → (WC cy ad g).set (13 + h) (ad (13 + h), .inl (cy 1, 192, .inl (upd (g (7 + h)) i v))) = WC cy ad (sput g (7 + h) i v)
  | 0, _ => by rw [upd_sput]; rfl
  | 1, _ => by rw [upd_sput]; rfl
  | 2, _ => by rw [upd_sput]; rfl
  | 3, _ => by rw [upd_sput]; rfl
  | 4, _ => by rw [upd_sput]; rfl
  | 5, _ => by rw [upd_sput]; rfl
  | 6, _ => by rw [upd_sput]; rfl
  | h + 7, hh => absurd hh (by omega)
section GW
variable {b : BX} {D : va_G} {A : Nat → Prop} {cy : Nat → ClassId} {ad : Nat → Nat} {cc : ByteArray} {nL fr lo pc : Nat} {lv : List (Nat × Value)} {rest : List Value} {g : SG}
theorem gX1_9 (h : Nat) (hh : h < 13) (X : Cx (kC b D A cy ad) cc RX1 nL fr lo) (hdg : decode cc pc = .ok (.getfield 9, 3)) (kk : Gd (kC b D A cy ad) nL (pc + 3) lv (.ref (ad (21 + 2 * h)) :: rest) g) : Gd (kC b D A cy ad) nL pc lv (.ref (ad (20 + 2 * h)) :: rest) g := gd_get X inX1 (20 + 2 * h) (wc_held cy ad g h hh) rfl 0 (by decide) q_47 rfl hdg kk
theorem gX0_42 (h : Nat) (hh : h < 13) (X : Cx (kC b D A cy ad) cc RX0 nL fr lo) (hdg : decode cc pc = .ok (.getfield 42, 3)) (kk : Gd (kC b D A cy ad) nL (pc + 3) lv (.ref (ad (21 + 2 * h)) :: rest) g) : Gd (kC b D A cy ad) nL pc lv (.ref (ad (20 + 2 * h)) :: rest) g := gd_get X inX1 (20 + 2 * h) (wc_held cy ad g h hh) rfl 0 (by decide) q_48 rfl hdg kk
theorem gX5_109 (h : Nat) (hh : h < 13) (X : Cx (kC b D A cy ad) cc RX5 nL fr lo) (hdg : decode cc pc = .ok (.getfield 109, 3)) (kk : Gd (kC b D A cy ad) nL (pc + 3) lv (.ref (ad (21 + 2 * h)) :: rest) g) : Gd (kC b D A cy ad) nL pc lv (.ref (ad (20 + 2 * h)) :: rest) g := gd_get X inX1 (20 + 2 * h) (wc_held cy ad g h hh) rfl 0 (by decide) q_49 rfl hdg kk
theorem gX1_25 (h : Nat) (hh : h < 13) (X : Cx (kC b D A cy ad) cc RX1 nL fr lo) (hdg : decode cc pc = .ok (.getfield 25, 3)) (kk : Gd (kC b D A cy ad) nL (pc + 3) lv (.int (g (20 + h) 0) :: rest) g) : Gd (kC b D A cy ad) nL pc lv (.ref (ad (20 + 2 * h)) :: rest) g := gd_get X inX1 (20 + 2 * h) (wc_held cy ad g h hh) rfl 1 (by decide) q_50 rfl hdg kk
theorem pX1_25 (h : Nat) (hh : h < 13) (X : Cx (kC b D A cy ad) cc RX1 nL fr lo) {v : Int32} (hdg : decode cc pc = .ok (.putfield 25, 3)) (kk : ∀ g1 : SG, g1 = sput g (20 + h) 0 v → Gd (kC b D A cy ad) nL (pc + 3) lv rest g1) : Gd (kC b D A cy ad) nL pc lv (.int v :: .ref (ad (20 + 2 * h)) :: rest) g := gd_put X inX1 tyX1 tyX1_ok nmX1 (20 + 2 * h) (wc_held cy ad g h hh) rfl 1 (by decide) q_50 rfl (ty := .int) (by decide +kernel) rfl rfl (Nat.le_of_ble_eq_true rfl) hdg (wc_heldset0 cy ad g v h hh) (kk _ rfl)
theorem gX5_45 (h : Nat) (hh : h < 13) (X : Cx (kC b D A cy ad) cc RX5 nL fr lo) (hdg : decode cc pc = .ok (.getfield 45, 3)) (kk : Gd (kC b D A cy ad) nL (pc + 3) lv (.int (g (20 + h) 0) :: rest) g) : Gd (kC b D A cy ad) nL pc lv (.ref (ad (20 + 2 * h)) :: rest) g := gd_get X inX1 (20 + 2 * h) (wc_held cy ad g h hh) rfl 1 (by decide) q_51 rfl hdg kk
theorem pX5_45 (h : Nat) (hh : h < 13) (X : Cx (kC b D A cy ad) cc RX5 nL fr lo) {v : Int32} (hdg : decode cc pc = .ok (.putfield 45, 3)) (kk : ∀ g1 : SG, g1 = sput g (20 + h) 0 v → Gd (kC b D A cy ad) nL (pc + 3) lv rest g1) : Gd (kC b D A cy ad) nL pc lv (.int v :: .ref (ad (20 + 2 * h)) :: rest) g := gd_put X inX1 tyX1 tyX1_ok nmX1 (20 + 2 * h) (wc_held cy ad g h hh) rfl 1 (by decide) q_51 rfl (ty := .int) (by decide +kernel) rfl rfl (Nat.le_of_ble_eq_true rfl) hdg (wc_heldset0 cy ad g v h hh) (kk _ rfl)
theorem gX0_33 (h : Nat) (hh : h < 13) (X : Cx (kC b D A cy ad) cc RX0 nL fr lo) (hdg : decode cc pc = .ok (.getfield 33, 3)) (kk : Gd (kC b D A cy ad) nL (pc + 3) lv (.int (g (20 + h) 0) :: rest) g) : Gd (kC b D A cy ad) nL pc lv (.ref (ad (20 + 2 * h)) :: rest) g := gd_get X inX1 (20 + 2 * h) (wc_held cy ad g h hh) rfl 1 (by decide) q_52 rfl hdg kk
theorem pX0_33 (h : Nat) (hh : h < 13) (X : Cx (kC b D A cy ad) cc RX0 nL fr lo) {v : Int32} (hdg : decode cc pc = .ok (.putfield 33, 3)) (kk : ∀ g1 : SG, g1 = sput g (20 + h) 0 v → Gd (kC b D A cy ad) nL (pc + 3) lv rest g1) : Gd (kC b D A cy ad) nL pc lv (.int v :: .ref (ad (20 + 2 * h)) :: rest) g := gd_put X inX1 tyX1 tyX1_ok nmX1 (20 + 2 * h) (wc_held cy ad g h hh) rfl 1 (by decide) q_52 rfl (ty := .int) (by decide +kernel) rfl rfl (Nat.le_of_ble_eq_true rfl) hdg (wc_heldset0 cy ad g v h hh) (kk _ rfl)
theorem gX1_15 (h : Nat) (hh : h < 13) (X : Cx (kC b D A cy ad) cc RX1 nL fr lo) (hdg : decode cc pc = .ok (.getfield 15, 3)) (kk : Gd (kC b D A cy ad) nL (pc + 3) lv (.int (g (20 + h) 1) :: rest) g) : Gd (kC b D A cy ad) nL pc lv (.ref (ad (20 + 2 * h)) :: rest) g := gd_get X inX1 (20 + 2 * h) (wc_held cy ad g h hh) rfl 2 (by decide) q_53 rfl hdg kk
theorem pX1_15 (h : Nat) (hh : h < 13) (X : Cx (kC b D A cy ad) cc RX1 nL fr lo) {v : Int32} (hdg : decode cc pc = .ok (.putfield 15, 3)) (kk : ∀ g1 : SG, g1 = sput g (20 + h) 1 v → Gd (kC b D A cy ad) nL (pc + 3) lv rest g1) : Gd (kC b D A cy ad) nL pc lv (.int v :: .ref (ad (20 + 2 * h)) :: rest) g := gd_put X inX1 tyX1 tyX1_ok nmX1 (20 + 2 * h) (wc_held cy ad g h hh) rfl 2 (by decide) q_53 rfl (ty := .int) (by decide +kernel) rfl rfl (Nat.le_of_ble_eq_true rfl) hdg (wc_heldset1 cy ad g v h hh) (kk _ rfl)
theorem gX5_68 (h : Nat) (hh : h < 13) (X : Cx (kC b D A cy ad) cc RX5 nL fr lo) (hdg : decode cc pc = .ok (.getfield 68, 3)) (kk : Gd (kC b D A cy ad) nL (pc + 3) lv (.int (g (20 + h) 1) :: rest) g) : Gd (kC b D A cy ad) nL pc lv (.ref (ad (20 + 2 * h)) :: rest) g := gd_get X inX1 (20 + 2 * h) (wc_held cy ad g h hh) rfl 2 (by decide) q_54 rfl hdg kk
theorem pX5_68 (h : Nat) (hh : h < 13) (X : Cx (kC b D A cy ad) cc RX5 nL fr lo) {v : Int32} (hdg : decode cc pc = .ok (.putfield 68, 3)) (kk : ∀ g1 : SG, g1 = sput g (20 + h) 1 v → Gd (kC b D A cy ad) nL (pc + 3) lv rest g1) : Gd (kC b D A cy ad) nL pc lv (.int v :: .ref (ad (20 + 2 * h)) :: rest) g := gd_put X inX1 tyX1 tyX1_ok nmX1 (20 + 2 * h) (wc_held cy ad g h hh) rfl 2 (by decide) q_54 rfl (ty := .int) (by decide +kernel) rfl rfl (Nat.le_of_ble_eq_true rfl) hdg (wc_heldset1 cy ad g v h hh) (kk _ rfl)
theorem gX1_19 (h : Nat) (hh : h < 13) (X : Cx (kC b D A cy ad) cc RX1 nL fr lo) (hdg : decode cc pc = .ok (.getfield 19, 3)) (kk : Gd (kC b D A cy ad) nL (pc + 3) lv (.int (g (20 + h) 2) :: rest) g) : Gd (kC b D A cy ad) nL pc lv (.ref (ad (20 + 2 * h)) :: rest) g := gd_get X inX1 (20 + 2 * h) (wc_held cy ad g h hh) rfl 3 (by decide) q_55 rfl hdg kk
theorem pX1_19 (h : Nat) (hh : h < 13) (X : Cx (kC b D A cy ad) cc RX1 nL fr lo) {v : Int32} (hdg : decode cc pc = .ok (.putfield 19, 3)) (kk : ∀ g1 : SG, g1 = sput g (20 + h) 2 v → Gd (kC b D A cy ad) nL (pc + 3) lv rest g1) : Gd (kC b D A cy ad) nL pc lv (.int v :: .ref (ad (20 + 2 * h)) :: rest) g := gd_put X inX1 tyX1 tyX1_ok nmX1 (20 + 2 * h) (wc_held cy ad g h hh) rfl 3 (by decide) q_55 rfl (ty := .int) (by decide +kernel) rfl rfl (Nat.le_of_ble_eq_true rfl) hdg (wc_heldset2 cy ad g v h hh) (kk _ rfl)
theorem gX5_71 (h : Nat) (hh : h < 13) (X : Cx (kC b D A cy ad) cc RX5 nL fr lo) (hdg : decode cc pc = .ok (.getfield 71, 3)) (kk : Gd (kC b D A cy ad) nL (pc + 3) lv (.int (g (20 + h) 2) :: rest) g) : Gd (kC b D A cy ad) nL pc lv (.ref (ad (20 + 2 * h)) :: rest) g := gd_get X inX1 (20 + 2 * h) (wc_held cy ad g h hh) rfl 3 (by decide) q_56 rfl hdg kk
theorem pX5_71 (h : Nat) (hh : h < 13) (X : Cx (kC b D A cy ad) cc RX5 nL fr lo) {v : Int32} (hdg : decode cc pc = .ok (.putfield 71, 3)) (kk : ∀ g1 : SG, g1 = sput g (20 + h) 2 v → Gd (kC b D A cy ad) nL (pc + 3) lv rest g1) : Gd (kC b D A cy ad) nL pc lv (.int v :: .ref (ad (20 + 2 * h)) :: rest) g := gd_put X inX1 tyX1 tyX1_ok nmX1 (20 + 2 * h) (wc_held cy ad g h hh) rfl 3 (by decide) q_56 rfl (ty := .int) (by decide +kernel) rfl rfl (Nat.le_of_ble_eq_true rfl) hdg (wc_heldset2 cy ad g v h hh) (kk _ rfl)
theorem gX1_22 (h : Nat) (hh : h < 13) (X : Cx (kC b D A cy ad) cc RX1 nL fr lo) (hdg : decode cc pc = .ok (.getfield 22, 3)) (kk : Gd (kC b D A cy ad) nL (pc + 3) lv (.int (g (20 + h) 3) :: rest) g) : Gd (kC b D A cy ad) nL pc lv (.ref (ad (20 + 2 * h)) :: rest) g := gd_get X inX1 (20 + 2 * h) (wc_held cy ad g h hh) rfl 4 (by decide) q_57 rfl hdg kk
theorem pX1_22 (h : Nat) (hh : h < 13) (X : Cx (kC b D A cy ad) cc RX1 nL fr lo) {v : Int32} (hdg : decode cc pc = .ok (.putfield 22, 3)) (kk : ∀ g1 : SG, g1 = sput g (20 + h) 3 v → Gd (kC b D A cy ad) nL (pc + 3) lv rest g1) : Gd (kC b D A cy ad) nL pc lv (.int v :: .ref (ad (20 + 2 * h)) :: rest) g := gd_put X inX1 tyX1 tyX1_ok nmX1 (20 + 2 * h) (wc_held cy ad g h hh) rfl 4 (by decide) q_57 rfl (ty := .int) (by decide +kernel) rfl rfl (Nat.le_of_ble_eq_true rfl) hdg (wc_heldset3 cy ad g v h hh) (kk _ rfl)
theorem gX5_85 (h : Nat) (hh : h < 13) (X : Cx (kC b D A cy ad) cc RX5 nL fr lo) (hdg : decode cc pc = .ok (.getfield 85, 3)) (kk : Gd (kC b D A cy ad) nL (pc + 3) lv (.int (g (20 + h) 3) :: rest) g) : Gd (kC b D A cy ad) nL pc lv (.ref (ad (20 + 2 * h)) :: rest) g := gd_get X inX1 (20 + 2 * h) (wc_held cy ad g h hh) rfl 4 (by decide) q_58 rfl hdg kk
theorem pX5_85 (h : Nat) (hh : h < 13) (X : Cx (kC b D A cy ad) cc RX5 nL fr lo) {v : Int32} (hdg : decode cc pc = .ok (.putfield 85, 3)) (kk : ∀ g1 : SG, g1 = sput g (20 + h) 3 v → Gd (kC b D A cy ad) nL (pc + 3) lv rest g1) : Gd (kC b D A cy ad) nL pc lv (.int v :: .ref (ad (20 + 2 * h)) :: rest) g := gd_put X inX1 tyX1 tyX1_ok nmX1 (20 + 2 * h) (wc_held cy ad g h hh) rfl 4 (by decide) q_58 rfl (ty := .int) (by decide +kernel) rfl rfl (Nat.le_of_ble_eq_true rfl) hdg (wc_heldset3 cy ad g v h hh) (kk _ rfl)
theorem gX1_28 (h : Nat) (hh : h < 13) (X : Cx (kC b D A cy ad) cc RX1 nL fr lo) (hdg : decode cc pc = .ok (.getfield 28, 3)) (kk : Gd (kC b D A cy ad) nL (pc + 3) lv (.int (g (20 + h) 4) :: rest) g) : Gd (kC b D A cy ad) nL pc lv (.ref (ad (20 + 2 * h)) :: rest) g := gd_get X inX1 (20 + 2 * h) (wc_held cy ad g h hh) rfl 5 (by decide) q_59 rfl hdg kk
theorem pX1_28 (h : Nat) (hh : h < 13) (X : Cx (kC b D A cy ad) cc RX1 nL fr lo) {v : Int32} (hdg : decode cc pc = .ok (.putfield 28, 3)) (kk : ∀ g1 : SG, g1 = sput g (20 + h) 4 v → Gd (kC b D A cy ad) nL (pc + 3) lv rest g1) : Gd (kC b D A cy ad) nL pc lv (.int v :: .ref (ad (20 + 2 * h)) :: rest) g := gd_put X inX1 tyX1 tyX1_ok nmX1 (20 + 2 * h) (wc_held cy ad g h hh) rfl 5 (by decide) q_59 rfl (ty := .int) (by decide +kernel) rfl rfl (Nat.le_of_ble_eq_true rfl) hdg (wc_heldset4 cy ad g v h hh) (kk _ rfl)
theorem gX5_88 (h : Nat) (hh : h < 13) (X : Cx (kC b D A cy ad) cc RX5 nL fr lo) (hdg : decode cc pc = .ok (.getfield 88, 3)) (kk : Gd (kC b D A cy ad) nL (pc + 3) lv (.int (g (20 + h) 4) :: rest) g) : Gd (kC b D A cy ad) nL pc lv (.ref (ad (20 + 2 * h)) :: rest) g := gd_get X inX1 (20 + 2 * h) (wc_held cy ad g h hh) rfl 5 (by decide) q_60 rfl hdg kk
theorem pX5_88 (h : Nat) (hh : h < 13) (X : Cx (kC b D A cy ad) cc RX5 nL fr lo) {v : Int32} (hdg : decode cc pc = .ok (.putfield 88, 3)) (kk : ∀ g1 : SG, g1 = sput g (20 + h) 4 v → Gd (kC b D A cy ad) nL (pc + 3) lv rest g1) : Gd (kC b D A cy ad) nL pc lv (.int v :: .ref (ad (20 + 2 * h)) :: rest) g := gd_put X inX1 tyX1 tyX1_ok nmX1 (20 + 2 * h) (wc_held cy ad g h hh) rfl 5 (by decide) q_60 rfl (ty := .int) (by decide +kernel) rfl rfl (Nat.le_of_ble_eq_true rfl) hdg (wc_heldset4 cy ad g v h hh) (kk _ rfl)
theorem gX2_11 (X : Cx (kC b D A cy ad) cc RX2 nL fr lo) (hdg : decode cc pc = .ok (.getfield 11, 3)) (kk : Gd (kC b D A cy ad) nL (pc + 3) lv (.ref (ad 2) :: rest) g) : Gd (kC b D A cy ad) nL pc lv (.ref (ad 1) :: rest) g := gd_get X inX2 1 rfl rfl 0 (by decide) q_84 rfl hdg kk
theorem gX2_18 (X : Cx (kC b D A cy ad) cc RX2 nL fr lo) (hdg : decode cc pc = .ok (.getfield 18, 3)) (kk : Gd (kC b D A cy ad) nL (pc + 3) lv (.int (g 0 2) :: rest) g) : Gd (kC b D A cy ad) nL pc lv (.ref (ad 1) :: rest) g := gd_get X inX2 1 rfl rfl 1 (by decide) q_85 rfl hdg kk
theorem pX2_18 (X : Cx (kC b D A cy ad) cc RX2 nL fr lo) {v : Int32} (hdg : decode cc pc = .ok (.putfield 18, 3)) (kk : ∀ g1 : SG, g1 = sput g 0 2 v → Gd (kC b D A cy ad) nL (pc + 3) lv rest g1) : Gd (kC b D A cy ad) nL pc lv (.int v :: .ref (ad 1) :: rest) g := gd_put X inX2 tyX2 tyX2_ok nmX2 1 rfl rfl 1 (by decide) q_85 rfl (ty := .int) (by decide +kernel) rfl rfl (Nat.le_of_ble_eq_true rfl) hdg rfl (kk _ rfl)
theorem gX2_26 (X : Cx (kC b D A cy ad) cc RX2 nL fr lo) (hdg : decode cc pc = .ok (.getfield 26, 3)) (kk : Gd (kC b D A cy ad) nL (pc + 3) lv (.int (g 0 3) :: rest) g) : Gd (kC b D A cy ad) nL pc lv (.ref (ad 1) :: rest) g := gd_get X inX2 1 rfl rfl 2 (by decide) q_86 rfl hdg kk
theorem pX2_26 (X : Cx (kC b D A cy ad) cc RX2 nL fr lo) {v : Int32} (hdg : decode cc pc = .ok (.putfield 26, 3)) (kk : ∀ g1 : SG, g1 = sput g 0 3 v → Gd (kC b D A cy ad) nL (pc + 3) lv rest g1) : Gd (kC b D A cy ad) nL pc lv (.int v :: .ref (ad 1) :: rest) g := gd_put X inX2 tyX2 tyX2_ok nmX2 1 rfl rfl 2 (by decide) q_86 rfl (ty := .int) (by decide +kernel) rfl rfl (Nat.le_of_ble_eq_true rfl) hdg rfl (kk _ rfl)
theorem gX5_105 (X : Cx (kC b D A cy ad) cc RX5 nL fr lo) (hdg : decode cc pc = .ok (.getfield 105, 3)) (kk : Gd (kC b D A cy ad) nL (pc + 3) lv (.int (g 0 3) :: rest) g) : Gd (kC b D A cy ad) nL pc lv (.ref (ad 1) :: rest) g := gd_get X inX2 1 rfl rfl 2 (by decide) q_87 rfl hdg kk
theorem pX5_105 (X : Cx (kC b D A cy ad) cc RX5 nL fr lo) {v : Int32} (hdg : decode cc pc = .ok (.putfield 105, 3)) (kk : ∀ g1 : SG, g1 = sput g 0 3 v → Gd (kC b D A cy ad) nL (pc + 3) lv rest g1) : Gd (kC b D A cy ad) nL pc lv (.int v :: .ref (ad 1) :: rest) g := gd_put X inX2 tyX2 tyX2_ok nmX2 1 rfl rfl 2 (by decide) q_87 rfl (ty := .int) (by decide +kernel) rfl rfl (Nat.le_of_ble_eq_true rfl) hdg rfl (kk _ rfl)
theorem gX0_9 (X : Cx (kC b D A cy ad) cc RX0 nL fr lo) (hdg : decode cc pc = .ok (.getfield 9, 3)) (kk : Gd (kC b D A cy ad) nL (pc + 3) lv (.ref (ad 6) :: rest) g) : Gd (kC b D A cy ad) nL pc lv (.ref (ad 5) :: rest) g := gd_get X inX0 5 rfl rfl 0 (by decide) q_101 rfl hdg kk
theorem gX0_15 (X : Cx (kC b D A cy ad) cc RX0 nL fr lo) (hdg : decode cc pc = .ok (.getfield 15, 3)) (kk : Gd (kC b D A cy ad) nL (pc + 3) lv (.ref (ad 7) :: rest) g) : Gd (kC b D A cy ad) nL pc lv (.ref (ad 5) :: rest) g := gd_get X inX0 5 rfl rfl 1 (by decide) q_102 rfl hdg kk
theorem gX0_18 (X : Cx (kC b D A cy ad) cc RX0 nL fr lo) (hdg : decode cc pc = .ok (.getfield 18, 3)) (kk : Gd (kC b D A cy ad) nL (pc + 3) lv (.ref (ad 8) :: rest) g) : Gd (kC b D A cy ad) nL pc lv (.ref (ad 5) :: rest) g := gd_get X inX0 5 rfl rfl 2 (by decide) q_103 rfl hdg kk
theorem gX0_46 (X : Cx (kC b D A cy ad) cc RX0 nL fr lo) (hdg : decode cc pc = .ok (.getfield 46, 3)) (kk : Gd (kC b D A cy ad) nL (pc + 3) lv (.int (g 0 4) :: rest) g) : Gd (kC b D A cy ad) nL pc lv (.ref (ad 5) :: rest) g := gd_get X inX0 5 rfl rfl 3 (by decide) q_104 rfl hdg kk
theorem pX0_46 (X : Cx (kC b D A cy ad) cc RX0 nL fr lo) {v : Int32} (hdg : decode cc pc = .ok (.putfield 46, 3)) (kk : ∀ g1 : SG, g1 = sput g 0 4 v → Gd (kC b D A cy ad) nL (pc + 3) lv rest g1) : Gd (kC b D A cy ad) nL pc lv (.int v :: .ref (ad 5) :: rest) g := gd_put X inX0 tyX0 tyX0_ok nmX0 5 rfl rfl 3 (by decide) q_104 rfl (ty := .int) (by decide +kernel) rfl rfl (Nat.le_of_ble_eq_true rfl) hdg rfl (kk _ rfl)
theorem gX5_185 (X : Cx (kC b D A cy ad) cc RX5 nL fr lo) (hdg : decode cc pc = .ok (.getfield 185, 3)) (kk : Gd (kC b D A cy ad) nL (pc + 3) lv (.int (g 0 4) :: rest) g) : Gd (kC b D A cy ad) nL pc lv (.ref (ad 5) :: rest) g := gd_get X inX0 5 rfl rfl 3 (by decide) q_105 rfl hdg kk
theorem pX5_185 (X : Cx (kC b D A cy ad) cc RX5 nL fr lo) {v : Int32} (hdg : decode cc pc = .ok (.putfield 185, 3)) (kk : ∀ g1 : SG, g1 = sput g 0 4 v → Gd (kC b D A cy ad) nL (pc + 3) lv rest g1) : Gd (kC b D A cy ad) nL pc lv (.int v :: .ref (ad 5) :: rest) g := gd_put X inX0 tyX0 tyX0_ok nmX0 5 rfl rfl 3 (by decide) q_105 rfl (ty := .int) (by decide +kernel) rfl rfl (Nat.le_of_ble_eq_true rfl) hdg rfl (kk _ rfl)
theorem gX0_29 (X : Cx (kC b D A cy ad) cc RX0 nL fr lo) (hdg : decode cc pc = .ok (.getfield 29, 3)) (kk : Gd (kC b D A cy ad) nL (pc + 3) lv (.int (g 0 5) :: rest) g) : Gd (kC b D A cy ad) nL pc lv (.ref (ad 5) :: rest) g := gd_get X inX0 5 rfl rfl 4 (by decide) q_106 rfl hdg kk
theorem pX0_29 (X : Cx (kC b D A cy ad) cc RX0 nL fr lo) {v : Int32} (hdg : decode cc pc = .ok (.putfield 29, 3)) (kk : ∀ g1 : SG, g1 = sput g 0 5 v → Gd (kC b D A cy ad) nL (pc + 3) lv rest g1) : Gd (kC b D A cy ad) nL pc lv (.int v :: .ref (ad 5) :: rest) g := gd_put X inX0 tyX0 tyX0_ok nmX0 5 rfl rfl 4 (by decide) q_106 rfl (ty := .int) (by decide +kernel) rfl rfl (Nat.le_of_ble_eq_true rfl) hdg rfl (kk _ rfl)
theorem gX4_30 (X : Cx (kC b D A cy ad) cc RX4 nL fr lo) (hdg : decode cc pc = .ok (.getfield 30, 3)) (kk : Gd (kC b D A cy ad) nL (pc + 3) lv (.int (g 0 5) :: rest) g) : Gd (kC b D A cy ad) nL pc lv (.ref (ad 5) :: rest) g := gd_get X inX0 5 rfl rfl 4 (by decide) q_107 rfl hdg kk
theorem pX4_30 (X : Cx (kC b D A cy ad) cc RX4 nL fr lo) {v : Int32} (hdg : decode cc pc = .ok (.putfield 30, 3)) (kk : ∀ g1 : SG, g1 = sput g 0 5 v → Gd (kC b D A cy ad) nL (pc + 3) lv rest g1) : Gd (kC b D A cy ad) nL pc lv (.int v :: .ref (ad 5) :: rest) g := gd_put X inX0 tyX0 tyX0_ok nmX0 5 rfl rfl 4 (by decide) q_107 rfl (ty := .int) (by decide +kernel) rfl rfl (Nat.le_of_ble_eq_true rfl) hdg rfl (kk _ rfl)
theorem gX5_117 (X : Cx (kC b D A cy ad) cc RX5 nL fr lo) (hdg : decode cc pc = .ok (.getfield 117, 3)) (kk : Gd (kC b D A cy ad) nL (pc + 3) lv (.int (g 0 5) :: rest) g) : Gd (kC b D A cy ad) nL pc lv (.ref (ad 5) :: rest) g := gd_get X inX0 5 rfl rfl 4 (by decide) q_108 rfl hdg kk
theorem pX5_117 (X : Cx (kC b D A cy ad) cc RX5 nL fr lo) {v : Int32} (hdg : decode cc pc = .ok (.putfield 117, 3)) (kk : ∀ g1 : SG, g1 = sput g 0 5 v → Gd (kC b D A cy ad) nL (pc + 3) lv rest g1) : Gd (kC b D A cy ad) nL pc lv (.int v :: .ref (ad 5) :: rest) g := gd_put X inX0 tyX0 tyX0_ok nmX0 5 rfl rfl 4 (by decide) q_108 rfl (ty := .int) (by decide +kernel) rfl rfl (Nat.le_of_ble_eq_true rfl) hdg rfl (kk _ rfl)
theorem gX4_9 (X : Cx (kC b D A cy ad) cc RX4 nL fr lo) (hdg : decode cc pc = .ok (.getfield 9, 3)) (kk : Gd (kC b D A cy ad) nL (pc + 3) lv (.ref (ad 10) :: rest) g) : Gd (kC b D A cy ad) nL pc lv (.ref (ad 9) :: rest) g := gd_get X inX4 9 rfl rfl 0 (by decide) q_130 rfl hdg kk
theorem gX4_15 (X : Cx (kC b D A cy ad) cc RX4 nL fr lo) (hdg : decode cc pc = .ok (.getfield 15, 3)) (kk : Gd (kC b D A cy ad) nL (pc + 3) lv (.ref (ad 11) :: rest) g) : Gd (kC b D A cy ad) nL pc lv (.ref (ad 9) :: rest) g := gd_get X inX4 9 rfl rfl 1 (by decide) q_131 rfl hdg kk
theorem gX4_20 (X : Cx (kC b D A cy ad) cc RX4 nL fr lo) (hdg : decode cc pc = .ok (.getfield 20, 3)) (kk : Gd (kC b D A cy ad) nL (pc + 3) lv (.ref (ad 12) :: rest) g) : Gd (kC b D A cy ad) nL pc lv (.ref (ad 9) :: rest) g := gd_get X inX4 9 rfl rfl 2 (by decide) q_132 rfl hdg kk
theorem gX4_43 (X : Cx (kC b D A cy ad) cc RX4 nL fr lo) (hdg : decode cc pc = .ok (.getfield 43, 3)) (kk : Gd (kC b D A cy ad) nL (pc + 3) lv (.int (g 0 6) :: rest) g) : Gd (kC b D A cy ad) nL pc lv (.ref (ad 9) :: rest) g := gd_get X inX4 9 rfl rfl 3 (by decide) q_133 rfl hdg kk
theorem pX4_43 (X : Cx (kC b D A cy ad) cc RX4 nL fr lo) {v : Int32} (hdg : decode cc pc = .ok (.putfield 43, 3)) (kk : ∀ g1 : SG, g1 = sput g 0 6 v → Gd (kC b D A cy ad) nL (pc + 3) lv rest g1) : Gd (kC b D A cy ad) nL pc lv (.int v :: .ref (ad 9) :: rest) g := gd_put X inX4 tyX4 tyX4_ok nmX4 9 rfl rfl 3 (by decide) q_133 rfl (ty := .int) (by decide +kernel) rfl rfl (Nat.le_of_ble_eq_true rfl) hdg rfl (kk _ rfl)
theorem gX5_133 (X : Cx (kC b D A cy ad) cc RX5 nL fr lo) (hdg : decode cc pc = .ok (.getfield 133, 3)) (kk : Gd (kC b D A cy ad) nL (pc + 3) lv (.int (g 0 6) :: rest) g) : Gd (kC b D A cy ad) nL pc lv (.ref (ad 9) :: rest) g := gd_get X inX4 9 rfl rfl 3 (by decide) q_134 rfl hdg kk
theorem pX5_133 (X : Cx (kC b D A cy ad) cc RX5 nL fr lo) {v : Int32} (hdg : decode cc pc = .ok (.putfield 133, 3)) (kk : ∀ g1 : SG, g1 = sput g 0 6 v → Gd (kC b D A cy ad) nL (pc + 3) lv rest g1) : Gd (kC b D A cy ad) nL pc lv (.int v :: .ref (ad 9) :: rest) g := gd_put X inX4 tyX4 tyX4_ok nmX4 9 rfl rfl 3 (by decide) q_134 rfl (ty := .int) (by decide +kernel) rfl rfl (Nat.le_of_ble_eq_true rfl) hdg rfl (kk _ rfl)
theorem gX4_75 (X : Cx (kC b D A cy ad) cc RX4 nL fr lo) (hdg : decode cc pc = .ok (.getfield 75, 3)) (kk : Gd (kC b D A cy ad) nL (pc + 3) lv (.int (g 0 7) :: rest) g) : Gd (kC b D A cy ad) nL pc lv (.ref (ad 9) :: rest) g := gd_get X inX4 9 rfl rfl 4 (by decide) q_135 rfl hdg kk
theorem pX4_75 (X : Cx (kC b D A cy ad) cc RX4 nL fr lo) {v : Int32} (hdg : decode cc pc = .ok (.putfield 75, 3)) (kk : ∀ g1 : SG, g1 = sput g 0 7 v → Gd (kC b D A cy ad) nL (pc + 3) lv rest g1) : Gd (kC b D A cy ad) nL pc lv (.int v :: .ref (ad 9) :: rest) g := gd_put X inX4 tyX4 tyX4_ok nmX4 9 rfl rfl 4 (by decide) q_135 rfl (ty := .int) (by decide +kernel) rfl rfl (Nat.le_of_ble_eq_true rfl) hdg rfl (kk _ rfl)
theorem gX5_142 (X : Cx (kC b D A cy ad) cc RX5 nL fr lo) (hdg : decode cc pc = .ok (.getfield 142, 3)) (kk : Gd (kC b D A cy ad) nL (pc + 3) lv (.int (g 0 7) :: rest) g) : Gd (kC b D A cy ad) nL pc lv (.ref (ad 9) :: rest) g := gd_get X inX4 9 rfl rfl 4 (by decide) q_136 rfl hdg kk
theorem pX5_142 (X : Cx (kC b D A cy ad) cc RX5 nL fr lo) {v : Int32} (hdg : decode cc pc = .ok (.putfield 142, 3)) (kk : ∀ g1 : SG, g1 = sput g 0 7 v → Gd (kC b D A cy ad) nL (pc + 3) lv rest g1) : Gd (kC b D A cy ad) nL pc lv (.int v :: .ref (ad 9) :: rest) g := gd_put X inX4 tyX4 tyX4_ok nmX4 9 rfl rfl 4 (by decide) q_136 rfl (ty := .int) (by decide +kernel) rfl rfl (Nat.le_of_ble_eq_true rfl) hdg rfl (kk _ rfl)
theorem gX4_78 (X : Cx (kC b D A cy ad) cc RX4 nL fr lo) (hdg : decode cc pc = .ok (.getfield 78, 3)) (kk : Gd (kC b D A cy ad) nL (pc + 3) lv (.int (g 0 8) :: rest) g) : Gd (kC b D A cy ad) nL pc lv (.ref (ad 9) :: rest) g := gd_get X inX4 9 rfl rfl 5 (by decide) q_137 rfl hdg kk
theorem pX4_78 (X : Cx (kC b D A cy ad) cc RX4 nL fr lo) {v : Int32} (hdg : decode cc pc = .ok (.putfield 78, 3)) (kk : ∀ g1 : SG, g1 = sput g 0 8 v → Gd (kC b D A cy ad) nL (pc + 3) lv rest g1) : Gd (kC b D A cy ad) nL pc lv (.int v :: .ref (ad 9) :: rest) g := gd_put X inX4 tyX4 tyX4_ok nmX4 9 rfl rfl 5 (by decide) q_137 rfl (ty := .int) (by decide +kernel) rfl rfl (Nat.le_of_ble_eq_true rfl) hdg rfl (kk _ rfl)
theorem gX5_145 (X : Cx (kC b D A cy ad) cc RX5 nL fr lo) (hdg : decode cc pc = .ok (.getfield 145, 3)) (kk : Gd (kC b D A cy ad) nL (pc + 3) lv (.int (g 0 8) :: rest) g) : Gd (kC b D A cy ad) nL pc lv (.ref (ad 9) :: rest) g := gd_get X inX4 9 rfl rfl 5 (by decide) q_138 rfl hdg kk
theorem pX5_145 (X : Cx (kC b D A cy ad) cc RX5 nL fr lo) {v : Int32} (hdg : decode cc pc = .ok (.putfield 145, 3)) (kk : ∀ g1 : SG, g1 = sput g 0 8 v → Gd (kC b D A cy ad) nL (pc + 3) lv rest g1) : Gd (kC b D A cy ad) nL pc lv (.int v :: .ref (ad 9) :: rest) g := gd_put X inX4 tyX4 tyX4_ok nmX4 9 rfl rfl 5 (by decide) q_138 rfl (ty := .int) (by decide +kernel) rfl rfl (Nat.le_of_ble_eq_true rfl) hdg rfl (kk _ rfl)
theorem gX4_52 (X : Cx (kC b D A cy ad) cc RX4 nL fr lo) (hdg : decode cc pc = .ok (.getfield 52, 3)) (kk : Gd (kC b D A cy ad) nL (pc + 3) lv (.int (g 0 9) :: rest) g) : Gd (kC b D A cy ad) nL pc lv (.ref (ad 9) :: rest) g := gd_get X inX4 9 rfl rfl 6 (by decide) q_139 rfl hdg kk
theorem pX4_52 (X : Cx (kC b D A cy ad) cc RX4 nL fr lo) {v : Int32} (hdg : decode cc pc = .ok (.putfield 52, 3)) (kk : ∀ g1 : SG, g1 = sput g 0 9 v → Gd (kC b D A cy ad) nL (pc + 3) lv rest g1) : Gd (kC b D A cy ad) nL pc lv (.int v :: .ref (ad 9) :: rest) g := gd_put X inX4 tyX4 tyX4_ok nmX4 9 rfl rfl 6 (by decide) q_139 rfl (ty := .int) (by decide +kernel) rfl rfl (Nat.le_of_ble_eq_true rfl) hdg rfl (kk _ rfl)
theorem gX5_82 (X : Cx (kC b D A cy ad) cc RX5 nL fr lo) (hdg : decode cc pc = .ok (.getfield 82, 3)) (kk : Gd (kC b D A cy ad) nL (pc + 3) lv (.int (g 0 9) :: rest) g) : Gd (kC b D A cy ad) nL pc lv (.ref (ad 9) :: rest) g := gd_get X inX4 9 rfl rfl 6 (by decide) q_140 rfl hdg kk
theorem pX5_82 (X : Cx (kC b D A cy ad) cc RX5 nL fr lo) {v : Int32} (hdg : decode cc pc = .ok (.putfield 82, 3)) (kk : ∀ g1 : SG, g1 = sput g 0 9 v → Gd (kC b D A cy ad) nL (pc + 3) lv rest g1) : Gd (kC b D A cy ad) nL pc lv (.int v :: .ref (ad 9) :: rest) g := gd_put X inX4 tyX4 tyX4_ok nmX4 9 rfl rfl 6 (by decide) q_140 rfl (ty := .int) (by decide +kernel) rfl rfl (Nat.le_of_ble_eq_true rfl) hdg rfl (kk _ rfl)
theorem gX5_12 (X : Cx (kC b D A cy ad) cc RX5 nL fr lo) (hdg : decode cc pc = .ok (.getfield 12, 3)) (kk : Gd (kC b D A cy ad) nL (pc + 3) lv (.ref (ad 20) :: rest) g) : Gd (kC b D A cy ad) nL pc lv (.ref (ad 0) :: rest) g := gd_get X inX5 0 rfl rfl 0 (by decide) q_156 rfl hdg kk
theorem gX5_19 (X : Cx (kC b D A cy ad) cc RX5 nL fr lo) (hdg : decode cc pc = .ok (.getfield 19, 3)) (kk : Gd (kC b D A cy ad) nL (pc + 3) lv (.ref (ad 1) :: rest) g) : Gd (kC b D A cy ad) nL pc lv (.ref (ad 0) :: rest) g := gd_get X inX5 0 rfl rfl 1 (by decide) q_157 rfl hdg kk
theorem gX5_23 (X : Cx (kC b D A cy ad) cc RX5 nL fr lo) (hdg : decode cc pc = .ok (.getfield 23, 3)) (kk : Gd (kC b D A cy ad) nL (pc + 3) lv (.ref (ad 3) :: rest) g) : Gd (kC b D A cy ad) nL pc lv (.ref (ad 0) :: rest) g := gd_get X inX5 0 rfl rfl 2 (by decide) q_158 rfl hdg kk
theorem gX5_27 (X : Cx (kC b D A cy ad) cc RX5 nL fr lo) (hdg : decode cc pc = .ok (.getfield 27, 3)) (kk : Gd (kC b D A cy ad) nL (pc + 3) lv (.ref (ad 4) :: rest) g) : Gd (kC b D A cy ad) nL pc lv (.ref (ad 0) :: rest) g := gd_get X inX5 0 rfl rfl 3 (by decide) q_159 rfl hdg kk
theorem gX5_34 (X : Cx (kC b D A cy ad) cc RX5 nL fr lo) (hdg : decode cc pc = .ok (.getfield 34, 3)) (kk : Gd (kC b D A cy ad) nL (pc + 3) lv (.ref (ad 5) :: rest) g) : Gd (kC b D A cy ad) nL pc lv (.ref (ad 0) :: rest) g := gd_get X inX5 0 rfl rfl 4 (by decide) q_160 rfl hdg kk
theorem gX5_41 (X : Cx (kC b D A cy ad) cc RX5 nL fr lo) (hdg : decode cc pc = .ok (.getfield 41, 3)) (kk : Gd (kC b D A cy ad) nL (pc + 3) lv (.ref (ad 9) :: rest) g) : Gd (kC b D A cy ad) nL pc lv (.ref (ad 0) :: rest) g := gd_get X inX5 0 rfl rfl 5 (by decide) q_161 rfl hdg kk
theorem gX5_188 (X : Cx (kC b D A cy ad) cc RX5 nL fr lo) (hdg : decode cc pc = .ok (.getfield 188, 3)) (kk : Gd (kC b D A cy ad) nL (pc + 3) lv (.int (g 0 0) :: rest) g) : Gd (kC b D A cy ad) nL pc lv (.ref (ad 0) :: rest) g := gd_get X inX5 0 rfl rfl 6 (by decide) q_162 rfl hdg kk
theorem pX5_188 (X : Cx (kC b D A cy ad) cc RX5 nL fr lo) {v : Int32} (hn : narrow .boolean (.int v) = .int v) (hf : fits .boolean (.int v) = true) (hdg : decode cc pc = .ok (.putfield 188, 3)) (kk : ∀ g1 : SG, g1 = sput g 0 0 v → Gd (kC b D A cy ad) nL (pc + 3) lv rest g1) : Gd (kC b D A cy ad) nL pc lv (.int v :: .ref (ad 0) :: rest) g := gd_put X inX5 tyX5 tyX5_ok nmX5 0 rfl rfl 6 (by decide) q_162 rfl (ty := .boolean) (by decide +kernel) hn hf (Nat.le_of_ble_eq_true rfl) hdg rfl (kk _ rfl)
theorem gX5_192 (X : Cx (kC b D A cy ad) cc RX5 nL fr lo) (hdg : decode cc pc = .ok (.getfield 192, 3)) (kk : Gd (kC b D A cy ad) nL (pc + 3) lv (.int (g 0 1) :: rest) g) : Gd (kC b D A cy ad) nL pc lv (.ref (ad 0) :: rest) g := gd_get X inX5 0 rfl rfl 7 (by decide) q_163 rfl hdg kk
theorem pX5_192 (X : Cx (kC b D A cy ad) cc RX5 nL fr lo) {v : Int32} (hn : narrow .boolean (.int v) = .int v) (hf : fits .boolean (.int v) = true) (hdg : decode cc pc = .ok (.putfield 192, 3)) (kk : ∀ g1 : SG, g1 = sput g 0 1 v → Gd (kC b D A cy ad) nL (pc + 3) lv rest g1) : Gd (kC b D A cy ad) nL pc lv (.int v :: .ref (ad 0) :: rest) g := gd_put X inX5 tyX5 tyX5_ok nmX5 0 rfl rfl 7 (by decide) q_163 rfl (ty := .boolean) (by decide +kernel) hn hf (Nat.le_of_ble_eq_true rfl) hdg rfl (kk _ rfl)
theorem gX6_7 (X : Cx (kM b D A cy ad) cc RX6 nL fr lo) (hdg : decode cc pc = .ok (.getfield 7, 3)) (kk : Gd (kM b D A cy ad) nL (pc + 3) lv (.ref (ad 1) :: rest) g) : Gd (kM b D A cy ad) nL pc lv (.ref (ad 0) :: rest) g := gd_get X inX6 0 rfl rfl 0 (by decide) q_453 rfl hdg kk
theorem gX6_55 (X : Cx (kM b D A cy ad) cc RX6 nL fr lo) (hdg : decode cc pc = .ok (.getfield 55, 3)) (kk : Gd (kM b D A cy ad) nL (pc + 3) lv (.int (g 0 0) :: rest) g) : Gd (kM b D A cy ad) nL pc lv (.ref (ad 0) :: rest) g := gd_get X inX6 0 rfl rfl 1 (by decide) q_454 rfl hdg kk
theorem pX6_55 (X : Cx (kM b D A cy ad) cc RX6 nL fr lo) {v : Int32} (hdg : decode cc pc = .ok (.putfield 55, 3)) (kk : ∀ g1 : SG, g1 = sput g 0 0 v → Gd (kM b D A cy ad) nL (pc + 3) lv rest g1) : Gd (kM b D A cy ad) nL pc lv (.int v :: .ref (ad 0) :: rest) g := gd_put X inX6 tyX6 tyX6_ok nmX6 0 rfl rfl 1 (by decide) q_454 rfl (ty := .int) (by decide +kernel) rfl rfl (Nat.le_of_ble_eq_true rfl) hdg rfl (kk _ rfl)
theorem gX6_51 (X : Cx (kM b D A cy ad) cc RX6 nL fr lo) (hdg : decode cc pc = .ok (.getfield 51, 3)) (kk : Gd (kM b D A cy ad) nL (pc + 3) lv (.int (g 0 1) :: rest) g) : Gd (kM b D A cy ad) nL pc lv (.ref (ad 0) :: rest) g := gd_get X inX6 0 rfl rfl 2 (by decide) q_455 rfl hdg kk
theorem pX6_51 (X : Cx (kM b D A cy ad) cc RX6 nL fr lo) {v : Int32} (hdg : decode cc pc = .ok (.putfield 51, 3)) (kk : ∀ g1 : SG, g1 = sput g 0 1 v → Gd (kM b D A cy ad) nL (pc + 3) lv rest g1) : Gd (kM b D A cy ad) nL pc lv (.int v :: .ref (ad 0) :: rest) g := gd_put X inX6 tyX6 tyX6_ok nmX6 0 rfl rfl 2 (by decide) q_455 rfl (ty := .int) (by decide +kernel) rfl rfl (Nat.le_of_ble_eq_true rfl) hdg rfl (kk _ rfl)
theorem gX6_13 (X : Cx (kM b D A cy ad) cc RX6 nL fr lo) (hdg : decode cc pc = .ok (.getfield 13, 3)) (kk : Gd (kM b D A cy ad) nL (pc + 3) lv (.ref (ad 2) :: rest) g) : Gd (kM b D A cy ad) nL pc lv (.ref (ad 0) :: rest) g := gd_get X inX6 0 rfl rfl 3 (by decide) q_456 rfl hdg kk
theorem gX6_16 (X : Cx (kM b D A cy ad) cc RX6 nL fr lo) (hdg : decode cc pc = .ok (.getfield 16, 3)) (kk : Gd (kM b D A cy ad) nL (pc + 3) lv (.ref (ad 3) :: rest) g) : Gd (kM b D A cy ad) nL pc lv (.ref (ad 0) :: rest) g := gd_get X inX6 0 rfl rfl 4 (by decide) q_457 rfl hdg kk
theorem gX6_20 (X : Cx (kM b D A cy ad) cc RX6 nL fr lo) (hdg : decode cc pc = .ok (.getfield 20, 3)) (kk : Gd (kM b D A cy ad) nL (pc + 3) lv (.ref (ad 4) :: rest) g) : Gd (kM b D A cy ad) nL pc lv (.ref (ad 0) :: rest) g := gd_get X inX6 0 rfl rfl 5 (by decide) q_458 rfl hdg kk
theorem gX6_58 (X : Cx (kM b D A cy ad) cc RX6 nL fr lo) (hdg : decode cc pc = .ok (.getfield 58, 3)) (kk : Gd (kM b D A cy ad) nL (pc + 3) lv (.int (g 0 2) :: rest) g) : Gd (kM b D A cy ad) nL pc lv (.ref (ad 0) :: rest) g := gd_get X inX6 0 rfl rfl 6 (by decide) q_459 rfl hdg kk
theorem pX6_58 (X : Cx (kM b D A cy ad) cc RX6 nL fr lo) {v : Int32} (hn : narrow .boolean (.int v) = .int v) (hf : fits .boolean (.int v) = true) (hdg : decode cc pc = .ok (.putfield 58, 3)) (kk : ∀ g1 : SG, g1 = sput g 0 2 v → Gd (kM b D A cy ad) nL (pc + 3) lv rest g1) : Gd (kM b D A cy ad) nL pc lv (.int v :: .ref (ad 0) :: rest) g := gd_put X inX6 tyX6 tyX6_ok nmX6 0 rfl rfl 6 (by decide) q_459 rfl (ty := .boolean) (by decide +kernel) hn hf (Nat.le_of_ble_eq_true rfl) hdg rfl (kk _ rfl)
theorem gX6_76 (X : Cx (kM b D A cy ad) cc RX6 nL fr lo) (hdg : decode cc pc = .ok (.getfield 76, 3)) (kk : Gd (kM b D A cy ad) nL (pc + 3) lv (.int (g 0 3) :: rest) g) : Gd (kM b D A cy ad) nL pc lv (.ref (ad 0) :: rest) g := gd_get X inX6 0 rfl rfl 7 (by decide) q_460 rfl hdg kk
theorem pX6_76 (X : Cx (kM b D A cy ad) cc RX6 nL fr lo) {v : Int32} (hdg : decode cc pc = .ok (.putfield 76, 3)) (kk : ∀ g1 : SG, g1 = sput g 0 3 v → Gd (kM b D A cy ad) nL (pc + 3) lv rest g1) : Gd (kM b D A cy ad) nL pc lv (.int v :: .ref (ad 0) :: rest) g := gd_put X inX6 tyX6 tyX6_ok nmX6 0 rfl rfl 7 (by decide) q_460 rfl (ty := .int) (by decide +kernel) rfl rfl (Nat.le_of_ble_eq_true rfl) hdg rfl (kk _ rfl)
theorem gX6_79 (X : Cx (kM b D A cy ad) cc RX6 nL fr lo) (hdg : decode cc pc = .ok (.getfield 79, 3)) (kk : Gd (kM b D A cy ad) nL (pc + 3) lv (.int (g 0 4) :: rest) g) : Gd (kM b D A cy ad) nL pc lv (.ref (ad 0) :: rest) g := gd_get X inX6 0 rfl rfl 8 (by decide) q_461 rfl hdg kk
theorem pX6_79 (X : Cx (kM b D A cy ad) cc RX6 nL fr lo) {v : Int32} (hdg : decode cc pc = .ok (.putfield 79, 3)) (kk : ∀ g1 : SG, g1 = sput g 0 4 v → Gd (kM b D A cy ad) nL (pc + 3) lv rest g1) : Gd (kM b D A cy ad) nL pc lv (.int v :: .ref (ad 0) :: rest) g := gd_put X inX6 tyX6 tyX6_ok nmX6 0 rfl rfl 8 (by decide) q_461 rfl (ty := .int) (by decide +kernel) rfl rfl (Nat.le_of_ble_eq_true rfl) hdg rfl (kk _ rfl)
theorem gX6_23 (X : Cx (kM b D A cy ad) cc RX6 nL fr lo) (hdg : decode cc pc = .ok (.getfield 23, 3)) (kk : Gd (kM b D A cy ad) nL (pc + 3) lv (.ref (ad 5) :: rest) g) : Gd (kM b D A cy ad) nL pc lv (.ref (ad 0) :: rest) g := gd_get X inX6 0 rfl rfl 9 (by decide) q_462 rfl hdg kk
theorem gX6_26 (X : Cx (kM b D A cy ad) cc RX6 nL fr lo) (hdg : decode cc pc = .ok (.getfield 26, 3)) (kk : Gd (kM b D A cy ad) nL (pc + 3) lv (.ref (ad 6) :: rest) g) : Gd (kM b D A cy ad) nL pc lv (.ref (ad 0) :: rest) g := gd_get X inX6 0 rfl rfl 10 (by decide) q_463 rfl hdg kk
theorem gX6_29 (X : Cx (kM b D A cy ad) cc RX6 nL fr lo) (hdg : decode cc pc = .ok (.getfield 29, 3)) (kk : Gd (kM b D A cy ad) nL (pc + 3) lv (.ref (ad 7) :: rest) g) : Gd (kM b D A cy ad) nL pc lv (.ref (ad 0) :: rest) g := gd_get X inX6 0 rfl rfl 11 (by decide) q_464 rfl hdg kk
theorem gX6_97 (X : Cx (kM b D A cy ad) cc RX6 nL fr lo) (hdg : decode cc pc = .ok (.getfield 97, 3)) (kk : Gd (kM b D A cy ad) nL (pc + 3) lv (.int (g 0 5) :: rest) g) : Gd (kM b D A cy ad) nL pc lv (.ref (ad 0) :: rest) g := gd_get X inX6 0 rfl rfl 12 (by decide) q_465 rfl hdg kk
theorem pX6_97 (X : Cx (kM b D A cy ad) cc RX6 nL fr lo) {v : Int32} (hdg : decode cc pc = .ok (.putfield 97, 3)) (kk : ∀ g1 : SG, g1 = sput g 0 5 v → Gd (kM b D A cy ad) nL (pc + 3) lv rest g1) : Gd (kM b D A cy ad) nL pc lv (.int v :: .ref (ad 0) :: rest) g := gd_put X inX6 tyX6 tyX6_ok nmX6 0 rfl rfl 12 (by decide) q_465 rfl (ty := .int) (by decide +kernel) rfl rfl (Nat.le_of_ble_eq_true rfl) hdg rfl (kk _ rfl)
theorem gX6_103 (X : Cx (kM b D A cy ad) cc RX6 nL fr lo) (hdg : decode cc pc = .ok (.getfield 103, 3)) (kk : Gd (kM b D A cy ad) nL (pc + 3) lv (.int (g 0 6) :: rest) g) : Gd (kM b D A cy ad) nL pc lv (.ref (ad 0) :: rest) g := gd_get X inX6 0 rfl rfl 13 (by decide) q_466 rfl hdg kk
theorem pX6_103 (X : Cx (kM b D A cy ad) cc RX6 nL fr lo) {v : Int32} (hdg : decode cc pc = .ok (.putfield 103, 3)) (kk : ∀ g1 : SG, g1 = sput g 0 6 v → Gd (kM b D A cy ad) nL (pc + 3) lv rest g1) : Gd (kM b D A cy ad) nL pc lv (.int v :: .ref (ad 0) :: rest) g := gd_put X inX6 tyX6 tyX6_ok nmX6 0 rfl rfl 13 (by decide) q_466 rfl (ty := .int) (by decide +kernel) rfl rfl (Nat.le_of_ble_eq_true rfl) hdg rfl (kk _ rfl)
theorem al_C4 {own : String} (X : Cx (kC b D A cy ad) cc own nL fr lo) {i : Int32} (hin : vp_in i 2) (hdg : decode cc pc = .ok (.baload, 1)) (kk : Gd (kC b D A cy ad) nL (pc + 1) lv (.int (g 1 i.toNatClampNeg) :: rest) g) : Gd (kC b D A cy ad) nL pc lv (.int i :: .ref (ad 4) :: rest) g := gd_zald X 4 2 rfl rfl hin hdg kk
theorem as_C4 {own : String} (X : Cx (kC b D A cy ad) cc own nL fr lo) {i x : Int32} (hin : vp_in i 2) (hdg : decode cc pc = .ok (.bastore, 1)) (kk : ∀ g1 : SG, g1 = sput g 1 i.toNatClampNeg (vp_nar .boolean x) → Gd (kC b D A cy ad) nL (pc + 1) lv rest g1) : Gd (kC b D A cy ad) nL pc lv (.int x :: .int i :: .ref (ad 4) :: rest) g := gd_zast X 4 2 rfl rfl hin hdg (by rw [upd_sput]; rfl) (kk _ rfl)
theorem al_C6 {own : String} (X : Cx (kC b D A cy ad) cc own nL fr lo) {i : Int32} (hin : vp_in i 20) (hdg : decode cc pc = .ok (.iaload, 1)) (kk : Gd (kC b D A cy ad) nL (pc + 1) lv (.int (g 2 i.toNatClampNeg) :: rest) g) : Gd (kC b D A cy ad) nL pc lv (.int i :: .ref (ad 6) :: rest) g := gd_iald X 6 1 rfl rfl hin hdg kk
theorem as_C6 {own : String} (X : Cx (kC b D A cy ad) cc own nL fr lo) {i x : Int32} (hin : vp_in i 20) (hdg : decode cc pc = .ok (.iastore, 1)) (kk : ∀ g1 : SG, g1 = sput g 2 i.toNatClampNeg x → Gd (kC b D A cy ad) nL (pc + 1) lv rest g1) : Gd (kC b D A cy ad) nL pc lv (.int x :: .int i :: .ref (ad 6) :: rest) g := gd_iast X 6 1 rfl rfl hin hdg (by rw [upd_sput]; rfl) (kk _ rfl)
theorem al_C7 {own : String} (X : Cx (kC b D A cy ad) cc own nL fr lo) {i : Int32} (hin : vp_in i 6) (hdg : decode cc pc = .ok (.iaload, 1)) (kk : Gd (kC b D A cy ad) nL (pc + 1) lv (.int (g 3 i.toNatClampNeg) :: rest) g) : Gd (kC b D A cy ad) nL pc lv (.int i :: .ref (ad 7) :: rest) g := gd_iald X 7 1 rfl rfl hin hdg kk
theorem as_C7 {own : String} (X : Cx (kC b D A cy ad) cc own nL fr lo) {i x : Int32} (hin : vp_in i 6) (hdg : decode cc pc = .ok (.iastore, 1)) (kk : ∀ g1 : SG, g1 = sput g 3 i.toNatClampNeg x → Gd (kC b D A cy ad) nL (pc + 1) lv rest g1) : Gd (kC b D A cy ad) nL pc lv (.int x :: .int i :: .ref (ad 7) :: rest) g := gd_iast X 7 1 rfl rfl hin hdg (by rw [upd_sput]; rfl) (kk _ rfl)
theorem al_C8 {own : String} (X : Cx (kC b D A cy ad) cc own nL fr lo) {i : Int32} (hin : vp_in i 6) (hdg : decode cc pc = .ok (.iaload, 1)) (kk : Gd (kC b D A cy ad) nL (pc + 1) lv (.int (g 4 i.toNatClampNeg) :: rest) g) : Gd (kC b D A cy ad) nL pc lv (.int i :: .ref (ad 8) :: rest) g := gd_iald X 8 1 rfl rfl hin hdg kk
theorem as_C8 {own : String} (X : Cx (kC b D A cy ad) cc own nL fr lo) {i x : Int32} (hin : vp_in i 6) (hdg : decode cc pc = .ok (.iastore, 1)) (kk : ∀ g1 : SG, g1 = sput g 4 i.toNatClampNeg x → Gd (kC b D A cy ad) nL (pc + 1) lv rest g1) : Gd (kC b D A cy ad) nL pc lv (.int x :: .int i :: .ref (ad 8) :: rest) g := gd_iast X 8 1 rfl rfl hin hdg (by rw [upd_sput]; rfl) (kk _ rfl)
theorem al_C10 {own : String} (X : Cx (kC b D A cy ad) cc own nL fr lo) {i : Int32} (hin : vp_in i 11520) (hdg : decode cc pc = .ok (.iaload, 1)) (kk : Gd (kC b D A cy ad) nL (pc + 1) lv (.int (g 5 i.toNatClampNeg) :: rest) g) : Gd (kC b D A cy ad) nL pc lv (.int i :: .ref (ad 10) :: rest) g := gd_iald X 10 1 rfl rfl hin hdg kk
theorem as_C10 {own : String} (X : Cx (kC b D A cy ad) cc own nL fr lo) {i x : Int32} (hin : vp_in i 11520) (hdg : decode cc pc = .ok (.iastore, 1)) (kk : ∀ g1 : SG, g1 = sput g 5 i.toNatClampNeg x → Gd (kC b D A cy ad) nL (pc + 1) lv rest g1) : Gd (kC b D A cy ad) nL pc lv (.int x :: .int i :: .ref (ad 10) :: rest) g := gd_iast X 10 1 rfl rfl hin hdg (by rw [upd_sput]; rfl) (kk _ rfl)
theorem al_C11 {own : String} (X : Cx (kC b D A cy ad) cc own nL fr lo) {i : Int32} (hin : vp_in i 60) (hdg : decode cc pc = .ok (.iaload, 1)) (kk : Gd (kC b D A cy ad) nL (pc + 1) lv (.int (g 6 i.toNatClampNeg) :: rest) g) : Gd (kC b D A cy ad) nL pc lv (.int i :: .ref (ad 11) :: rest) g := gd_iald X 11 1 rfl rfl hin hdg kk
theorem as_C11 {own : String} (X : Cx (kC b D A cy ad) cc own nL fr lo) {i x : Int32} (hin : vp_in i 60) (hdg : decode cc pc = .ok (.iastore, 1)) (kk : ∀ g1 : SG, g1 = sput g 6 i.toNatClampNeg x → Gd (kC b D A cy ad) nL (pc + 1) lv rest g1) : Gd (kC b D A cy ad) nL pc lv (.int x :: .int i :: .ref (ad 11) :: rest) g := gd_iast X 11 1 rfl rfl hin hdg (by rw [upd_sput]; rfl) (kk _ rfl)
theorem al_M1 {own : String} (X : Cx (kM b D A cy ad) cc own nL fr lo) {i : Int32} (hin : vp_in i 126) (hdg : decode cc pc = .ok (.iaload, 1)) (kk : Gd (kM b D A cy ad) nL (pc + 1) lv (.int (g 1 i.toNatClampNeg) :: rest) g) : Gd (kM b D A cy ad) nL pc lv (.int i :: .ref (ad 1) :: rest) g := gd_iald X 1 1 rfl rfl hin hdg kk
theorem as_M1 {own : String} (X : Cx (kM b D A cy ad) cc own nL fr lo) {i x : Int32} (hin : vp_in i 126) (hdg : decode cc pc = .ok (.iastore, 1)) (kk : ∀ g1 : SG, g1 = sput g 1 i.toNatClampNeg x → Gd (kM b D A cy ad) nL (pc + 1) lv rest g1) : Gd (kM b D A cy ad) nL pc lv (.int x :: .int i :: .ref (ad 1) :: rest) g := gd_iast X 1 1 rfl rfl hin hdg (by rw [upd_sput]; rfl) (kk _ rfl)
theorem al_M2 {own : String} (X : Cx (kM b D A cy ad) cc own nL fr lo) {i : Int32} (hin : vp_in i 1260) (hdg : decode cc pc = .ok (.iaload, 1)) (kk : Gd (kM b D A cy ad) nL (pc + 1) lv (.int (g 2 i.toNatClampNeg) :: rest) g) : Gd (kM b D A cy ad) nL pc lv (.int i :: .ref (ad 2) :: rest) g := gd_iald X 2 1 rfl rfl hin hdg kk
theorem as_M2 {own : String} (X : Cx (kM b D A cy ad) cc own nL fr lo) {i x : Int32} (hin : vp_in i 1260) (hdg : decode cc pc = .ok (.iastore, 1)) (kk : ∀ g1 : SG, g1 = sput g 2 i.toNatClampNeg x → Gd (kM b D A cy ad) nL (pc + 1) lv rest g1) : Gd (kM b D A cy ad) nL pc lv (.int x :: .int i :: .ref (ad 2) :: rest) g := gd_iast X 2 1 rfl rfl hin hdg (by rw [upd_sput]; rfl) (kk _ rfl)
theorem al_M3 {own : String} (X : Cx (kM b D A cy ad) cc own nL fr lo) {i : Int32} (hin : vp_in i 2) (hdg : decode cc pc = .ok (.baload, 1)) (kk : Gd (kM b D A cy ad) nL (pc + 1) lv (.int (g 3 i.toNatClampNeg) :: rest) g) : Gd (kM b D A cy ad) nL pc lv (.int i :: .ref (ad 3) :: rest) g := gd_zald X 3 2 rfl rfl hin hdg kk
theorem as_M3 {own : String} (X : Cx (kM b D A cy ad) cc own nL fr lo) {i x : Int32} (hin : vp_in i 2) (hdg : decode cc pc = .ok (.bastore, 1)) (kk : ∀ g1 : SG, g1 = sput g 3 i.toNatClampNeg (vp_nar .boolean x) → Gd (kM b D A cy ad) nL (pc + 1) lv rest g1) : Gd (kM b D A cy ad) nL pc lv (.int x :: .int i :: .ref (ad 3) :: rest) g := gd_zast X 3 2 rfl rfl hin hdg (by rw [upd_sput]; rfl) (kk _ rfl)
theorem al_M4 {own : String} (X : Cx (kM b D A cy ad) cc own nL fr lo) {i : Int32} (hin : vp_in i 252) (hdg : decode cc pc = .ok (.iaload, 1)) (kk : Gd (kM b D A cy ad) nL (pc + 1) lv (.int (g 4 i.toNatClampNeg) :: rest) g) : Gd (kM b D A cy ad) nL pc lv (.int i :: .ref (ad 4) :: rest) g := gd_iald X 4 1 rfl rfl hin hdg kk
theorem as_M4 {own : String} (X : Cx (kM b D A cy ad) cc own nL fr lo) {i x : Int32} (hin : vp_in i 252) (hdg : decode cc pc = .ok (.iastore, 1)) (kk : ∀ g1 : SG, g1 = sput g 4 i.toNatClampNeg x → Gd (kM b D A cy ad) nL (pc + 1) lv rest g1) : Gd (kM b D A cy ad) nL pc lv (.int x :: .int i :: .ref (ad 4) :: rest) g := gd_iast X 4 1 rfl rfl hin hdg (by rw [upd_sput]; rfl) (kk _ rfl)
theorem al_M5 {own : String} (X : Cx (kM b D A cy ad) cc own nL fr lo) {i : Int32} (hin : vp_in i 6) (hdg : decode cc pc = .ok (.iaload, 1)) (kk : Gd (kM b D A cy ad) nL (pc + 1) lv (.int (g 5 i.toNatClampNeg) :: rest) g) : Gd (kM b D A cy ad) nL pc lv (.int i :: .ref (ad 5) :: rest) g := gd_iald X 5 1 rfl rfl hin hdg kk
theorem as_M5 {own : String} (X : Cx (kM b D A cy ad) cc own nL fr lo) {i x : Int32} (hin : vp_in i 6) (hdg : decode cc pc = .ok (.iastore, 1)) (kk : ∀ g1 : SG, g1 = sput g 5 i.toNatClampNeg x → Gd (kM b D A cy ad) nL (pc + 1) lv rest g1) : Gd (kM b D A cy ad) nL pc lv (.int x :: .int i :: .ref (ad 5) :: rest) g := gd_iast X 5 1 rfl rfl hin hdg (by rw [upd_sput]; rfl) (kk _ rfl)
theorem al_M6 {own : String} (X : Cx (kM b D A cy ad) cc own nL fr lo) {i : Int32} (hin : vp_in i 6) (hdg : decode cc pc = .ok (.iaload, 1)) (kk : Gd (kM b D A cy ad) nL (pc + 1) lv (.int (g 6 i.toNatClampNeg) :: rest) g) : Gd (kM b D A cy ad) nL pc lv (.int i :: .ref (ad 6) :: rest) g := gd_iald X 6 1 rfl rfl hin hdg kk
theorem as_M6 {own : String} (X : Cx (kM b D A cy ad) cc own nL fr lo) {i x : Int32} (hin : vp_in i 6) (hdg : decode cc pc = .ok (.iastore, 1)) (kk : ∀ g1 : SG, g1 = sput g 6 i.toNatClampNeg x → Gd (kM b D A cy ad) nL (pc + 1) lv rest g1) : Gd (kM b D A cy ad) nL pc lv (.int x :: .int i :: .ref (ad 6) :: rest) g := gd_iast X 6 1 rfl rfl hin hdg (by rw [upd_sput]; rfl) (kk _ rfl)
theorem al_M7 {own : String} (X : Cx (kM b D A cy ad) cc own nL fr lo) {i : Int32} (hin : vp_in i 11520) (hdg : decode cc pc = .ok (.iaload, 1)) (kk : Gd (kM b D A cy ad) nL (pc + 1) lv (.int (g 7 i.toNatClampNeg) :: rest) g) : Gd (kM b D A cy ad) nL pc lv (.int i :: .ref (ad 7) :: rest) g := gd_iald X 7 1 rfl rfl hin hdg kk
theorem as_M7 {own : String} (X : Cx (kM b D A cy ad) cc own nL fr lo) {i x : Int32} (hin : vp_in i 11520) (hdg : decode cc pc = .ok (.iastore, 1)) (kk : ∀ g1 : SG, g1 = sput g 7 i.toNatClampNeg x → Gd (kM b D A cy ad) nL (pc + 1) lv rest g1) : Gd (kM b D A cy ad) nL pc lv (.int x :: .int i :: .ref (ad 7) :: rest) g := gd_iast X 7 1 rfl rfl hin hdg (by rw [upd_sput]; rfl) (kk _ rfl)
theorem al_held (h : Nat) (hh : h < 13) {own : String} (X : Cx (kC b D A cy ad) cc own nL fr lo) {i : Int32} (hin : vp_in i 120) (hdg : decode cc pc = .ok (.baload, 1)) (kk : Gd (kC b D A cy ad) nL (pc + 1) lv (.int (g (40 + h) i.toNatClampNeg) :: rest) g) : Gd (kC b D A cy ad) nL pc lv (.int i :: .ref (ad (21 + 2 * h)) :: rest) g := gd_bald X (21 + 2 * h) 0 (wc_harr cy ad g h hh) rfl hin hdg kk
theorem as_held (h : Nat) (hh : h < 13) {own : String} (X : Cx (kC b D A cy ad) cc own nL fr lo) {i x : Int32} (hin : vp_in i 120) (hdg : decode cc pc = .ok (.bastore, 1)) (kk : ∀ g1 : SG, g1 = sput g (40 + h) i.toNatClampNeg (vp_nar .byte x) → Gd (kC b D A cy ad) nL (pc + 1) lv rest g1) : Gd (kC b D A cy ad) nL pc lv (.int x :: .int i :: .ref (ad (21 + 2 * h)) :: rest) g := gd_bast X (21 + 2 * h) 0 (wc_harr cy ad g h hh) rfl hin hdg (wc_harrset cy ad g _ _ h hh) (kk _ rfl)
theorem vp_clt {i : Int32} {n : Nat} (h : vp_in i n) : i.toNatClampNeg < n := Nat.not_le.mp fun q => h (Or.inr q)
theorem aa_states {own : String} (X : Cx (kC b D A cy ad) cc own nL fr lo) {i : Int32} (hin : vp_in i 10) (hdg : decode cc pc = .ok (.aaload, 1)) (kk : Gd (kC b D A cy ad) nL (pc + 1) lv (.ref (ad (20 + 2 * (i.toNatClampNeg + 1))) :: rest) g) : Gd (kC b D A cy ad) nL pc lv (.int i :: .ref (ad 2) :: rest) g := gd_aald X 2 3 rfl rfl rfl hin rfl hdg kk
theorem aa_images {own : String} (X : Cx (kC b D A cy ad) cc own nL fr lo) {i : Int32} (hin : vp_in i 2) (hdg : decode cc pc = .ok (.aaload, 1)) (kk : Gd (kC b D A cy ad) nL (pc + 1) lv (.ref (ad (20 + 2 * (i.toNatClampNeg + 11))) :: rest) g) : Gd (kC b D A cy ad) nL pc lv (.int i :: .ref (ad 3) :: rest) g := gd_aald X 3 3 rfl rfl rfl hin rfl hdg kk
theorem aa_rows {own : String} (X : Cx (kC b D A cy ad) cc own nL fr lo) {i : Int32} (hin : vp_in i 7) (hdg : decode cc pc = .ok (.aaload, 1)) (kk : Gd (kC b D A cy ad) nL (pc + 1) lv (.ref (ad (13 + i.toNatClampNeg)) :: rest) g) : Gd (kC b D A cy ad) nL pc lv (.int i :: .ref (ad 12) :: rest) g := gd_aald X 12 4 rfl rfl rfl hin rfl hdg kk
theorem al_row (h : Nat) (hh : h < 7) {own : String} (X : Cx (kC b D A cy ad) cc own nL fr lo) {i : Int32} (hin : vp_in i 192) (hdg : decode cc pc = .ok (.iaload, 1)) (kk : Gd (kC b D A cy ad) nL (pc + 1) lv (.int (g (7 + h) i.toNatClampNeg) :: rest) g) : Gd (kC b D A cy ad) nL pc lv (.int i :: .ref (ad (13 + h)) :: rest) g := gd_iald X (13 + h) 1 (wc_row cy ad g h hh) rfl hin hdg kk
theorem as_row (h : Nat) (hh : h < 7) {own : String} (X : Cx (kC b D A cy ad) cc own nL fr lo) {i x : Int32} (hin : vp_in i 192) (hdg : decode cc pc = .ok (.iastore, 1)) (kk : ∀ g1 : SG, g1 = sput g (7 + h) i.toNatClampNeg x → Gd (kC b D A cy ad) nL (pc + 1) lv rest g1) : Gd (kC b D A cy ad) nL pc lv (.int x :: .int i :: .ref (ad (13 + h)) :: rest) g := gd_iast X (13 + h) 1 (wc_row cy ad g h hh) rfl hin hdg (wc_rowset cy ad g _ _ h hh) (kk _ rfl)
end GW
section GX
variable {Sg : Type} {κ : KX Sg} {cc : ByteArray} {own : String} {nL fr lo pc : Nat} {lv lv' : List (Nat × Value)} {rest : List Value} {sg : Sg}
theorem gd_topi {x : Int32} (k : ∀ y : Int32, y = x → Gd κ nL pc lv (.int y :: rest) sg) : Gd κ nL pc lv (.int x :: rest) sg := k x rfl
theorem gd_jrem (X : Cx κ cc own nL fr lo) {x y : Int32} (hdg : decode cc pc = .ok (.irem, 1)) (hne : ¬ y = 0) (k : Gd κ nL (pc + 1) lv (.int (jrem x y) :: rest) sg) : Gd κ nL pc lv (.int y :: .int x :: rest) sg := gd_irem X hdg hne k
theorem gd_jshl (X : Cx κ cc own nL fr lo) {x y : Int32} (hdg : decode cc pc = .ok (.ishl, 1)) (k : Gd κ nL (pc + 1) lv (.int (jshl x y) :: rest) sg) : Gd κ nL pc lv (.int y :: .int x :: rest) sg := gd_ishl X hdg k
theorem gd_jshr (X : Cx κ cc own nL fr lo) {x y : Int32} (hdg : decode cc pc = .ok (.ishr, 1)) (k : Gd κ nL (pc + 1) lv (.int (jshr x y) :: rest) sg) : Gd κ nL pc lv (.int y :: .int x :: rest) sg := gd_ishr X hdg k
theorem gd_jushr (X : Cx κ cc own nL fr lo) {x y : Int32} (hdg : decode cc pc = .ok (.iushr, 1)) (k : Gd κ nL (pc + 1) lv (.int (jushr x y) :: rest) sg) : Gd κ nL pc lv (.int y :: .int x :: rest) sg := gd_iushr X hdg rfl k
theorem gd_incn (X : Cx κ cc own nL fr lo) {i : Nat} (j : Nat) {n : Int} {x : Int32} (c : Int32) (hdg : decode cc pc = .ok (.iinc i n, 3)) (hj : lv[j]? = some (i, .int x)) (hc : Int32.ofInt n = c) (hn : i < nL) (f : Int32 → List (Nat × Value)) (hl : ∀ v, (i, Value.int v) :: lv.filter (fun q => !(q.1 == i) && !(q.1 + 1 == i && q.2.category == 2)) = f v) (k : ∀ v : Int32, v = x + c → Gd κ nL (pc + 3) (f v) rest sg) : Gd κ nL pc lv rest sg := gd_iinc X hdg hj (by rw [hc]) hn (hl _) (k _ rfl)
end GX
end
