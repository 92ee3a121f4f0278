/-! the worlds: the class's 45 cells, the reference's 8, over a table of ints g -/
def tyG (cy : Nat → ClassId) : List (ClassId × FieldType) := [(cy 0, .byte), (cy 1, .int), (cy 2, .boolean), (cy 3, .object "MinuteSignal$Held"), (cy 4, .array .int)]
def WC (cy : Nat → ClassId) (ad : Nat → Nat) (g : SG) : va_W := [
  (ad 0, .inr (4, [.ref (ad 19), .ref (ad 1), .ref (ad 3), .ref (ad 4), .ref (ad 5), .ref (ad 9), .int (g 0 0), .int (g 0 1)])),
  (ad 1, .inr (2, [.ref (ad 2), .int (g 0 2), .int (g 0 3)])),
  (ad 2, .inl (cy 3, 10, .inr (.inr (.inr (.inr (fun i => some (ad (19 + 2 * (i + 1))))))))),
  (ad 3, .inl (cy 3, 2, .inr (.inr (.inr (.inr (fun i => some (ad (19 + 2 * (i + 11))))))))),
  (ad 4, .inl (cy 2, 2, .inl (g 1))),
  (ad 5, .inr (0, [.ref (ad 6), .ref (ad 7), .ref (ad 8), .int (g 0 4), .int (g 0 5)])),
  (ad 6, .inl (cy 1, 20, .inl (g 2))),
  (ad 7, .inl (cy 1, 6, .inl (g 3))),
  (ad 8, .inl (cy 1, 6, .inl (g 4))),
  (ad 9, .inr (3, [.ref (ad 10), .ref (ad 11), .int (g 0 10), .int (g 0 6), .int (g 0 7), .int (g 0 8), .int (g 0 9)])),
  (ad 10, .inl (cy 1, 60, .inl (g 6))),
  (ad 11, .inl (cy 4, 7, .inr (.inr (.inr (.inr (fun i => some (ad (12 + i)))))))),
  (ad 12, .inl (cy 1, 192, .inl (g 7))),
  (ad 13, .inl (cy 1, 192, .inl (g 8))),
  (ad 14, .inl (cy 1, 192, .inl (g 9))),
  (ad 15, .inl (cy 1, 192, .inl (g 10))),
  (ad 16, .inl (cy 1, 192, .inl (g 11))),
  (ad 17, .inl (cy 1, 192, .inl (g 12))),
  (ad 18, .inl (cy 1, 192, .inl (g 13))),
  (ad 19, .inr (1, [.ref (ad 20), .int (g 20 0), .int (g 20 1), .int (g 20 2), .int (g 20 3), .int (g 20 4)])),
  (ad 20, .inl (cy 0, 120, .inl (g 40))),
  (ad 21, .inr (1, [.ref (ad 22), .int (g 21 0), .int (g 21 1), .int (g 21 2), .int (g 21 3), .int (g 21 4)])),
  (ad 22, .inl (cy 0, 120, .inl (g 41))),
  (ad 23, .inr (1, [.ref (ad 24), .int (g 22 0), .int (g 22 1), .int (g 22 2), .int (g 22 3), .int (g 22 4)])),
  (ad 24, .inl (cy 0, 120, .inl (g 42))),
  (ad 25, .inr (1, [.ref (ad 26), .int (g 23 0), .int (g 23 1), .int (g 23 2), .int (g 23 3), .int (g 23 4)])),
  (ad 26, .inl (cy 0, 120, .inl (g 43))),
  (ad 27, .inr (1, [.ref (ad 28), .int (g 24 0), .int (g 24 1), .int (g 24 2), .int (g 24 3), .int (g 24 4)])),
  (ad 28, .inl (cy 0, 120, .inl (g 44))),
  (ad 29, .inr (1, [.ref (ad 30), .int (g 25 0), .int (g 25 1), .int (g 25 2), .int (g 25 3), .int (g 25 4)])),
  (ad 30, .inl (cy 0, 120, .inl (g 45))),
  (ad 31, .inr (1, [.ref (ad 32), .int (g 26 0), .int (g 26 1), .int (g 26 2), .int (g 26 3), .int (g 26 4)])),
  (ad 32, .inl (cy 0, 120, .inl (g 46))),
  (ad 33, .inr (1, [.ref (ad 34), .int (g 27 0), .int (g 27 1), .int (g 27 2), .int (g 27 3), .int (g 27 4)])),
  (ad 34, .inl (cy 0, 120, .inl (g 47))),
  (ad 35, .inr (1, [.ref (ad 36), .int (g 28 0), .int (g 28 1), .int (g 28 2), .int (g 28 3), .int (g 28 4)])),
  (ad 36, .inl (cy 0, 120, .inl (g 48))),
  (ad 37, .inr (1, [.ref (ad 38), .int (g 29 0), .int (g 29 1), .int (g 29 2), .int (g 29 3), .int (g 29 4)])),
  (ad 38, .inl (cy 0, 120, .inl (g 49))),
  (ad 39, .inr (1, [.ref (ad 40), .int (g 30 0), .int (g 30 1), .int (g 30 2), .int (g 30 3), .int (g 30 4)])),
  (ad 40, .inl (cy 0, 120, .inl (g 50))),
  (ad 41, .inr (1, [.ref (ad 42), .int (g 31 0), .int (g 31 1), .int (g 31 2), .int (g 31 3), .int (g 31 4)])),
  (ad 42, .inl (cy 0, 120, .inl (g 51))),
  (ad 43, .inr (1, [.ref (ad 44), .int (g 32 0), .int (g 32 1), .int (g 32 2), .int (g 32 3), .int (g 32 4)])),
  (ad 44, .inl (cy 0, 120, .inl (g 52)))]
def WM (cy : Nat → ClassId) (ad : Nat → Nat) (g : SG) : va_W := [
  (ad 0, .inr (5, [.ref (ad 1), .int (g 0 0), .int (g 0 1), .ref (ad 2), .ref (ad 3), .ref (ad 4), .int (g 0 2), .int (g 0 3), .int (g 0 4), .ref (ad 5), .ref (ad 6), .ref (ad 7), .int (g 0 5), .int (g 0 6)])),
  (ad 1, .inl (cy 1, 126, .inl (g 1))),
  (ad 2, .inl (cy 1, 1260, .inl (g 2))),
  (ad 3, .inl (cy 2, 2, .inl (g 3))),
  (ad 4, .inl (cy 1, 252, .inl (g 4))),
  (ad 5, .inl (cy 1, 6, .inl (g 5))),
  (ad 6, .inl (cy 1, 6, .inl (g 6))),
  (ad 7, .inl (cy 1, 11520, .inl (g 7)))]
abbrev eC (D : va_G) (A : Nat → Prop) (cy : Nat → ClassId) (ad : Nat → Nat) : EX SG := (D, A, tyG cy, WC cy ad)
abbrev eM (D : va_G) (A : Nat → Prop) (cy : Nat → ClassId) (ad : Nat → Nat) : EX SG := (D, A, tyG cy, WM cy ad)
abbrev kC (b : BX) (D : va_G) (A : Nat → Prop) (cy : Nat → ClassId) (ad : Nat → Nat) : KX SG := (b, eC D A cy ad, 0, 0)
abbrev kM (b : BX) (D : va_G) (A : Nat → Prop) (cy : Nat → ClassId) (ad : Nat → Nat) : KX SG := (b, eM D A cy ad, 0, 0)
theorem upd_sput (g : SG) (a i : Nat) (v : Int32) : upd (g a) i v = sput g a i v a := by
  funext j
  unfold upd sput
  by_cases h : j = i
  · subst h; simp
  · have h2 : Nat.beq j i = false := by
      cases hq : Nat.beq j i with
      | false => rfl
      | true => exact absurd (Nat.eq_of_beq_eq_true hq) h
    simp [h, h2]
def jrem (x y : Int32) : Int32 := x - x / y * y
def jshl (x y : Int32) : Int32 := x <<< (y &&& 31)
def jshr (x y : Int32) : Int32 := x >>> (y &&& 31)
def jushr (x y : Int32) : Int32 := (x.toUInt32 >>> (y.toUInt32 &&& Int32.toUInt32 31)).toInt32
def R_law : String := "MinuteSignalLaw"
theorem q_0 : Cond.selects RX5 yX5_rowChanged yX5_rowChanged ∈ gT := gT_in (List.mem_of_getElem? (i := 0) (by decide +kernel)) (by decide +kernel)
theorem q_1 : Cond.selects RX5 yX5_isShown yX5_isShown ∈ gT := gT_in (List.mem_of_getElem? (i := 1) (by decide +kernel)) (by decide +kernel)
theorem q_2 : Cond.selects RX5 yX5_fittingFrames yX5_fittingFrames ∈ gT := gT_in (List.mem_of_getElem? (i := 2) (by decide +kernel)) (by decide +kernel)
theorem q_3 : Cond.selects RX5 yX5_fittingVote yX5_fittingVote ∈ gT := gT_in (List.mem_of_getElem? (i := 3) (by decide +kernel)) (by decide +kernel)
theorem q_4 : Cond.selects RX5 yX5_drifted yX5_drifted ∈ gT := gT_in (List.mem_of_getElem? (i := 4) (by decide +kernel)) (by decide +kernel)
theorem q_5 : Cond.selects RX5 yX5_apart yX5_apart ∈ gT := gT_in (List.mem_of_getElem? (i := 5) (by decide +kernel)) (by decide +kernel)
theorem q_6 : Cond.selects RX6 yX6_remember yX6_remember ∈ gT := gT_in (List.mem_of_getElem? (i := 6) (by decide +kernel)) (by decide +kernel)
theorem q_7 : Cond.selects RX6 yX6_comes yX6_comes ∈ gT := gT_in (List.mem_of_getElem? (i := 7) (by decide +kernel)) (by decide +kernel)
theorem q_8 : Cond.selects RX6 yX6_becomes yX6_becomes ∈ gT := gT_in (List.mem_of_getElem? (i := 8) (by decide +kernel)) (by decide +kernel)
theorem q_9 : Cond.selects RX6 yX6_tells yX6_tells ∈ gT := gT_in (List.mem_of_getElem? (i := 9) (by decide +kernel)) (by decide +kernel)
theorem q_10 : Cond.selects RX6 yX6_layPhase yX6_layPhase ∈ gT := gT_in (List.mem_of_getElem? (i := 10) (by decide +kernel)) (by decide +kernel)
theorem q_11 : Cond.selects RX6 yX6_symbolAt yX6_symbolAt ∈ gT := gT_in (List.mem_of_getElem? (i := 11) (by decide +kernel)) (by decide +kernel)
theorem q_12 : Cond.selects RX6 yX6_layFrames yX6_layFrames ∈ gT := gT_in (List.mem_of_getElem? (i := 12) (by decide +kernel)) (by decide +kernel)
theorem q_13 : Cond.selects RX6 yX6_firstOf yX6_firstOf ∈ gT := gT_in (List.mem_of_getElem? (i := 13) (by decide +kernel)) (by decide +kernel)
theorem q_14 : Cond.selects RX6 yX6_missesOf yX6_missesOf ∈ gT := gT_in (List.mem_of_getElem? (i := 14) (by decide +kernel)) (by decide +kernel)
theorem q_15 : Cond.selects RX6 yX6_wrongOf yX6_wrongOf ∈ gT := gT_in (List.mem_of_getElem? (i := 15) (by decide +kernel)) (by decide +kernel)
theorem q_16 : Cond.selects RX6 yX6_isShown yX6_isShown ∈ gT := gT_in (List.mem_of_getElem? (i := 16) (by decide +kernel)) (by decide +kernel)
theorem q_17 : Cond.selects RX6 yX6_lastTime yX6_lastTime ∈ gT := gT_in (List.mem_of_getElem? (i := 17) (by decide +kernel)) (by decide +kernel)
theorem q_18 : Cond.selects RX6 yX6_parity yX6_parity ∈ gT := gT_in (List.mem_of_getElem? (i := 18) (by decide +kernel)) (by decide +kernel)
theorem q_19 : Cond.selects RX6 yX6_isClear yX6_isClear ∈ gT := gT_in (List.mem_of_getElem? (i := 19) (by decide +kernel)) (by decide +kernel)
theorem q_20 : Cond.selects RX6 yX6_valueOf yX6_valueOf ∈ gT := gT_in (List.mem_of_getElem? (i := 20) (by decide +kernel)) (by decide +kernel)
theorem q_21 : Cond.selects RX6 yX6_twoFigures yX6_twoFigures ∈ gT := gT_in (List.mem_of_getElem? (i := 21) (by decide +kernel)) (by decide +kernel)
theorem q_22 : Cond.selects RX6 yX6_apart yX6_apart ∈ gT := gT_in (List.mem_of_getElem? (i := 22) (by decide +kernel)) (by decide +kernel)
theorem q_23 : Cond.initialized R_law ∈ gT := gT_in (List.mem_of_getElem? (i := 23) (by decide +kernel)) (by decide +kernel)
theorem q_24 : Cond.initialized RX5 ∈ gT := gT_in (List.mem_of_getElem? (i := 24) (by decide +kernel)) (by decide +kernel)
theorem q_25 : Cond.initialized RX1 ∈ gT := gT_in (List.mem_of_getElem? (i := 25) (by decide +kernel)) (by decide +kernel)
theorem q_26 : Cond.initialized RX2 ∈ gT := gT_in (List.mem_of_getElem? (i := 26) (by decide +kernel)) (by decide +kernel)
theorem q_27 : Cond.initialized RX0 ∈ gT := gT_in (List.mem_of_getElem? (i := 27) (by decide +kernel)) (by decide +kernel)
theorem q_28 : Cond.initialized RX4 ∈ gT := gT_in (List.mem_of_getElem? (i := 28) (by decide +kernel)) (by decide +kernel)
theorem q_29 : Cond.initialized RX6 ∈ gT := gT_in (List.mem_of_getElem? (i := 29) (by decide +kernel)) (by decide +kernel)
theorem q_30 : Cond.initialized RJ9 ∈ gT := gT_in (List.mem_of_getElem? (i := 30) (by decide +kernel)) (by decide +kernel)
theorem q_31 : Cond.initialized RX3 ∈ gT := gT_in (List.mem_of_getElem? (i := 31) (by decide +kernel)) (by decide +kernel)
theorem q_32 : Cond.initialized RJ6 ∈ gT := gT_in (List.mem_of_getElem? (i := 32) (by decide +kernel)) (by decide +kernel)
theorem q_35 : Cond.methodLink R_law 9 yX5_init ∈ gT := gT_in (List.mem_of_getElem? (i := 35) (by decide +kernel)) (by decide +kernel)
theorem q_36 : Cond.instanceMethod yX5_init ∈ gT := gT_in (List.mem_of_getElem? (i := 36) (by decide +kernel)) (by decide +kernel)
theorem q_37 : Cond.code yX5_init cX5_init 2 none ∈ gT := gT_in (List.mem_of_getElem? (i := 37) (by decide +kernel)) (by decide +kernel)
theorem q_44 : Cond.instanceMethod yX1_init ∈ gT := gT_in (List.mem_of_getElem? (i := 44) (by decide +kernel)) (by decide +kernel)
theorem q_45 : Cond.code yX1_init cX1_init 1 none ∈ gT := gT_in (List.mem_of_getElem? (i := 45) (by decide +kernel)) (by decide +kernel)
theorem q_47 : Cond.fieldLink RX1 9 "MinuteSignal$Held" "symbols" "[B" ∈ gT := gT_in (List.mem_of_getElem? (i := 47) (by decide +kernel)) (by decide +kernel)
theorem q_48 : Cond.fieldLink RX0 42 "MinuteSignal$Held" "symbols" "[B" ∈ gT := gT_in (List.mem_of_getElem? (i := 48) (by decide +kernel)) (by decide +kernel)
theorem q_49 : Cond.fieldLink RX5 109 "MinuteSignal$Held" "symbols" "[B" ∈ gT := gT_in (List.mem_of_getElem? (i := 49) (by decide +kernel)) (by decide +kernel)
theorem q_50 : Cond.fieldLink RX1 25 "MinuteSignal$Held" "size" "I" ∈ gT := gT_in (List.mem_of_getElem? (i := 50) (by decide +kernel)) (by decide +kernel)
theorem q_51 : Cond.fieldLink RX5 45 "MinuteSignal$Held" "size" "I" ∈ gT := gT_in (List.mem_of_getElem? (i := 51) (by decide +kernel)) (by decide +kernel)
theorem q_52 : Cond.fieldLink RX0 33 "MinuteSignal$Held" "size" "I" ∈ gT := gT_in (List.mem_of_getElem? (i := 52) (by decide +kernel)) (by decide +kernel)
theorem q_53 : Cond.fieldLink RX1 15 "MinuteSignal$Held" "need" "I" ∈ gT := gT_in (List.mem_of_getElem? (i := 53) (by decide +kernel)) (by decide +kernel)
theorem q_54 : Cond.fieldLink RX5 68 "MinuteSignal$Held" "need" "I" ∈ gT := gT_in (List.mem_of_getElem? (i := 54) (by decide +kernel)) (by decide +kernel)
theorem q_55 : Cond.fieldLink RX1 19 "MinuteSignal$Held" "drift" "I" ∈ gT := gT_in (List.mem_of_getElem? (i := 55) (by decide +kernel)) (by decide +kernel)
theorem q_56 : Cond.fieldLink RX5 71 "MinuteSignal$Held" "drift" "I" ∈ gT := gT_in (List.mem_of_getElem? (i := 56) (by decide +kernel)) (by decide +kernel)
theorem q_57 : Cond.fieldLink RX1 22 "MinuteSignal$Held" "clock" "I" ∈ gT := gT_in (List.mem_of_getElem? (i := 57) (by decide +kernel)) (by decide +kernel)
theorem q_58 : Cond.fieldLink RX5 85 "MinuteSignal$Held" "clock" "I" ∈ gT := gT_in (List.mem_of_getElem? (i := 58) (by decide +kernel)) (by decide +kernel)
theorem q_59 : Cond.fieldLink RX1 28 "MinuteSignal$Held" "age" "I" ∈ gT := gT_in (List.mem_of_getElem? (i := 59) (by decide +kernel)) (by decide +kernel)
theorem q_60 : Cond.fieldLink RX5 88 "MinuteSignal$Held" "age" "I" ∈ gT := gT_in (List.mem_of_getElem? (i := 60) (by decide +kernel)) (by decide +kernel)
theorem q_77 : Cond.methodLink RX5 18 yX2_init ∈ gT := gT_in (List.mem_of_getElem? (i := 77) (by decide +kernel)) (by decide +kernel)
theorem q_78 : Cond.instanceMethod yX2_init ∈ gT := gT_in (List.mem_of_getElem? (i := 78) (by decide +kernel)) (by decide +kernel)
theorem q_79 : Cond.code yX2_init cX2_init 2 none ∈ gT := gT_in (List.mem_of_getElem? (i := 79) (by decide +kernel)) (by decide +kernel)
theorem q_84 : Cond.fieldLink RX2 11 "MinuteSignal$History" "states" "[LMinuteSignal$Held;" ∈ gT := gT_in (List.mem_of_getElem? (i := 84) (by decide +kernel)) (by decide +kernel)
theorem q_85 : Cond.fieldLink RX2 18 "MinuteSignal$History" "next" "I" ∈ gT := gT_in (List.mem_of_getElem? (i := 85) (by decide +kernel)) (by decide +kernel)
theorem q_86 : Cond.fieldLink RX2 26 "MinuteSignal$History" "size" "I" ∈ gT := gT_in (List.mem_of_getElem? (i := 86) (by decide +kernel)) (by decide +kernel)
theorem q_87 : Cond.fieldLink RX5 105 "MinuteSignal$History" "size" "I" ∈ gT := gT_in (List.mem_of_getElem? (i := 87) (by decide +kernel)) (by decide +kernel)
theorem q_98 : Cond.instanceMethod yX0_init ∈ gT := gT_in (List.mem_of_getElem? (i := 98) (by decide +kernel)) (by decide +kernel)
theorem q_99 : Cond.code yX0_init cX0_init 1 none ∈ gT := gT_in (List.mem_of_getElem? (i := 99) (by decide +kernel)) (by decide +kernel)
theorem q_101 : Cond.fieldLink RX0 9 "MinuteSignal$Frames" "gaps" "[I" ∈ gT := gT_in (List.mem_of_getElem? (i := 101) (by decide +kernel)) (by decide +kernel)
theorem q_102 : Cond.fieldLink RX0 15 "MinuteSignal$Frames" "ones" "[I" ∈ gT := gT_in (List.mem_of_getElem? (i := 102) (by decide +kernel)) (by decide +kernel)
theorem q_103 : Cond.fieldLink RX0 18 "MinuteSignal$Frames" "clear" "[I" ∈ gT := gT_in (List.mem_of_getElem? (i := 103) (by decide +kernel)) (by decide +kernel)
theorem q_104 : Cond.fieldLink RX0 46 "MinuteSignal$Frames" "phase" "I" ∈ gT := gT_in (List.mem_of_getElem? (i := 104) (by decide +kernel)) (by decide +kernel)
theorem q_105 : Cond.fieldLink RX5 185 "MinuteSignal$Frames" "phase" "I" ∈ gT := gT_in (List.mem_of_getElem? (i := 105) (by decide +kernel)) (by decide +kernel)
theorem q_106 : Cond.fieldLink RX4 20 "MinuteSignal$Frames" "count" "I" ∈ gT := gT_in (List.mem_of_getElem? (i := 106) (by decide +kernel)) (by decide +kernel)
theorem q_107 : Cond.fieldLink RX0 29 "MinuteSignal$Frames" "count" "I" ∈ gT := gT_in (List.mem_of_getElem? (i := 107) (by decide +kernel)) (by decide +kernel)
theorem q_108 : Cond.fieldLink RX5 117 "MinuteSignal$Frames" "count" "I" ∈ gT := gT_in (List.mem_of_getElem? (i := 108) (by decide +kernel)) (by decide +kernel)
theorem q_125 : Cond.instanceMethod yX4_init ∈ gT := gT_in (List.mem_of_getElem? (i := 125) (by decide +kernel)) (by decide +kernel)
theorem q_126 : Cond.code yX4_init cX4_init 1 none ∈ gT := gT_in (List.mem_of_getElem? (i := 126) (by decide +kernel)) (by decide +kernel)
theorem q_130 : Cond.fieldLink RX4 9 "MinuteSignal$Vote" "byMinute" "[I" ∈ gT := gT_in (List.mem_of_getElem? (i := 130) (by decide +kernel)) (by decide +kernel)
theorem q_131 : Cond.fieldLink RX4 17 "MinuteSignal$Vote" "byHour" "[[I" ∈ gT := gT_in (List.mem_of_getElem? (i := 131) (by decide +kernel)) (by decide +kernel)
theorem q_132 : Cond.fieldLink RX4 26 "MinuteSignal$Vote" "count" "I" ∈ gT := gT_in (List.mem_of_getElem? (i := 132) (by decide +kernel)) (by decide +kernel)
theorem q_133 : Cond.fieldLink RX4 37 "MinuteSignal$Vote" "best" "I" ∈ gT := gT_in (List.mem_of_getElem? (i := 133) (by decide +kernel)) (by decide +kernel)
theorem q_134 : Cond.fieldLink RX5 133 "MinuteSignal$Vote" "best" "I" ∈ gT := gT_in (List.mem_of_getElem? (i := 134) (by decide +kernel)) (by decide +kernel)
theorem q_135 : Cond.fieldLink RX4 75 "MinuteSignal$Vote" "fewest" "I" ∈ gT := gT_in (List.mem_of_getElem? (i := 135) (by decide +kernel)) (by decide +kernel)
theorem q_136 : Cond.fieldLink RX5 142 "MinuteSignal$Vote" "fewest" "I" ∈ gT := gT_in (List.mem_of_getElem? (i := 136) (by decide +kernel)) (by decide +kernel)
theorem q_137 : Cond.fieldLink RX4 78 "MinuteSignal$Vote" "margin" "I" ∈ gT := gT_in (List.mem_of_getElem? (i := 137) (by decide +kernel)) (by decide +kernel)
theorem q_138 : Cond.fieldLink RX5 145 "MinuteSignal$Vote" "margin" "I" ∈ gT := gT_in (List.mem_of_getElem? (i := 138) (by decide +kernel)) (by decide +kernel)
theorem q_139 : Cond.fieldLink RX4 46 "MinuteSignal$Vote" "last" "I" ∈ gT := gT_in (List.mem_of_getElem? (i := 139) (by decide +kernel)) (by decide +kernel)
theorem q_140 : Cond.fieldLink RX5 82 "MinuteSignal$Vote" "last" "I" ∈ gT := gT_in (List.mem_of_getElem? (i := 140) (by decide +kernel)) (by decide +kernel)
theorem q_156 : Cond.fieldLink RX5 12 "MinuteSignal" "now" "LMinuteSignal$Held;" ∈ gT := gT_in (List.mem_of_getElem? (i := 156) (by decide +kernel)) (by decide +kernel)
theorem q_157 : Cond.fieldLink RX5 19 "MinuteSignal" "history" "LMinuteSignal$History;" ∈ gT := gT_in (List.mem_of_getElem? (i := 157) (by decide +kernel)) (by decide +kernel)
theorem q_158 : Cond.fieldLink RX5 23 "MinuteSignal" "images" "[LMinuteSignal$Held;" ∈ gT := gT_in (List.mem_of_getElem? (i := 158) (by decide +kernel)) (by decide +kernel)
theorem q_159 : Cond.fieldLink RX5 27 "MinuteSignal" "imageKept" "[Z" ∈ gT := gT_in (List.mem_of_getElem? (i := 159) (by decide +kernel)) (by decide +kernel)
theorem q_160 : Cond.fieldLink RX5 34 "MinuteSignal" "framesNow" "LMinuteSignal$Frames;" ∈ gT := gT_in (List.mem_of_getElem? (i := 160) (by decide +kernel)) (by decide +kernel)
theorem q_161 : Cond.fieldLink RX5 41 "MinuteSignal" "voteNow" "LMinuteSignal$Vote;" ∈ gT := gT_in (List.mem_of_getElem? (i := 161) (by decide +kernel)) (by decide +kernel)
theorem q_162 : Cond.fieldLink RX5 188 "MinuteSignal" "framesFit" "Z" ∈ gT := gT_in (List.mem_of_getElem? (i := 162) (by decide +kernel)) (by decide +kernel)
theorem q_163 : Cond.fieldLink RX5 192 "MinuteSignal" "voteFits" "Z" ∈ gT := gT_in (List.mem_of_getElem? (i := 163) (by decide +kernel)) (by decide +kernel)
theorem q_181 : Cond.methodLink R_law 13 yX5_hears ∈ gT := gT_in (List.mem_of_getElem? (i := 181) (by decide +kernel)) (by decide +kernel)
theorem q_182 : Cond.instanceMethod yX5_hears ∈ gT := gT_in (List.mem_of_getElem? (i := 182) (by decide +kernel)) (by decide +kernel)
theorem q_183 : Cond.selects RX5 yX5_hears yX5_hears ∈ gT := gT_in (List.mem_of_getElem? (i := 183) (by decide +kernel)) (by decide +kernel)
theorem q_184 : Cond.code yX5_hears cX5_hears 2 (some .int) ∈ gT := gT_in (List.mem_of_getElem? (i := 184) (by decide +kernel)) (by decide +kernel)
theorem q_185 : Cond.methodLink RX5 49 yX2_remember ∈ gT := gT_in (List.mem_of_getElem? (i := 185) (by decide +kernel)) (by decide +kernel)
theorem q_186 : Cond.instanceMethod yX2_remember ∈ gT := gT_in (List.mem_of_getElem? (i := 186) (by decide +kernel)) (by decide +kernel)
theorem q_187 : Cond.selects RX2 yX2_remember yX2_remember ∈ gT := gT_in (List.mem_of_getElem? (i := 187) (by decide +kernel)) (by decide +kernel)
theorem q_188 : Cond.code yX2_remember cX2_remember 2 none ∈ gT := gT_in (List.mem_of_getElem? (i := 188) (by decide +kernel)) (by decide +kernel)
theorem q_189 : Cond.methodLink RX2 22 yX1_copyFrom ∈ gT := gT_in (List.mem_of_getElem? (i := 189) (by decide +kernel)) (by decide +kernel)
theorem q_190 : Cond.instanceMethod yX1_copyFrom ∈ gT := gT_in (List.mem_of_getElem? (i := 190) (by decide +kernel)) (by decide +kernel)
theorem q_191 : Cond.selects RX1 yX1_copyFrom yX1_copyFrom ∈ gT := gT_in (List.mem_of_getElem? (i := 191) (by decide +kernel)) (by decide +kernel)
theorem q_192 : Cond.code yX1_copyFrom cX1_copyFrom 3 none ∈ gT := gT_in (List.mem_of_getElem? (i := 192) (by decide +kernel)) (by decide +kernel)
theorem q_193 : Cond.methodLink RX2 29 yJ9_min_7cf53 ∈ gT := gT_in (List.mem_of_getElem? (i := 193) (by decide +kernel)) (by decide +kernel)
theorem q_194 : Cond.static yJ9_min_7cf53 ∈ gT := gT_in (List.mem_of_getElem? (i := 194) (by decide +kernel)) (by decide +kernel)
theorem q_195 : Cond.code yJ9_min_7cf53 cJ9_min_7cf53 2 (some .int) ∈ gT := gT_in (List.mem_of_getElem? (i := 195) (by decide +kernel)) (by decide +kernel)
theorem q_196 : Cond.methodLink RX5 53 yX5_symbolOfLength ∈ gT := gT_in (List.mem_of_getElem? (i := 196) (by decide +kernel)) (by decide +kernel)
theorem q_197 : Cond.static yX5_symbolOfLength ∈ gT := gT_in (List.mem_of_getElem? (i := 197) (by decide +kernel)) (by decide +kernel)
theorem q_198 : Cond.code yX5_symbolOfLength cX5_symbolOfLength 1 (some .int) ∈ gT := gT_in (List.mem_of_getElem? (i := 198) (by decide +kernel)) (by decide +kernel)
theorem q_199 : Cond.methodLink RX5 57 yX1_append ∈ gT := gT_in (List.mem_of_getElem? (i := 199) (by decide +kernel)) (by decide +kernel)
theorem q_200 : Cond.instanceMethod yX1_append ∈ gT := gT_in (List.mem_of_getElem? (i := 200) (by decide +kernel)) (by decide +kernel)
theorem q_201 : Cond.selects RX1 yX1_append yX1_append ∈ gT := gT_in (List.mem_of_getElem? (i := 201) (by decide +kernel)) (by decide +kernel)
theorem q_202 : Cond.code yX1_append cX1_append 2 none ∈ gT := gT_in (List.mem_of_getElem? (i := 202) (by decide +kernel)) (by decide +kernel)
theorem q_203 : Cond.methodLink RX5 61 yX5_rowChanged ∈ gT := gT_in (List.mem_of_getElem? (i := 203) (by decide +kernel)) (by decide +kernel)
theorem q_205 : Cond.instanceMethod yX5_rowChanged ∈ gT := gT_in (List.mem_of_getElem? (i := 205) (by decide +kernel)) (by decide +kernel)
theorem q_206 : Cond.code yX5_rowChanged cX5_rowChanged 1 none ∈ gT := gT_in (List.mem_of_getElem? (i := 206) (by decide +kernel)) (by decide +kernel)
theorem q_207 : Cond.methodLink R_law 18 yX5_frames ∈ gT := gT_in (List.mem_of_getElem? (i := 207) (by decide +kernel)) (by decide +kernel)
theorem q_208 : Cond.instanceMethod yX5_frames ∈ gT := gT_in (List.mem_of_getElem? (i := 208) (by decide +kernel)) (by decide +kernel)
theorem q_209 : Cond.selects RX5 yX5_frames yX5_frames ∈ gT := gT_in (List.mem_of_getElem? (i := 209) (by decide +kernel)) (by decide +kernel)
theorem q_210 : Cond.code yX5_frames cX5_frames 5 (some .int) ∈ gT := gT_in (List.mem_of_getElem? (i := 210) (by decide +kernel)) (by decide +kernel)
theorem q_211 : Cond.constant RX5 64 (524287) ∈ gT := gT_in (List.mem_of_getElem? (i := 211) (by decide +kernel)) (by decide +kernel)
theorem q_212 : Cond.methodLink R_law 23 yX5_loses ∈ gT := gT_in (List.mem_of_getElem? (i := 212) (by decide +kernel)) (by decide +kernel)
theorem q_213 : Cond.instanceMethod yX5_loses ∈ gT := gT_in (List.mem_of_getElem? (i := 213) (by decide +kernel)) (by decide +kernel)
theorem q_214 : Cond.selects RX5 yX5_loses yX5_loses ∈ gT := gT_in (List.mem_of_getElem? (i := 214) (by decide +kernel)) (by decide +kernel)
theorem q_215 : Cond.code yX5_loses cX5_loses 2 (some .int) ∈ gT := gT_in (List.mem_of_getElem? (i := 215) (by decide +kernel)) (by decide +kernel)
theorem q_216 : Cond.methodLink RX5 65 yX1_dropFirst ∈ gT := gT_in (List.mem_of_getElem? (i := 216) (by decide +kernel)) (by decide +kernel)
theorem q_217 : Cond.instanceMethod yX1_dropFirst ∈ gT := gT_in (List.mem_of_getElem? (i := 217) (by decide +kernel)) (by decide +kernel)
theorem q_218 : Cond.selects RX1 yX1_dropFirst yX1_dropFirst ∈ gT := gT_in (List.mem_of_getElem? (i := 218) (by decide +kernel)) (by decide +kernel)
theorem q_219 : Cond.code yX1_dropFirst cX1_dropFirst 3 none ∈ gT := gT_in (List.mem_of_getElem? (i := 219) (by decide +kernel)) (by decide +kernel)
theorem q_220 : Cond.methodLink R_law 27 yX5_needs ∈ gT := gT_in (List.mem_of_getElem? (i := 220) (by decide +kernel)) (by decide +kernel)
theorem q_221 : Cond.instanceMethod yX5_needs ∈ gT := gT_in (List.mem_of_getElem? (i := 221) (by decide +kernel)) (by decide +kernel)
theorem q_222 : Cond.selects RX5 yX5_needs yX5_needs ∈ gT := gT_in (List.mem_of_getElem? (i := 222) (by decide +kernel)) (by decide +kernel)
theorem q_223 : Cond.code yX5_needs cX5_needs 3 (some .int) ∈ gT := gT_in (List.mem_of_getElem? (i := 223) (by decide +kernel)) (by decide +kernel)
theorem q_224 : Cond.methodLink R_law 31 yX5_drifts ∈ gT := gT_in (List.mem_of_getElem? (i := 224) (by decide +kernel)) (by decide +kernel)
theorem q_225 : Cond.instanceMethod yX5_drifts ∈ gT := gT_in (List.mem_of_getElem? (i := 225) (by decide +kernel)) (by decide +kernel)
theorem q_226 : Cond.selects RX5 yX5_drifts yX5_drifts ∈ gT := gT_in (List.mem_of_getElem? (i := 226) (by decide +kernel)) (by decide +kernel)
theorem q_227 : Cond.code yX5_drifts cX5_drifts 3 (some .int) ∈ gT := gT_in (List.mem_of_getElem? (i := 227) (by decide +kernel)) (by decide +kernel)
theorem q_228 : Cond.methodLink R_law 35 yX5_sets ∈ gT := gT_in (List.mem_of_getElem? (i := 228) (by decide +kernel)) (by decide +kernel)
theorem q_229 : Cond.instanceMethod yX5_sets ∈ gT := gT_in (List.mem_of_getElem? (i := 229) (by decide +kernel)) (by decide +kernel)
theorem q_230 : Cond.selects RX5 yX5_sets yX5_sets ∈ gT := gT_in (List.mem_of_getElem? (i := 230) (by decide +kernel)) (by decide +kernel)
theorem q_231 : Cond.code yX5_sets cX5_sets 1 (some .int) ∈ gT := gT_in (List.mem_of_getElem? (i := 231) (by decide +kernel)) (by decide +kernel)
theorem q_232 : Cond.methodLink RX5 74 yX5_isShown ∈ gT := gT_in (List.mem_of_getElem? (i := 232) (by decide +kernel)) (by decide +kernel)
theorem q_234 : Cond.instanceMethod yX5_isShown ∈ gT := gT_in (List.mem_of_getElem? (i := 234) (by decide +kernel)) (by decide +kernel)
theorem q_235 : Cond.code yX5_isShown cX5_isShown 1 (some .boolean) ∈ gT := gT_in (List.mem_of_getElem? (i := 235) (by decide +kernel)) (by decide +kernel)
theorem q_236 : Cond.methodLink RX5 113 yX5_fittingFrames ∈ gT := gT_in (List.mem_of_getElem? (i := 236) (by decide +kernel)) (by decide +kernel)
theorem q_238 : Cond.instanceMethod yX5_fittingFrames ∈ gT := gT_in (List.mem_of_getElem? (i := 238) (by decide +kernel)) (by decide +kernel)
theorem q_239 : Cond.code yX5_fittingFrames cX5_fittingFrames 1 (some (.object "MinuteSignal$Frames")) ∈ gT := gT_in (List.mem_of_getElem? (i := 239) (by decide +kernel)) (by decide +kernel)
theorem q_240 : Cond.methodLink RX5 195 yX0_cut ∈ gT := gT_in (List.mem_of_getElem? (i := 240) (by decide +kernel)) (by decide +kernel)
theorem q_241 : Cond.instanceMethod yX0_cut ∈ gT := gT_in (List.mem_of_getElem? (i := 241) (by decide +kernel)) (by decide +kernel)
theorem q_242 : Cond.selects RX0 yX0_cut yX0_cut ∈ gT := gT_in (List.mem_of_getElem? (i := 242) (by decide +kernel)) (by decide +kernel)
theorem q_243 : Cond.code yX0_cut cX0_cut 3 none ∈ gT := gT_in (List.mem_of_getElem? (i := 243) (by decide +kernel)) (by decide +kernel)
theorem q_244 : Cond.methodLink RX0 21 yX0_findPhase ∈ gT := gT_in (List.mem_of_getElem? (i := 244) (by decide +kernel)) (by decide +kernel)
theorem q_245 : Cond.instanceMethod yX0_findPhase ∈ gT := gT_in (List.mem_of_getElem? (i := 245) (by decide +kernel)) (by decide +kernel)
theorem q_246 : Cond.selects RX0 yX0_findPhase yX0_findPhase ∈ gT := gT_in (List.mem_of_getElem? (i := 246) (by decide +kernel)) (by decide +kernel)
theorem q_247 : Cond.code yX0_findPhase cX0_findPhase 3 none ∈ gT := gT_in (List.mem_of_getElem? (i := 247) (by decide +kernel)) (by decide +kernel)
theorem q_248 : Cond.methodLink RX0 25 yX0_firstOf ∈ gT := gT_in (List.mem_of_getElem? (i := 248) (by decide +kernel)) (by decide +kernel)
theorem q_249 : Cond.instanceMethod yX0_firstOf ∈ gT := gT_in (List.mem_of_getElem? (i := 249) (by decide +kernel)) (by decide +kernel)
theorem q_250 : Cond.selects RX0 yX0_firstOf yX0_firstOf ∈ gT := gT_in (List.mem_of_getElem? (i := 250) (by decide +kernel)) (by decide +kernel)
theorem q_251 : Cond.code yX0_firstOf cX0_firstOf 2 (some .int) ∈ gT := gT_in (List.mem_of_getElem? (i := 251) (by decide +kernel)) (by decide +kernel)
theorem q_252 : Cond.methodLink RX0 38 yX0_takeFrame ∈ gT := gT_in (List.mem_of_getElem? (i := 252) (by decide +kernel)) (by decide +kernel)
theorem q_253 : Cond.instanceMethod yX0_takeFrame ∈ gT := gT_in (List.mem_of_getElem? (i := 253) (by decide +kernel)) (by decide +kernel)
theorem q_254 : Cond.selects RX0 yX0_takeFrame yX0_takeFrame ∈ gT := gT_in (List.mem_of_getElem? (i := 254) (by decide +kernel)) (by decide +kernel)
theorem q_255 : Cond.code yX0_takeFrame cX0_takeFrame 7 none ∈ gT := gT_in (List.mem_of_getElem? (i := 255) (by decide +kernel)) (by decide +kernel)
theorem q_256 : Cond.methodLink RX5 78 yX5_fittingVote ∈ gT := gT_in (List.mem_of_getElem? (i := 256) (by decide +kernel)) (by decide +kernel)
theorem q_258 : Cond.instanceMethod yX5_fittingVote ∈ gT := gT_in (List.mem_of_getElem? (i := 258) (by decide +kernel)) (by decide +kernel)
theorem q_259 : Cond.code yX5_fittingVote cX5_fittingVote 1 (some (.object "MinuteSignal$Vote")) ∈ gT := gT_in (List.mem_of_getElem? (i := 259) (by decide +kernel)) (by decide +kernel)
theorem q_260 : Cond.methodLink RX5 198 yX4_take ∈ gT := gT_in (List.mem_of_getElem? (i := 260) (by decide +kernel)) (by decide +kernel)
theorem q_261 : Cond.instanceMethod yX4_take ∈ gT := gT_in (List.mem_of_getElem? (i := 261) (by decide +kernel)) (by decide +kernel)
theorem q_262 : Cond.selects RX4 yX4_take yX4_take ∈ gT := gT_in (List.mem_of_getElem? (i := 262) (by decide +kernel)) (by decide +kernel)
theorem q_263 : Cond.code yX4_take cX4_take 2 none ∈ gT := gT_in (List.mem_of_getElem? (i := 263) (by decide +kernel)) (by decide +kernel)
theorem q_264 : Cond.methodLink RX4 27 yX4_countByMinute ∈ gT := gT_in (List.mem_of_getElem? (i := 264) (by decide +kernel)) (by decide +kernel)
theorem q_265 : Cond.instanceMethod yX4_countByMinute ∈ gT := gT_in (List.mem_of_getElem? (i := 265) (by decide +kernel)) (by decide +kernel)
theorem q_266 : Cond.selects RX4 yX4_countByMinute yX4_countByMinute ∈ gT := gT_in (List.mem_of_getElem? (i := 266) (by decide +kernel)) (by decide +kernel)
theorem q_267 : Cond.code yX4_countByMinute cX4_countByMinute 6 none ∈ gT := gT_in (List.mem_of_getElem? (i := 267) (by decide +kernel)) (by decide +kernel)
theorem q_268 : Cond.methodLink RX4 49 yX3_bitsOf ∈ gT := gT_in (List.mem_of_getElem? (i := 268) (by decide +kernel)) (by decide +kernel)
theorem q_269 : Cond.static yX3_bitsOf ∈ gT := gT_in (List.mem_of_getElem? (i := 269) (by decide +kernel)) (by decide +kernel)
theorem q_270 : Cond.code yX3_bitsOf cX3_bitsOf 8 (some .int) ∈ gT := gT_in (List.mem_of_getElem? (i := 270) (by decide +kernel)) (by decide +kernel)
theorem q_271 : Cond.methodLink RX3 15 yX3_minuteOf ∈ gT := gT_in (List.mem_of_getElem? (i := 271) (by decide +kernel)) (by decide +kernel)
theorem q_272 : Cond.static yX3_minuteOf ∈ gT := gT_in (List.mem_of_getElem? (i := 272) (by decide +kernel)) (by decide +kernel)
theorem q_273 : Cond.code yX3_minuteOf cX3_minuteOf 1 (some .int) ∈ gT := gT_in (List.mem_of_getElem? (i := 273) (by decide +kernel)) (by decide +kernel)
theorem q_274 : Cond.methodLink RX3 22 yX3_shiftOf ∈ gT := gT_in (List.mem_of_getElem? (i := 274) (by decide +kernel)) (by decide +kernel)
theorem q_275 : Cond.static yX3_shiftOf ∈ gT := gT_in (List.mem_of_getElem? (i := 275) (by decide +kernel)) (by decide +kernel)
theorem q_276 : Cond.code yX3_shiftOf cX3_shiftOf 1 (some .int) ∈ gT := gT_in (List.mem_of_getElem? (i := 276) (by decide +kernel)) (by decide +kernel)
theorem q_277 : Cond.methodLink RX3 25 yX3_leapOf ∈ gT := gT_in (List.mem_of_getElem? (i := 277) (by decide +kernel)) (by decide +kernel)
theorem q_278 : Cond.static yX3_leapOf ∈ gT := gT_in (List.mem_of_getElem? (i := 278) (by decide +kernel)) (by decide +kernel)
theorem q_279 : Cond.code yX3_leapOf cX3_leapOf 1 (some .int) ∈ gT := gT_in (List.mem_of_getElem? (i := 279) (by decide +kernel)) (by decide +kernel)
theorem q_280 : Cond.methodLink RX3 19 yX3_summerOf ∈ gT := gT_in (List.mem_of_getElem? (i := 280) (by decide +kernel)) (by decide +kernel)
theorem q_281 : Cond.static yX3_summerOf ∈ gT := gT_in (List.mem_of_getElem? (i := 281) (by decide +kernel)) (by decide +kernel)
theorem q_282 : Cond.code yX3_summerOf cX3_summerOf 1 (some .int) ∈ gT := gT_in (List.mem_of_getElem? (i := 282) (by decide +kernel)) (by decide +kernel)
theorem q_283 : Cond.methodLink RX3 35 yJ6_bitCount_0f7a4 ∈ gT := gT_in (List.mem_of_getElem? (i := 283) (by decide +kernel)) (by decide +kernel)
theorem q_284 : Cond.static yJ6_bitCount_0f7a4 ∈ gT := gT_in (List.mem_of_getElem? (i := 284) (by decide +kernel)) (by decide +kernel)
theorem q_285 : Cond.code yJ6_bitCount_0f7a4 cJ6_bitCount_0f7a4 1 (some .int) ∈ gT := gT_in (List.mem_of_getElem? (i := 285) (by decide +kernel)) (by decide +kernel)
theorem q_286 : Cond.constant RJ6 265 (1431655765) ∈ gT := gT_in (List.mem_of_getElem? (i := 286) (by decide +kernel)) (by decide +kernel)
theorem q_287 : Cond.constant RJ6 266 (858993459) ∈ gT := gT_in (List.mem_of_getElem? (i := 287) (by decide +kernel)) (by decide +kernel)
theorem q_288 : Cond.constant RJ6 267 (252645135) ∈ gT := gT_in (List.mem_of_getElem? (i := 288) (by decide +kernel)) (by decide +kernel)
theorem q_289 : Cond.methodLink RX4 53 yX0_missesOf ∈ gT := gT_in (List.mem_of_getElem? (i := 289) (by decide +kernel)) (by decide +kernel)
theorem q_290 : Cond.instanceMethod yX0_missesOf ∈ gT := gT_in (List.mem_of_getElem? (i := 290) (by decide +kernel)) (by decide +kernel)
theorem q_291 : Cond.selects RX0 yX0_missesOf yX0_missesOf ∈ gT := gT_in (List.mem_of_getElem? (i := 291) (by decide +kernel)) (by decide +kernel)
theorem q_292 : Cond.code yX0_missesOf cX0_missesOf 4 (some .int) ∈ gT := gT_in (List.mem_of_getElem? (i := 292) (by decide +kernel)) (by decide +kernel)
theorem q_293 : Cond.methodLink RX0 53 yJ6_bitCount_0f7a4 ∈ gT := gT_in (List.mem_of_getElem? (i := 293) (by decide +kernel)) (by decide +kernel)
theorem q_294 : Cond.methodLink RX4 31 yX4_countByHour ∈ gT := gT_in (List.mem_of_getElem? (i := 294) (by decide +kernel)) (by decide +kernel)
theorem q_295 : Cond.instanceMethod yX4_countByHour ∈ gT := gT_in (List.mem_of_getElem? (i := 295) (by decide +kernel)) (by decide +kernel)
theorem q_296 : Cond.selects RX4 yX4_countByHour yX4_countByHour ∈ gT := gT_in (List.mem_of_getElem? (i := 296) (by decide +kernel)) (by decide +kernel)
theorem q_297 : Cond.code yX4_countByHour cX4_countByHour 7 none ∈ gT := gT_in (List.mem_of_getElem? (i := 297) (by decide +kernel)) (by decide +kernel)
theorem q_298 : Cond.methodLink RX4 57 yX4_timeAt ∈ gT := gT_in (List.mem_of_getElem? (i := 298) (by decide +kernel)) (by decide +kernel)
theorem q_299 : Cond.static yX4_timeAt ∈ gT := gT_in (List.mem_of_getElem? (i := 299) (by decide +kernel)) (by decide +kernel)
theorem q_300 : Cond.code yX4_timeAt cX4_timeAt 2 (some .int) ∈ gT := gT_in (List.mem_of_getElem? (i := 300) (by decide +kernel)) (by decide +kernel)
theorem q_301 : Cond.methodLink RX4 60 yX3_next ∈ gT := gT_in (List.mem_of_getElem? (i := 301) (by decide +kernel)) (by decide +kernel)
theorem q_302 : Cond.static yX3_next ∈ gT := gT_in (List.mem_of_getElem? (i := 302) (by decide +kernel)) (by decide +kernel)
theorem q_303 : Cond.code yX3_next cX3_next 3 (some .int) ∈ gT := gT_in (List.mem_of_getElem? (i := 303) (by decide +kernel)) (by decide +kernel)
theorem q_304 : Cond.methodLink RX3 28 yX3_of ∈ gT := gT_in (List.mem_of_getElem? (i := 304) (by decide +kernel)) (by decide +kernel)
theorem q_305 : Cond.static yX3_of ∈ gT := gT_in (List.mem_of_getElem? (i := 305) (by decide +kernel)) (by decide +kernel)
theorem q_306 : Cond.code yX3_of cX3_of 4 (some .int) ∈ gT := gT_in (List.mem_of_getElem? (i := 306) (by decide +kernel)) (by decide +kernel)
theorem q_307 : Cond.constant RX4 63 (520207) ∈ gT := gT_in (List.mem_of_getElem? (i := 307) (by decide +kernel)) (by decide +kernel)
theorem q_308 : Cond.methodLink RX4 34 yX4_choose ∈ gT := gT_in (List.mem_of_getElem? (i := 308) (by decide +kernel)) (by decide +kernel)
theorem q_309 : Cond.instanceMethod yX4_choose ∈ gT := gT_in (List.mem_of_getElem? (i := 309) (by decide +kernel)) (by decide +kernel)
theorem q_310 : Cond.selects RX4 yX4_choose yX4_choose ∈ gT := gT_in (List.mem_of_getElem? (i := 310) (by decide +kernel)) (by decide +kernel)
theorem q_311 : Cond.code yX4_choose cX4_choose 4 none ∈ gT := gT_in (List.mem_of_getElem? (i := 311) (by decide +kernel)) (by decide +kernel)
theorem q_312 : Cond.methodLink RX4 72 yX4_missesAt ∈ gT := gT_in (List.mem_of_getElem? (i := 312) (by decide +kernel)) (by decide +kernel)
theorem q_313 : Cond.instanceMethod yX4_missesAt ∈ gT := gT_in (List.mem_of_getElem? (i := 313) (by decide +kernel)) (by decide +kernel)
theorem q_314 : Cond.selects RX4 yX4_missesAt yX4_missesAt ∈ gT := gT_in (List.mem_of_getElem? (i := 314) (by decide +kernel)) (by decide +kernel)
theorem q_315 : Cond.code yX4_missesAt cX4_missesAt 4 (some .int) ∈ gT := gT_in (List.mem_of_getElem? (i := 315) (by decide +kernel)) (by decide +kernel)
theorem q_316 : Cond.methodLink RX4 64 yX3_minuteOf ∈ gT := gT_in (List.mem_of_getElem? (i := 316) (by decide +kernel)) (by decide +kernel)
theorem q_317 : Cond.methodLink RX4 67 yJ9_min_7cf53 ∈ gT := gT_in (List.mem_of_getElem? (i := 317) (by decide +kernel)) (by decide +kernel)
theorem q_318 : Cond.methodLink RX4 40 yX3_later ∈ gT := gT_in (List.mem_of_getElem? (i := 318) (by decide +kernel)) (by decide +kernel)
theorem q_319 : Cond.static yX3_later ∈ gT := gT_in (List.mem_of_getElem? (i := 319) (by decide +kernel)) (by decide +kernel)
theorem q_320 : Cond.code yX3_later cX3_later 4 (some .int) ∈ gT := gT_in (List.mem_of_getElem? (i := 320) (by decide +kernel)) (by decide +kernel)
theorem q_321 : Cond.methodLink RX3 32 yX3_next ∈ gT := gT_in (List.mem_of_getElem? (i := 321) (by decide +kernel)) (by decide +kernel)
theorem q_322 : Cond.methodLink RX5 91 yX3_minuteOf ∈ gT := gT_in (List.mem_of_getElem? (i := 322) (by decide +kernel)) (by decide +kernel)
theorem q_323 : Cond.methodLink R_law 40 yX5_goes ∈ gT := gT_in (List.mem_of_getElem? (i := 323) (by decide +kernel)) (by decide +kernel)
theorem q_324 : Cond.instanceMethod yX5_goes ∈ gT := gT_in (List.mem_of_getElem? (i := 324) (by decide +kernel)) (by decide +kernel)
theorem q_325 : Cond.selects RX5 yX5_goes yX5_goes ∈ gT := gT_in (List.mem_of_getElem? (i := 325) (by decide +kernel)) (by decide +kernel)
theorem q_326 : Cond.code yX5_goes cX5_goes 2 (some .int) ∈ gT := gT_in (List.mem_of_getElem? (i := 326) (by decide +kernel)) (by decide +kernel)
theorem q_327 : Cond.methodLink RX5 96 yX3_later ∈ gT := gT_in (List.mem_of_getElem? (i := 327) (by decide +kernel)) (by decide +kernel)
theorem q_328 : Cond.methodLink RX5 100 yJ9_min_7cf53 ∈ gT := gT_in (List.mem_of_getElem? (i := 328) (by decide +kernel)) (by decide +kernel)
theorem q_329 : Cond.methodLink R_law 44 yX5_undo ∈ gT := gT_in (List.mem_of_getElem? (i := 329) (by decide +kernel)) (by decide +kernel)
theorem q_330 : Cond.instanceMethod yX5_undo ∈ gT := gT_in (List.mem_of_getElem? (i := 330) (by decide +kernel)) (by decide +kernel)
theorem q_331 : Cond.selects RX5 yX5_undo yX5_undo ∈ gT := gT_in (List.mem_of_getElem? (i := 331) (by decide +kernel)) (by decide +kernel)
theorem q_332 : Cond.code yX5_undo cX5_undo 1 (some .int) ∈ gT := gT_in (List.mem_of_getElem? (i := 332) (by decide +kernel)) (by decide +kernel)
theorem q_333 : Cond.methodLink RX5 106 yX2_recall ∈ gT := gT_in (List.mem_of_getElem? (i := 333) (by decide +kernel)) (by decide +kernel)
theorem q_334 : Cond.instanceMethod yX2_recall ∈ gT := gT_in (List.mem_of_getElem? (i := 334) (by decide +kernel)) (by decide +kernel)
theorem q_335 : Cond.selects RX2 yX2_recall yX2_recall ∈ gT := gT_in (List.mem_of_getElem? (i := 335) (by decide +kernel)) (by decide +kernel)
theorem q_336 : Cond.code yX2_recall cX2_recall 2 none ∈ gT := gT_in (List.mem_of_getElem? (i := 336) (by decide +kernel)) (by decide +kernel)
theorem q_337 : Cond.methodLink R_law 48 yX5_symbol ∈ gT := gT_in (List.mem_of_getElem? (i := 337) (by decide +kernel)) (by decide +kernel)
theorem q_338 : Cond.instanceMethod yX5_symbol ∈ gT := gT_in (List.mem_of_getElem? (i := 338) (by decide +kernel)) (by decide +kernel)
theorem q_339 : Cond.selects RX5 yX5_symbol yX5_symbol ∈ gT := gT_in (List.mem_of_getElem? (i := 339) (by decide +kernel)) (by decide +kernel)
theorem q_340 : Cond.code yX5_symbol cX5_symbol 2 (some .int) ∈ gT := gT_in (List.mem_of_getElem? (i := 340) (by decide +kernel)) (by decide +kernel)
theorem q_341 : Cond.methodLink R_law 52 yX5_read ∈ gT := gT_in (List.mem_of_getElem? (i := 341) (by decide +kernel)) (by decide +kernel)
theorem q_342 : Cond.instanceMethod yX5_read ∈ gT := gT_in (List.mem_of_getElem? (i := 342) (by decide +kernel)) (by decide +kernel)
theorem q_343 : Cond.selects RX5 yX5_read yX5_read ∈ gT := gT_in (List.mem_of_getElem? (i := 343) (by decide +kernel)) (by decide +kernel)
theorem q_344 : Cond.code yX5_read cX5_read 4 (some .int) ∈ gT := gT_in (List.mem_of_getElem? (i := 344) (by decide +kernel)) (by decide +kernel)
theorem q_345 : Cond.methodLink RX5 120 yX0_firstOf ∈ gT := gT_in (List.mem_of_getElem? (i := 345) (by decide +kernel)) (by decide +kernel)
theorem q_346 : Cond.methodLink RX5 123 yX0_parity ∈ gT := gT_in (List.mem_of_getElem? (i := 346) (by decide +kernel)) (by decide +kernel)
theorem q_347 : Cond.instanceMethod yX0_parity ∈ gT := gT_in (List.mem_of_getElem? (i := 347) (by decide +kernel)) (by decide +kernel)
theorem q_348 : Cond.selects RX0 yX0_parity yX0_parity ∈ gT := gT_in (List.mem_of_getElem? (i := 348) (by decide +kernel)) (by decide +kernel)
theorem q_349 : Cond.code yX0_parity cX0_parity 3 (some .int) ∈ gT := gT_in (List.mem_of_getElem? (i := 349) (by decide +kernel)) (by decide +kernel)
theorem q_350 : Cond.methodLink RX0 49 yX0_allClear ∈ gT := gT_in (List.mem_of_getElem? (i := 350) (by decide +kernel)) (by decide +kernel)
theorem q_351 : Cond.instanceMethod yX0_allClear ∈ gT := gT_in (List.mem_of_getElem? (i := 351) (by decide +kernel)) (by decide +kernel)
theorem q_352 : Cond.selects RX0 yX0_allClear yX0_allClear ∈ gT := gT_in (List.mem_of_getElem? (i := 352) (by decide +kernel)) (by decide +kernel)
theorem q_353 : Cond.code yX0_allClear cX0_allClear 3 (some .boolean) ∈ gT := gT_in (List.mem_of_getElem? (i := 353) (by decide +kernel)) (by decide +kernel)
theorem q_354 : Cond.constant RX5 126 (520192) ∈ gT := gT_in (List.mem_of_getElem? (i := 354) (by decide +kernel)) (by decide +kernel)
theorem q_355 : Cond.methodLink RX5 127 yX0_minuteOfHour ∈ gT := gT_in (List.mem_of_getElem? (i := 355) (by decide +kernel)) (by decide +kernel)
theorem q_356 : Cond.instanceMethod yX0_minuteOfHour ∈ gT := gT_in (List.mem_of_getElem? (i := 356) (by decide +kernel)) (by decide +kernel)
theorem q_357 : Cond.selects RX0 yX0_minuteOfHour yX0_minuteOfHour ∈ gT := gT_in (List.mem_of_getElem? (i := 357) (by decide +kernel)) (by decide +kernel)
theorem q_358 : Cond.code yX0_minuteOfHour cX0_minuteOfHour 2 (some .int) ∈ gT := gT_in (List.mem_of_getElem? (i := 358) (by decide +kernel)) (by decide +kernel)
theorem q_359 : Cond.methodLink RX0 58 yX0_byFigures ∈ gT := gT_in (List.mem_of_getElem? (i := 359) (by decide +kernel)) (by decide +kernel)
theorem q_360 : Cond.static yX0_byFigures ∈ gT := gT_in (List.mem_of_getElem? (i := 360) (by decide +kernel)) (by decide +kernel)
theorem q_361 : Cond.code yX0_byFigures cX0_byFigures 4 (some .int) ∈ gT := gT_in (List.mem_of_getElem? (i := 361) (by decide +kernel)) (by decide +kernel)
theorem q_362 : Cond.methodLink RX5 130 yX0_hour ∈ gT := gT_in (List.mem_of_getElem? (i := 362) (by decide +kernel)) (by decide +kernel)
theorem q_363 : Cond.instanceMethod yX0_hour ∈ gT := gT_in (List.mem_of_getElem? (i := 363) (by decide +kernel)) (by decide +kernel)
theorem q_364 : Cond.selects RX0 yX0_hour yX0_hour ∈ gT := gT_in (List.mem_of_getElem? (i := 364) (by decide +kernel)) (by decide +kernel)
theorem q_365 : Cond.code yX0_hour cX0_hour 2 (some .int) ∈ gT := gT_in (List.mem_of_getElem? (i := 365) (by decide +kernel)) (by decide +kernel)
theorem q_366 : Cond.constant RX0 62 (258048) ∈ gT := gT_in (List.mem_of_getElem? (i := 366) (by decide +kernel)) (by decide +kernel)
theorem q_367 : Cond.methodLink RX5 136 yX0_wrong ∈ gT := gT_in (List.mem_of_getElem? (i := 367) (by decide +kernel)) (by decide +kernel)
theorem q_368 : Cond.instanceMethod yX0_wrong ∈ gT := gT_in (List.mem_of_getElem? (i := 368) (by decide +kernel)) (by decide +kernel)
theorem q_369 : Cond.selects RX0 yX0_wrong yX0_wrong ∈ gT := gT_in (List.mem_of_getElem? (i := 369) (by decide +kernel)) (by decide +kernel)
theorem q_370 : Cond.code yX0_wrong cX0_wrong 3 (some .int) ∈ gT := gT_in (List.mem_of_getElem? (i := 370) (by decide +kernel)) (by decide +kernel)
theorem q_371 : Cond.methodLink RX0 63 yX3_bitsOf ∈ gT := gT_in (List.mem_of_getElem? (i := 371) (by decide +kernel)) (by decide +kernel)
theorem q_372 : Cond.methodLink RX5 139 yX5_symbol ∈ gT := gT_in (List.mem_of_getElem? (i := 372) (by decide +kernel)) (by decide +kernel)
theorem q_373 : Cond.methodLink R_law 56 yX5_vote ∈ gT := gT_in (List.mem_of_getElem? (i := 373) (by decide +kernel)) (by decide +kernel)
theorem q_374 : Cond.instanceMethod yX5_vote ∈ gT := gT_in (List.mem_of_getElem? (i := 374) (by decide +kernel)) (by decide +kernel)
theorem q_375 : Cond.selects RX5 yX5_vote yX5_vote ∈ gT := gT_in (List.mem_of_getElem? (i := 375) (by decide +kernel)) (by decide +kernel)
theorem q_376 : Cond.code yX5_vote cX5_vote 3 (some .int) ∈ gT := gT_in (List.mem_of_getElem? (i := 376) (by decide +kernel)) (by decide +kernel)
theorem q_377 : Cond.methodLink RX5 148 yX3_partOf ∈ gT := gT_in (List.mem_of_getElem? (i := 377) (by decide +kernel)) (by decide +kernel)
theorem q_378 : Cond.static yX3_partOf ∈ gT := gT_in (List.mem_of_getElem? (i := 378) (by decide +kernel)) (by decide +kernel)
theorem q_379 : Cond.code yX3_partOf cX3_partOf 2 (some .int) ∈ gT := gT_in (List.mem_of_getElem? (i := 379) (by decide +kernel)) (by decide +kernel)
theorem q_380 : Cond.methodLink R_law 60 yX5_misses ∈ gT := gT_in (List.mem_of_getElem? (i := 380) (by decide +kernel)) (by decide +kernel)
theorem q_381 : Cond.instanceMethod yX5_misses ∈ gT := gT_in (List.mem_of_getElem? (i := 381) (by decide +kernel)) (by decide +kernel)
theorem q_382 : Cond.selects RX5 yX5_misses yX5_misses ∈ gT := gT_in (List.mem_of_getElem? (i := 382) (by decide +kernel)) (by decide +kernel)
theorem q_383 : Cond.code yX5_misses cX5_misses 5 (some .int) ∈ gT := gT_in (List.mem_of_getElem? (i := 383) (by decide +kernel)) (by decide +kernel)
theorem q_384 : Cond.methodLink RX5 151 yX3_isTime ∈ gT := gT_in (List.mem_of_getElem? (i := 384) (by decide +kernel)) (by decide +kernel)
theorem q_385 : Cond.static yX3_isTime ∈ gT := gT_in (List.mem_of_getElem? (i := 385) (by decide +kernel)) (by decide +kernel)
theorem q_386 : Cond.code yX3_isTime cX3_isTime 4 (some .boolean) ∈ gT := gT_in (List.mem_of_getElem? (i := 386) (by decide +kernel)) (by decide +kernel)
theorem q_387 : Cond.methodLink RX3 9 yX3_isSign ∈ gT := gT_in (List.mem_of_getElem? (i := 387) (by decide +kernel)) (by decide +kernel)
theorem q_388 : Cond.static yX3_isSign ∈ gT := gT_in (List.mem_of_getElem? (i := 388) (by decide +kernel)) (by decide +kernel)
theorem q_389 : Cond.code yX3_isSign cX3_isSign 1 (some .boolean) ∈ gT := gT_in (List.mem_of_getElem? (i := 389) (by decide +kernel)) (by decide +kernel)
theorem q_390 : Cond.methodLink RX5 155 yX3_of ∈ gT := gT_in (List.mem_of_getElem? (i := 390) (by decide +kernel)) (by decide +kernel)
theorem q_391 : Cond.methodLink RX5 159 yX0_missesFrom ∈ gT := gT_in (List.mem_of_getElem? (i := 391) (by decide +kernel)) (by decide +kernel)
theorem q_392 : Cond.instanceMethod yX0_missesFrom ∈ gT := gT_in (List.mem_of_getElem? (i := 392) (by decide +kernel)) (by decide +kernel)
theorem q_393 : Cond.selects RX0 yX0_missesFrom yX0_missesFrom ∈ gT := gT_in (List.mem_of_getElem? (i := 393) (by decide +kernel)) (by decide +kernel)
theorem q_394 : Cond.code yX0_missesFrom cX0_missesFrom 5 (some .int) ∈ gT := gT_in (List.mem_of_getElem? (i := 394) (by decide +kernel)) (by decide +kernel)
theorem q_395 : Cond.constant RX0 68 (524287) ∈ gT := gT_in (List.mem_of_getElem? (i := 395) (by decide +kernel)) (by decide +kernel)
theorem q_396 : Cond.methodLink RX0 69 yX0_missesOf ∈ gT := gT_in (List.mem_of_getElem? (i := 396) (by decide +kernel)) (by decide +kernel)
theorem q_397 : Cond.methodLink RX0 72 yX3_next ∈ gT := gT_in (List.mem_of_getElem? (i := 397) (by decide +kernel)) (by decide +kernel)
theorem q_398 : Cond.methodLink R_law 65 yX5_close ∈ gT := gT_in (List.mem_of_getElem? (i := 398) (by decide +kernel)) (by decide +kernel)
theorem q_399 : Cond.instanceMethod yX5_close ∈ gT := gT_in (List.mem_of_getElem? (i := 399) (by decide +kernel)) (by decide +kernel)
theorem q_400 : Cond.selects RX5 yX5_close yX5_close ∈ gT := gT_in (List.mem_of_getElem? (i := 400) (by decide +kernel)) (by decide +kernel)
theorem q_401 : Cond.code yX5_close cX5_close 4 (some .int) ∈ gT := gT_in (List.mem_of_getElem? (i := 401) (by decide +kernel)) (by decide +kernel)
theorem q_402 : Cond.methodLink RX5 162 yX4_closeCount ∈ gT := gT_in (List.mem_of_getElem? (i := 402) (by decide +kernel)) (by decide +kernel)
theorem q_403 : Cond.instanceMethod yX4_closeCount ∈ gT := gT_in (List.mem_of_getElem? (i := 403) (by decide +kernel)) (by decide +kernel)
theorem q_404 : Cond.selects RX4 yX4_closeCount yX4_closeCount ∈ gT := gT_in (List.mem_of_getElem? (i := 404) (by decide +kernel)) (by decide +kernel)
theorem q_405 : Cond.code yX4_closeCount cX4_closeCount 4 (some .int) ∈ gT := gT_in (List.mem_of_getElem? (i := 405) (by decide +kernel)) (by decide +kernel)
theorem q_406 : Cond.methodLink RX5 165 yX4_closeTime ∈ gT := gT_in (List.mem_of_getElem? (i := 406) (by decide +kernel)) (by decide +kernel)
theorem q_407 : Cond.instanceMethod yX4_closeTime ∈ gT := gT_in (List.mem_of_getElem? (i := 407) (by decide +kernel)) (by decide +kernel)
theorem q_408 : Cond.selects RX4 yX4_closeTime yX4_closeTime ∈ gT := gT_in (List.mem_of_getElem? (i := 408) (by decide +kernel)) (by decide +kernel)
theorem q_409 : Cond.code yX4_closeTime cX4_closeTime 5 (some .int) ∈ gT := gT_in (List.mem_of_getElem? (i := 409) (by decide +kernel)) (by decide +kernel)
theorem q_410 : Cond.methodLink R_law 69 yX5_bits ∈ gT := gT_in (List.mem_of_getElem? (i := 410) (by decide +kernel)) (by decide +kernel)
theorem q_411 : Cond.instanceMethod yX5_bits ∈ gT := gT_in (List.mem_of_getElem? (i := 411) (by decide +kernel)) (by decide +kernel)
theorem q_412 : Cond.selects RX5 yX5_bits yX5_bits ∈ gT := gT_in (List.mem_of_getElem? (i := 412) (by decide +kernel)) (by decide +kernel)
theorem q_413 : Cond.code yX5_bits cX5_bits 5 (some .int) ∈ gT := gT_in (List.mem_of_getElem? (i := 413) (by decide +kernel)) (by decide +kernel)
theorem q_414 : Cond.methodLink RX5 168 yX3_bitsOf ∈ gT := gT_in (List.mem_of_getElem? (i := 414) (by decide +kernel)) (by decide +kernel)
theorem q_415 : Cond.methodLink R_law 73 yX5_clock ∈ gT := gT_in (List.mem_of_getElem? (i := 415) (by decide +kernel)) (by decide +kernel)
theorem q_416 : Cond.instanceMethod yX5_clock ∈ gT := gT_in (List.mem_of_getElem? (i := 416) (by decide +kernel)) (by decide +kernel)
theorem q_417 : Cond.selects RX5 yX5_clock yX5_clock ∈ gT := gT_in (List.mem_of_getElem? (i := 417) (by decide +kernel)) (by decide +kernel)
theorem q_418 : Cond.code yX5_clock cX5_clock 2 (some .int) ∈ gT := gT_in (List.mem_of_getElem? (i := 418) (by decide +kernel)) (by decide +kernel)
theorem q_419 : Cond.constant RX5 171 (-1000000) ∈ gT := gT_in (List.mem_of_getElem? (i := 419) (by decide +kernel)) (by decide +kernel)
theorem q_420 : Cond.methodLink RX5 172 yX5_drifted ∈ gT := gT_in (List.mem_of_getElem? (i := 420) (by decide +kernel)) (by decide +kernel)
theorem q_422 : Cond.instanceMethod yX5_drifted ∈ gT := gT_in (List.mem_of_getElem? (i := 422) (by decide +kernel)) (by decide +kernel)
theorem q_423 : Cond.code yX5_drifted cX5_drifted 1 (some .int) ∈ gT := gT_in (List.mem_of_getElem? (i := 423) (by decide +kernel)) (by decide +kernel)
theorem q_424 : Cond.methodLink RX5 176 yX5_apart ∈ gT := gT_in (List.mem_of_getElem? (i := 424) (by decide +kernel)) (by decide +kernel)
theorem q_426 : Cond.instanceMethod yX5_apart ∈ gT := gT_in (List.mem_of_getElem? (i := 426) (by decide +kernel)) (by decide +kernel)
theorem q_427 : Cond.code yX5_apart cX5_apart 3 (some .int) ∈ gT := gT_in (List.mem_of_getElem? (i := 427) (by decide +kernel)) (by decide +kernel)
theorem q_428 : Cond.methodLink RX5 202 yJ9_floorMod_7cf53 ∈ gT := gT_in (List.mem_of_getElem? (i := 428) (by decide +kernel)) (by decide +kernel)
theorem q_429 : Cond.static yJ9_floorMod_7cf53 ∈ gT := gT_in (List.mem_of_getElem? (i := 429) (by decide +kernel)) (by decide +kernel)
theorem q_430 : Cond.code yJ9_floorMod_7cf53 cJ9_floorMod_7cf53 3 (some .int) ∈ gT := gT_in (List.mem_of_getElem? (i := 430) (by decide +kernel)) (by decide +kernel)
theorem q_431 : Cond.methodLink R_law 77 yX5_keep ∈ gT := gT_in (List.mem_of_getElem? (i := 431) (by decide +kernel)) (by decide +kernel)
theorem q_432 : Cond.instanceMethod yX5_keep ∈ gT := gT_in (List.mem_of_getElem? (i := 432) (by decide +kernel)) (by decide +kernel)
theorem q_433 : Cond.selects RX5 yX5_keep yX5_keep ∈ gT := gT_in (List.mem_of_getElem? (i := 433) (by decide +kernel)) (by decide +kernel)
theorem q_434 : Cond.code yX5_keep cX5_keep 2 (some .int) ∈ gT := gT_in (List.mem_of_getElem? (i := 434) (by decide +kernel)) (by decide +kernel)
theorem q_435 : Cond.methodLink RX5 179 yX1_copyFrom ∈ gT := gT_in (List.mem_of_getElem? (i := 435) (by decide +kernel)) (by decide +kernel)
theorem q_436 : Cond.methodLink R_law 81 yX5_back ∈ gT := gT_in (List.mem_of_getElem? (i := 436) (by decide +kernel)) (by decide +kernel)
theorem q_437 : Cond.instanceMethod yX5_back ∈ gT := gT_in (List.mem_of_getElem? (i := 437) (by decide +kernel)) (by decide +kernel)
theorem q_438 : Cond.selects RX5 yX5_back yX5_back ∈ gT := gT_in (List.mem_of_getElem? (i := 438) (by decide +kernel)) (by decide +kernel)
theorem q_439 : Cond.code yX5_back cX5_back 2 (some .int) ∈ gT := gT_in (List.mem_of_getElem? (i := 439) (by decide +kernel)) (by decide +kernel)
theorem q_440 : Cond.methodLink RX5 182 yX2_forget ∈ gT := gT_in (List.mem_of_getElem? (i := 440) (by decide +kernel)) (by decide +kernel)
theorem q_441 : Cond.instanceMethod yX2_forget ∈ gT := gT_in (List.mem_of_getElem? (i := 441) (by decide +kernel)) (by decide +kernel)
theorem q_442 : Cond.selects RX2 yX2_forget yX2_forget ∈ gT := gT_in (List.mem_of_getElem? (i := 442) (by decide +kernel)) (by decide +kernel)
theorem q_443 : Cond.code yX2_forget cX2_forget 1 none ∈ gT := gT_in (List.mem_of_getElem? (i := 443) (by decide +kernel)) (by decide +kernel)
theorem q_444 : Cond.methodLink R_law 85 yX5_count ∈ gT := gT_in (List.mem_of_getElem? (i := 444) (by decide +kernel)) (by decide +kernel)
theorem q_445 : Cond.instanceMethod yX5_count ∈ gT := gT_in (List.mem_of_getElem? (i := 445) (by decide +kernel)) (by decide +kernel)
theorem q_446 : Cond.selects RX5 yX5_count yX5_count ∈ gT := gT_in (List.mem_of_getElem? (i := 446) (by decide +kernel)) (by decide +kernel)
theorem q_447 : Cond.code yX5_count cX5_count 2 (some .int) ∈ gT := gT_in (List.mem_of_getElem? (i := 447) (by decide +kernel)) (by decide +kernel)
theorem q_450 : Cond.methodLink R_law 12 yX6_init ∈ gT := gT_in (List.mem_of_getElem? (i := 450) (by decide +kernel)) (by decide +kernel)
theorem q_451 : Cond.instanceMethod yX6_init ∈ gT := gT_in (List.mem_of_getElem? (i := 451) (by decide +kernel)) (by decide +kernel)
theorem q_452 : Cond.code yX6_init cX6_init 1 none ∈ gT := gT_in (List.mem_of_getElem? (i := 452) (by decide +kernel)) (by decide +kernel)
theorem q_454 : Cond.fieldLink RX6 7 "MinuteSignalModel" "now" "[I" ∈ gT := gT_in (List.mem_of_getElem? (i := 454) (by decide +kernel)) (by decide +kernel)
theorem q_455 : Cond.fieldLink RX6 55 "MinuteSignalModel" "undoMany" "I" ∈ gT := gT_in (List.mem_of_getElem? (i := 455) (by decide +kernel)) (by decide +kernel)
theorem q_456 : Cond.fieldLink RX6 51 "MinuteSignalModel" "undoAt" "I" ∈ gT := gT_in (List.mem_of_getElem? (i := 456) (by decide +kernel)) (by decide +kernel)
theorem q_457 : Cond.fieldLink RX6 13 "MinuteSignalModel" "undos" "[I" ∈ gT := gT_in (List.mem_of_getElem? (i := 457) (by decide +kernel)) (by decide +kernel)
theorem q_458 : Cond.fieldLink RX6 16 "MinuteSignalModel" "isKept" "[Z" ∈ gT := gT_in (List.mem_of_getElem? (i := 458) (by decide +kernel)) (by decide +kernel)
theorem q_459 : Cond.fieldLink RX6 20 "MinuteSignalModel" "kept" "[I" ∈ gT := gT_in (List.mem_of_getElem? (i := 459) (by decide +kernel)) (by decide +kernel)
theorem q_460 : Cond.fieldLink RX6 58 "MinuteSignalModel" "isTold" "Z" ∈ gT := gT_in (List.mem_of_getElem? (i := 460) (by decide +kernel)) (by decide +kernel)
theorem q_461 : Cond.fieldLink RX6 76 "MinuteSignalModel" "phase" "I" ∈ gT := gT_in (List.mem_of_getElem? (i := 461) (by decide +kernel)) (by decide +kernel)
theorem q_462 : Cond.fieldLink RX6 79 "MinuteSignalModel" "frameMany" "I" ∈ gT := gT_in (List.mem_of_getElem? (i := 462) (by decide +kernel)) (by decide +kernel)
theorem q_463 : Cond.fieldLink RX6 23 "MinuteSignalModel" "known" "[I" ∈ gT := gT_in (List.mem_of_getElem? (i := 463) (by decide +kernel)) (by decide +kernel)
theorem q_464 : Cond.fieldLink RX6 26 "MinuteSignalModel" "ones" "[I" ∈ gT := gT_in (List.mem_of_getElem? (i := 464) (by decide +kernel)) (by decide +kernel)
theorem q_465 : Cond.fieldLink RX6 29 "MinuteSignalModel" "missed" "[I" ∈ gT := gT_in (List.mem_of_getElem? (i := 465) (by decide +kernel)) (by decide +kernel)
theorem q_466 : Cond.fieldLink RX6 97 "MinuteSignalModel" "best" "I" ∈ gT := gT_in (List.mem_of_getElem? (i := 466) (by decide +kernel)) (by decide +kernel)
theorem q_467 : Cond.fieldLink RX6 103 "MinuteSignalModel" "margin" "I" ∈ gT := gT_in (List.mem_of_getElem? (i := 467) (by decide +kernel)) (by decide +kernel)
theorem q_497 : Cond.methodLink R_law 17 yX6_hears ∈ gT := gT_in (List.mem_of_getElem? (i := 497) (by decide +kernel)) (by decide +kernel)
theorem q_498 : Cond.instanceMethod yX6_hears ∈ gT := gT_in (List.mem_of_getElem? (i := 498) (by decide +kernel)) (by decide +kernel)
theorem q_499 : Cond.selects RX6 yX6_hears yX6_hears ∈ gT := gT_in (List.mem_of_getElem? (i := 499) (by decide +kernel)) (by decide +kernel)
theorem q_500 : Cond.code yX6_hears cX6_hears 2 (some .int) ∈ gT := gT_in (List.mem_of_getElem? (i := 500) (by decide +kernel)) (by decide +kernel)
theorem q_501 : Cond.methodLink RX6 47 yX6_in ∈ gT := gT_in (List.mem_of_getElem? (i := 501) (by decide +kernel)) (by decide +kernel)
theorem q_502 : Cond.static yX6_in ∈ gT := gT_in (List.mem_of_getElem? (i := 502) (by decide +kernel)) (by decide +kernel)
theorem q_503 : Cond.code yX6_in cX6_in 3 (some .boolean) ∈ gT := gT_in (List.mem_of_getElem? (i := 503) (by decide +kernel)) (by decide +kernel)
theorem q_504 : Cond.methodLink RX6 62 yX6_remember ∈ gT := gT_in (List.mem_of_getElem? (i := 504) (by decide +kernel)) (by decide +kernel)
theorem q_506 : Cond.instanceMethod yX6_remember ∈ gT := gT_in (List.mem_of_getElem? (i := 506) (by decide +kernel)) (by decide +kernel)
theorem q_507 : Cond.code yX6_remember cX6_remember 2 none ∈ gT := gT_in (List.mem_of_getElem? (i := 507) (by decide +kernel)) (by decide +kernel)
theorem q_508 : Cond.methodLink RX6 65 yX6_comes ∈ gT := gT_in (List.mem_of_getElem? (i := 508) (by decide +kernel)) (by decide +kernel)
theorem q_510 : Cond.instanceMethod yX6_comes ∈ gT := gT_in (List.mem_of_getElem? (i := 510) (by decide +kernel)) (by decide +kernel)
theorem q_511 : Cond.code yX6_comes cX6_comes 2 none ∈ gT := gT_in (List.mem_of_getElem? (i := 511) (by decide +kernel)) (by decide +kernel)
theorem q_512 : Cond.methodLink R_law 22 yX6_frames ∈ gT := gT_in (List.mem_of_getElem? (i := 512) (by decide +kernel)) (by decide +kernel)
theorem q_513 : Cond.instanceMethod yX6_frames ∈ gT := gT_in (List.mem_of_getElem? (i := 513) (by decide +kernel)) (by decide +kernel)
theorem q_514 : Cond.selects RX6 yX6_frames yX6_frames ∈ gT := gT_in (List.mem_of_getElem? (i := 514) (by decide +kernel)) (by decide +kernel)
theorem q_515 : Cond.code yX6_frames cX6_frames 4 (some .int) ∈ gT := gT_in (List.mem_of_getElem? (i := 515) (by decide +kernel)) (by decide +kernel)
theorem q_516 : Cond.constant RX6 69 (524287) ∈ gT := gT_in (List.mem_of_getElem? (i := 516) (by decide +kernel)) (by decide +kernel)
theorem q_517 : Cond.methodLink RX6 32 yX6_has ∈ gT := gT_in (List.mem_of_getElem? (i := 517) (by decide +kernel)) (by decide +kernel)
theorem q_518 : Cond.static yX6_has ∈ gT := gT_in (List.mem_of_getElem? (i := 518) (by decide +kernel)) (by decide +kernel)
theorem q_519 : Cond.code yX6_has cX6_has 2 (some .boolean) ∈ gT := gT_in (List.mem_of_getElem? (i := 519) (by decide +kernel)) (by decide +kernel)
theorem q_520 : Cond.methodLink R_law 26 yX6_loses ∈ gT := gT_in (List.mem_of_getElem? (i := 520) (by decide +kernel)) (by decide +kernel)
theorem q_521 : Cond.instanceMethod yX6_loses ∈ gT := gT_in (List.mem_of_getElem? (i := 521) (by decide +kernel)) (by decide +kernel)
theorem q_522 : Cond.selects RX6 yX6_loses yX6_loses ∈ gT := gT_in (List.mem_of_getElem? (i := 522) (by decide +kernel)) (by decide +kernel)
theorem q_523 : Cond.code yX6_loses cX6_loses 3 (some .int) ∈ gT := gT_in (List.mem_of_getElem? (i := 523) (by decide +kernel)) (by decide +kernel)
theorem q_524 : Cond.methodLink R_law 30 yX6_needs ∈ gT := gT_in (List.mem_of_getElem? (i := 524) (by decide +kernel)) (by decide +kernel)
theorem q_525 : Cond.instanceMethod yX6_needs ∈ gT := gT_in (List.mem_of_getElem? (i := 525) (by decide +kernel)) (by decide +kernel)
theorem q_526 : Cond.selects RX6 yX6_needs yX6_needs ∈ gT := gT_in (List.mem_of_getElem? (i := 526) (by decide +kernel)) (by decide +kernel)
theorem q_527 : Cond.code yX6_needs cX6_needs 2 (some .int) ∈ gT := gT_in (List.mem_of_getElem? (i := 527) (by decide +kernel)) (by decide +kernel)
theorem q_528 : Cond.methodLink RX6 70 yX6_becomes ∈ gT := gT_in (List.mem_of_getElem? (i := 528) (by decide +kernel)) (by decide +kernel)
theorem q_530 : Cond.instanceMethod yX6_becomes ∈ gT := gT_in (List.mem_of_getElem? (i := 530) (by decide +kernel)) (by decide +kernel)
theorem q_531 : Cond.code yX6_becomes cX6_becomes 4 (some .int) ∈ gT := gT_in (List.mem_of_getElem? (i := 531) (by decide +kernel)) (by decide +kernel)
theorem q_532 : Cond.methodLink R_law 34 yX6_drifts ∈ gT := gT_in (List.mem_of_getElem? (i := 532) (by decide +kernel)) (by decide +kernel)
theorem q_533 : Cond.instanceMethod yX6_drifts ∈ gT := gT_in (List.mem_of_getElem? (i := 533) (by decide +kernel)) (by decide +kernel)
theorem q_534 : Cond.selects RX6 yX6_drifts yX6_drifts ∈ gT := gT_in (List.mem_of_getElem? (i := 534) (by decide +kernel)) (by decide +kernel)
theorem q_535 : Cond.code yX6_drifts cX6_drifts 2 (some .int) ∈ gT := gT_in (List.mem_of_getElem? (i := 535) (by decide +kernel)) (by decide +kernel)
theorem q_536 : Cond.methodLink R_law 39 yX6_sets ∈ gT := gT_in (List.mem_of_getElem? (i := 536) (by decide +kernel)) (by decide +kernel)
theorem q_537 : Cond.instanceMethod yX6_sets ∈ gT := gT_in (List.mem_of_getElem? (i := 537) (by decide +kernel)) (by decide +kernel)
theorem q_538 : Cond.selects RX6 yX6_sets yX6_sets ∈ gT := gT_in (List.mem_of_getElem? (i := 538) (by decide +kernel)) (by decide +kernel)
theorem q_539 : Cond.code yX6_sets cX6_sets 2 (some .int) ∈ gT := gT_in (List.mem_of_getElem? (i := 539) (by decide +kernel)) (by decide +kernel)
theorem q_540 : Cond.methodLink RX6 109 yX6_tells ∈ gT := gT_in (List.mem_of_getElem? (i := 540) (by decide +kernel)) (by decide +kernel)
theorem q_542 : Cond.instanceMethod yX6_tells ∈ gT := gT_in (List.mem_of_getElem? (i := 542) (by decide +kernel)) (by decide +kernel)
theorem q_543 : Cond.code yX6_tells cX6_tells 3 none ∈ gT := gT_in (List.mem_of_getElem? (i := 543) (by decide +kernel)) (by decide +kernel)
theorem q_544 : Cond.methodLink RX6 91 yX6_layPhase ∈ gT := gT_in (List.mem_of_getElem? (i := 544) (by decide +kernel)) (by decide +kernel)
theorem q_546 : Cond.instanceMethod yX6_layPhase ∈ gT := gT_in (List.mem_of_getElem? (i := 546) (by decide +kernel)) (by decide +kernel)
theorem q_547 : Cond.code yX6_layPhase cX6_layPhase 5 none ∈ gT := gT_in (List.mem_of_getElem? (i := 547) (by decide +kernel)) (by decide +kernel)
theorem q_548 : Cond.methodLink RX6 73 yX6_symbolAt ∈ gT := gT_in (List.mem_of_getElem? (i := 548) (by decide +kernel)) (by decide +kernel)
theorem q_550 : Cond.instanceMethod yX6_symbolAt ∈ gT := gT_in (List.mem_of_getElem? (i := 550) (by decide +kernel)) (by decide +kernel)
theorem q_551 : Cond.code yX6_symbolAt cX6_symbolAt 2 (some .int) ∈ gT := gT_in (List.mem_of_getElem? (i := 551) (by decide +kernel)) (by decide +kernel)
theorem q_552 : Cond.methodLink RX6 94 yX6_layFrames ∈ gT := gT_in (List.mem_of_getElem? (i := 552) (by decide +kernel)) (by decide +kernel)
theorem q_554 : Cond.instanceMethod yX6_layFrames ∈ gT := gT_in (List.mem_of_getElem? (i := 554) (by decide +kernel)) (by decide +kernel)
theorem q_555 : Cond.code yX6_layFrames cX6_layFrames 3 none ∈ gT := gT_in (List.mem_of_getElem? (i := 555) (by decide +kernel)) (by decide +kernel)
theorem q_556 : Cond.methodLink RX6 82 yX6_firstOf ∈ gT := gT_in (List.mem_of_getElem? (i := 556) (by decide +kernel)) (by decide +kernel)
theorem q_558 : Cond.instanceMethod yX6_firstOf ∈ gT := gT_in (List.mem_of_getElem? (i := 558) (by decide +kernel)) (by decide +kernel)
theorem q_559 : Cond.code yX6_firstOf cX6_firstOf 2 (some .int) ∈ gT := gT_in (List.mem_of_getElem? (i := 559) (by decide +kernel)) (by decide +kernel)
theorem q_560 : Cond.methodLink RX6 100 yX6_missesOf ∈ gT := gT_in (List.mem_of_getElem? (i := 560) (by decide +kernel)) (by decide +kernel)
theorem q_562 : Cond.instanceMethod yX6_missesOf ∈ gT := gT_in (List.mem_of_getElem? (i := 562) (by decide +kernel)) (by decide +kernel)
theorem q_563 : Cond.code yX6_missesOf cX6_missesOf 5 (some .int) ∈ gT := gT_in (List.mem_of_getElem? (i := 563) (by decide +kernel)) (by decide +kernel)
theorem q_564 : Cond.methodLink RX6 88 yX6_wrongOf ∈ gT := gT_in (List.mem_of_getElem? (i := 564) (by decide +kernel)) (by decide +kernel)
theorem q_566 : Cond.instanceMethod yX6_wrongOf ∈ gT := gT_in (List.mem_of_getElem? (i := 566) (by decide +kernel)) (by decide +kernel)
theorem q_567 : Cond.code yX6_wrongOf cX6_wrongOf 3 (some .int) ∈ gT := gT_in (List.mem_of_getElem? (i := 567) (by decide +kernel)) (by decide +kernel)
theorem q_568 : Cond.methodLink RX6 85 yX6_bitsOf ∈ gT := gT_in (List.mem_of_getElem? (i := 568) (by decide +kernel)) (by decide +kernel)
theorem q_569 : Cond.static yX6_bitsOf ∈ gT := gT_in (List.mem_of_getElem? (i := 569) (by decide +kernel)) (by decide +kernel)
theorem q_570 : Cond.code yX6_bitsOf cX6_bitsOf 5 (some .int) ∈ gT := gT_in (List.mem_of_getElem? (i := 570) (by decide +kernel)) (by decide +kernel)
theorem q_571 : Cond.methodLink RX6 36 yX6_figures ∈ gT := gT_in (List.mem_of_getElem? (i := 571) (by decide +kernel)) (by decide +kernel)
theorem q_572 : Cond.static yX6_figures ∈ gT := gT_in (List.mem_of_getElem? (i := 572) (by decide +kernel)) (by decide +kernel)
theorem q_573 : Cond.code yX6_figures cX6_figures 2 (some .int) ∈ gT := gT_in (List.mem_of_getElem? (i := 573) (by decide +kernel)) (by decide +kernel)
theorem q_574 : Cond.methodLink RX6 40 yX6_many ∈ gT := gT_in (List.mem_of_getElem? (i := 574) (by decide +kernel)) (by decide +kernel)
theorem q_575 : Cond.static yX6_many ∈ gT := gT_in (List.mem_of_getElem? (i := 575) (by decide +kernel)) (by decide +kernel)
theorem q_576 : Cond.code yX6_many cX6_many 3 (some .int) ∈ gT := gT_in (List.mem_of_getElem? (i := 576) (by decide +kernel)) (by decide +kernel)
theorem q_577 : Cond.methodLink RX6 44 yX6_nextOf ∈ gT := gT_in (List.mem_of_getElem? (i := 577) (by decide +kernel)) (by decide +kernel)
theorem q_578 : Cond.static yX6_nextOf ∈ gT := gT_in (List.mem_of_getElem? (i := 578) (by decide +kernel)) (by decide +kernel)
theorem q_579 : Cond.code yX6_nextOf cX6_nextOf 3 (some .int) ∈ gT := gT_in (List.mem_of_getElem? (i := 579) (by decide +kernel)) (by decide +kernel)
theorem q_580 : Cond.methodLink RX6 112 yX6_isShown ∈ gT := gT_in (List.mem_of_getElem? (i := 580) (by decide +kernel)) (by decide +kernel)
theorem q_582 : Cond.instanceMethod yX6_isShown ∈ gT := gT_in (List.mem_of_getElem? (i := 582) (by decide +kernel)) (by decide +kernel)
theorem q_583 : Cond.code yX6_isShown cX6_isShown 1 (some .boolean) ∈ gT := gT_in (List.mem_of_getElem? (i := 583) (by decide +kernel)) (by decide +kernel)
theorem q_584 : Cond.methodLink RX6 116 yX6_lastTime ∈ gT := gT_in (List.mem_of_getElem? (i := 584) (by decide +kernel)) (by decide +kernel)
theorem q_586 : Cond.instanceMethod yX6_lastTime ∈ gT := gT_in (List.mem_of_getElem? (i := 586) (by decide +kernel)) (by decide +kernel)
theorem q_587 : Cond.code yX6_lastTime cX6_lastTime 1 (some .int) ∈ gT := gT_in (List.mem_of_getElem? (i := 587) (by decide +kernel)) (by decide +kernel)
theorem q_588 : Cond.methodLink RX6 106 yX6_later ∈ gT := gT_in (List.mem_of_getElem? (i := 588) (by decide +kernel)) (by decide +kernel)
theorem q_589 : Cond.static yX6_later ∈ gT := gT_in (List.mem_of_getElem? (i := 589) (by decide +kernel)) (by decide +kernel)
theorem q_590 : Cond.code yX6_later cX6_later 4 (some .int) ∈ gT := gT_in (List.mem_of_getElem? (i := 590) (by decide +kernel)) (by decide +kernel)
theorem q_591 : Cond.methodLink R_law 43 yX6_goes ∈ gT := gT_in (List.mem_of_getElem? (i := 591) (by decide +kernel)) (by decide +kernel)
theorem q_592 : Cond.instanceMethod yX6_goes ∈ gT := gT_in (List.mem_of_getElem? (i := 592) (by decide +kernel)) (by decide +kernel)
theorem q_593 : Cond.selects RX6 yX6_goes yX6_goes ∈ gT := gT_in (List.mem_of_getElem? (i := 593) (by decide +kernel)) (by decide +kernel)
theorem q_594 : Cond.code yX6_goes cX6_goes 2 (some .int) ∈ gT := gT_in (List.mem_of_getElem? (i := 594) (by decide +kernel)) (by decide +kernel)
theorem q_595 : Cond.methodLink R_law 47 yX6_undo ∈ gT := gT_in (List.mem_of_getElem? (i := 595) (by decide +kernel)) (by decide +kernel)
theorem q_596 : Cond.instanceMethod yX6_undo ∈ gT := gT_in (List.mem_of_getElem? (i := 596) (by decide +kernel)) (by decide +kernel)
theorem q_597 : Cond.selects RX6 yX6_undo yX6_undo ∈ gT := gT_in (List.mem_of_getElem? (i := 597) (by decide +kernel)) (by decide +kernel)
theorem q_598 : Cond.code yX6_undo cX6_undo 2 (some .int) ∈ gT := gT_in (List.mem_of_getElem? (i := 598) (by decide +kernel)) (by decide +kernel)
theorem q_599 : Cond.methodLink R_law 51 yX6_symbol ∈ gT := gT_in (List.mem_of_getElem? (i := 599) (by decide +kernel)) (by decide +kernel)
theorem q_600 : Cond.instanceMethod yX6_symbol ∈ gT := gT_in (List.mem_of_getElem? (i := 600) (by decide +kernel)) (by decide +kernel)
theorem q_601 : Cond.selects RX6 yX6_symbol yX6_symbol ∈ gT := gT_in (List.mem_of_getElem? (i := 601) (by decide +kernel)) (by decide +kernel)
theorem q_602 : Cond.code yX6_symbol cX6_symbol 2 (some .int) ∈ gT := gT_in (List.mem_of_getElem? (i := 602) (by decide +kernel)) (by decide +kernel)
theorem q_603 : Cond.methodLink R_law 55 yX6_read ∈ gT := gT_in (List.mem_of_getElem? (i := 603) (by decide +kernel)) (by decide +kernel)
theorem q_604 : Cond.instanceMethod yX6_read ∈ gT := gT_in (List.mem_of_getElem? (i := 604) (by decide +kernel)) (by decide +kernel)
theorem q_605 : Cond.selects RX6 yX6_read yX6_read ∈ gT := gT_in (List.mem_of_getElem? (i := 605) (by decide +kernel)) (by decide +kernel)
theorem q_606 : Cond.code yX6_read cX6_read 3 (some .int) ∈ gT := gT_in (List.mem_of_getElem? (i := 606) (by decide +kernel)) (by decide +kernel)
theorem q_607 : Cond.methodLink RX6 127 yX6_parity ∈ gT := gT_in (List.mem_of_getElem? (i := 607) (by decide +kernel)) (by decide +kernel)
theorem q_609 : Cond.instanceMethod yX6_parity ∈ gT := gT_in (List.mem_of_getElem? (i := 609) (by decide +kernel)) (by decide +kernel)
theorem q_610 : Cond.code yX6_parity cX6_parity 4 (some .int) ∈ gT := gT_in (List.mem_of_getElem? (i := 610) (by decide +kernel)) (by decide +kernel)
theorem q_611 : Cond.methodLink RX6 120 yX6_isClear ∈ gT := gT_in (List.mem_of_getElem? (i := 611) (by decide +kernel)) (by decide +kernel)
theorem q_613 : Cond.instanceMethod yX6_isClear ∈ gT := gT_in (List.mem_of_getElem? (i := 613) (by decide +kernel)) (by decide +kernel)
theorem q_614 : Cond.code yX6_isClear cX6_isClear 6 (some .boolean) ∈ gT := gT_in (List.mem_of_getElem? (i := 614) (by decide +kernel)) (by decide +kernel)
theorem q_615 : Cond.methodLink RX6 123 yX6_valueOf ∈ gT := gT_in (List.mem_of_getElem? (i := 615) (by decide +kernel)) (by decide +kernel)
theorem q_617 : Cond.instanceMethod yX6_valueOf ∈ gT := gT_in (List.mem_of_getElem? (i := 617) (by decide +kernel)) (by decide +kernel)
theorem q_618 : Cond.code yX6_valueOf cX6_valueOf 4 (some .int) ∈ gT := gT_in (List.mem_of_getElem? (i := 618) (by decide +kernel)) (by decide +kernel)
theorem q_619 : Cond.methodLink RX6 130 yX6_twoFigures ∈ gT := gT_in (List.mem_of_getElem? (i := 619) (by decide +kernel)) (by decide +kernel)
theorem q_621 : Cond.instanceMethod yX6_twoFigures ∈ gT := gT_in (List.mem_of_getElem? (i := 621) (by decide +kernel)) (by decide +kernel)
theorem q_622 : Cond.code yX6_twoFigures cX6_twoFigures 7 (some .int) ∈ gT := gT_in (List.mem_of_getElem? (i := 622) (by decide +kernel)) (by decide +kernel)
theorem q_623 : Cond.methodLink R_law 59 yX6_vote ∈ gT := gT_in (List.mem_of_getElem? (i := 623) (by decide +kernel)) (by decide +kernel)
theorem q_624 : Cond.instanceMethod yX6_vote ∈ gT := gT_in (List.mem_of_getElem? (i := 624) (by decide +kernel)) (by decide +kernel)
theorem q_625 : Cond.selects RX6 yX6_vote yX6_vote ∈ gT := gT_in (List.mem_of_getElem? (i := 625) (by decide +kernel)) (by decide +kernel)
theorem q_626 : Cond.code yX6_vote cX6_vote 2 (some .int) ∈ gT := gT_in (List.mem_of_getElem? (i := 626) (by decide +kernel)) (by decide +kernel)
theorem q_627 : Cond.methodLink RX6 134 yX6_partOf ∈ gT := gT_in (List.mem_of_getElem? (i := 627) (by decide +kernel)) (by decide +kernel)
theorem q_628 : Cond.static yX6_partOf ∈ gT := gT_in (List.mem_of_getElem? (i := 628) (by decide +kernel)) (by decide +kernel)
theorem q_629 : Cond.code yX6_partOf cX6_partOf 2 (some .int) ∈ gT := gT_in (List.mem_of_getElem? (i := 629) (by decide +kernel)) (by decide +kernel)
theorem q_630 : Cond.methodLink R_law 64 yX6_misses ∈ gT := gT_in (List.mem_of_getElem? (i := 630) (by decide +kernel)) (by decide +kernel)
theorem q_631 : Cond.instanceMethod yX6_misses ∈ gT := gT_in (List.mem_of_getElem? (i := 631) (by decide +kernel)) (by decide +kernel)
theorem q_632 : Cond.selects RX6 yX6_misses yX6_misses ∈ gT := gT_in (List.mem_of_getElem? (i := 632) (by decide +kernel)) (by decide +kernel)
theorem q_633 : Cond.code yX6_misses cX6_misses 5 (some .int) ∈ gT := gT_in (List.mem_of_getElem? (i := 633) (by decide +kernel)) (by decide +kernel)
theorem q_634 : Cond.methodLink RX6 137 yX6_isTime ∈ gT := gT_in (List.mem_of_getElem? (i := 634) (by decide +kernel)) (by decide +kernel)
theorem q_635 : Cond.static yX6_isTime ∈ gT := gT_in (List.mem_of_getElem? (i := 635) (by decide +kernel)) (by decide +kernel)
theorem q_636 : Cond.code yX6_isTime cX6_isTime 4 (some .boolean) ∈ gT := gT_in (List.mem_of_getElem? (i := 636) (by decide +kernel)) (by decide +kernel)
theorem q_637 : Cond.methodLink RX6 141 yX6_codeOf ∈ gT := gT_in (List.mem_of_getElem? (i := 637) (by decide +kernel)) (by decide +kernel)
theorem q_638 : Cond.static yX6_codeOf ∈ gT := gT_in (List.mem_of_getElem? (i := 638) (by decide +kernel)) (by decide +kernel)
theorem q_639 : Cond.code yX6_codeOf cX6_codeOf 4 (some .int) ∈ gT := gT_in (List.mem_of_getElem? (i := 639) (by decide +kernel)) (by decide +kernel)
theorem q_640 : Cond.methodLink R_law 68 yX6_close ∈ gT := gT_in (List.mem_of_getElem? (i := 640) (by decide +kernel)) (by decide +kernel)
theorem q_641 : Cond.instanceMethod yX6_close ∈ gT := gT_in (List.mem_of_getElem? (i := 641) (by decide +kernel)) (by decide +kernel)
theorem q_642 : Cond.selects RX6 yX6_close yX6_close ∈ gT := gT_in (List.mem_of_getElem? (i := 642) (by decide +kernel)) (by decide +kernel)
theorem q_643 : Cond.code yX6_close cX6_close 5 (some .int) ∈ gT := gT_in (List.mem_of_getElem? (i := 643) (by decide +kernel)) (by decide +kernel)
theorem q_644 : Cond.methodLink R_law 72 yX6_bits ∈ gT := gT_in (List.mem_of_getElem? (i := 644) (by decide +kernel)) (by decide +kernel)
theorem q_645 : Cond.instanceMethod yX6_bits ∈ gT := gT_in (List.mem_of_getElem? (i := 645) (by decide +kernel)) (by decide +kernel)
theorem q_646 : Cond.selects RX6 yX6_bits yX6_bits ∈ gT := gT_in (List.mem_of_getElem? (i := 646) (by decide +kernel)) (by decide +kernel)
theorem q_647 : Cond.code yX6_bits cX6_bits 5 (some .int) ∈ gT := gT_in (List.mem_of_getElem? (i := 647) (by decide +kernel)) (by decide +kernel)
theorem q_648 : Cond.methodLink R_law 76 yX6_clock ∈ gT := gT_in (List.mem_of_getElem? (i := 648) (by decide +kernel)) (by decide +kernel)
theorem q_649 : Cond.instanceMethod yX6_clock ∈ gT := gT_in (List.mem_of_getElem? (i := 649) (by decide +kernel)) (by decide +kernel)
theorem q_650 : Cond.selects RX6 yX6_clock yX6_clock ∈ gT := gT_in (List.mem_of_getElem? (i := 650) (by decide +kernel)) (by decide +kernel)
theorem q_651 : Cond.code yX6_clock cX6_clock 3 (some .int) ∈ gT := gT_in (List.mem_of_getElem? (i := 651) (by decide +kernel)) (by decide +kernel)
theorem q_652 : Cond.constant RX6 144 (-1000000) ∈ gT := gT_in (List.mem_of_getElem? (i := 652) (by decide +kernel)) (by decide +kernel)
theorem q_653 : Cond.methodLink RX6 145 yX6_apart ∈ gT := gT_in (List.mem_of_getElem? (i := 653) (by decide +kernel)) (by decide +kernel)
theorem q_655 : Cond.instanceMethod yX6_apart ∈ gT := gT_in (List.mem_of_getElem? (i := 655) (by decide +kernel)) (by decide +kernel)
theorem q_656 : Cond.code yX6_apart cX6_apart 2 (some .int) ∈ gT := gT_in (List.mem_of_getElem? (i := 656) (by decide +kernel)) (by decide +kernel)
theorem q_657 : Cond.methodLink R_law 80 yX6_keep ∈ gT := gT_in (List.mem_of_getElem? (i := 657) (by decide +kernel)) (by decide +kernel)
theorem q_658 : Cond.instanceMethod yX6_keep ∈ gT := gT_in (List.mem_of_getElem? (i := 658) (by decide +kernel)) (by decide +kernel)
theorem q_659 : Cond.selects RX6 yX6_keep yX6_keep ∈ gT := gT_in (List.mem_of_getElem? (i := 659) (by decide +kernel)) (by decide +kernel)
theorem q_660 : Cond.code yX6_keep cX6_keep 3 (some .int) ∈ gT := gT_in (List.mem_of_getElem? (i := 660) (by decide +kernel)) (by decide +kernel)
theorem q_661 : Cond.methodLink R_law 84 yX6_back ∈ gT := gT_in (List.mem_of_getElem? (i := 661) (by decide +kernel)) (by decide +kernel)
theorem q_662 : Cond.instanceMethod yX6_back ∈ gT := gT_in (List.mem_of_getElem? (i := 662) (by decide +kernel)) (by decide +kernel)
theorem q_663 : Cond.selects RX6 yX6_back yX6_back ∈ gT := gT_in (List.mem_of_getElem? (i := 663) (by decide +kernel)) (by decide +kernel)
theorem q_664 : Cond.code yX6_back cX6_back 3 (some .int) ∈ gT := gT_in (List.mem_of_getElem? (i := 664) (by decide +kernel)) (by decide +kernel)
theorem q_665 : Cond.methodLink R_law 88 yX6_count ∈ gT := gT_in (List.mem_of_getElem? (i := 665) (by decide +kernel)) (by decide +kernel)
theorem q_666 : Cond.instanceMethod yX6_count ∈ gT := gT_in (List.mem_of_getElem? (i := 666) (by decide +kernel)) (by decide +kernel)
theorem q_667 : Cond.selects RX6 yX6_count yX6_count ∈ gT := gT_in (List.mem_of_getElem? (i := 667) (by decide +kernel)) (by decide +kernel)
theorem q_668 : Cond.code yX6_count cX6_count 2 (some .int) ∈ gT := gT_in (List.mem_of_getElem? (i := 668) (by decide +kernel)) (by decide +kernel)
theorem inX0 : ∀ w ∈ u_ws RX0 TX0 5, w ∈ gT := by decide +kernel
theorem inX1 : ∀ w ∈ u_ws RX1 TX1 6, w ∈ gT := by decide +kernel
theorem inX2 : ∀ w ∈ u_ws RX2 TX2 3, w ∈ gT := by decide +kernel
theorem inX4 : ∀ w ∈ u_ws RX4 TX4 7, w ∈ gT := by decide +kernel
theorem inX5 : ∀ w ∈ u_ws RX5 TX5 8, w ∈ gT := by decide +kernel
theorem inX6 : ∀ w ∈ u_ws RX6 TX6 14, w ∈ gT := by decide +kernel
theorem lk_L_13 : LkV R_law 13 yX5_hears cX5_hears 2 (some .int) 1 := ⟨q_181, q_182, q_183, q_24, q_184, by decide +kernel, by decide +kernel, by decide +kernel⟩
theorem lk_X5_49 : LkV RX5 49 yX2_remember cX2_remember 2 none 1 := ⟨q_185, q_186, q_187, q_26, q_188, by decide +kernel, by decide +kernel, by decide +kernel⟩
theorem lk_X2_22 : LkV RX2 22 yX1_copyFrom cX1_copyFrom 3 none 1 := ⟨q_189, q_190, q_191, q_25, q_192, by decide +kernel, by decide +kernel, by decide +kernel⟩
theorem lk_X2_29 : LkS RX2 29 yJ9_min_7cf53 cJ9_min_7cf53 2 (some .int) 2 := ⟨q_193, q_194, q_30, q_195, by decide +kernel, by decide +kernel, by decide +kernel⟩
theorem lk_X5_53 : LkS RX5 53 yX5_symbolOfLength cX5_symbolOfLength 1 (some .int) 1 := ⟨q_196, q_197, q_24, q_198, by decide +kernel, by decide +kernel, by decide +kernel⟩
theorem lk_X5_57 : LkV RX5 57 yX1_append cX1_append 2 none 1 := ⟨q_199, q_200, q_201, q_25, q_202, by decide +kernel, by decide +kernel, by decide +kernel⟩
theorem lk_X5_61 : LkV RX5 61 yX5_rowChanged cX5_rowChanged 1 none 0 := ⟨q_203, q_205, q_0, q_24, q_206, by decide +kernel, by decide +kernel, by decide +kernel⟩
theorem lk_L_18 : LkV R_law 18 yX5_frames cX5_frames 5 (some .int) 2 := ⟨q_207, q_208, q_209, q_24, q_210, by decide +kernel, by decide +kernel, by decide +kernel⟩
theorem lk_L_23 : LkV R_law 23 yX5_loses cX5_loses 2 (some .int) 1 := ⟨q_212, q_213, q_214, q_24, q_215, by decide +kernel, by decide +kernel, by decide +kernel⟩
theorem lk_X5_65 : LkV RX5 65 yX1_dropFirst cX1_dropFirst 3 none 1 := ⟨q_216, q_217, q_218, q_25, q_219, by decide +kernel, by decide +kernel, by decide +kernel⟩
theorem lk_L_27 : LkV R_law 27 yX5_needs cX5_needs 3 (some .int) 1 := ⟨q_220, q_221, q_222, q_24, q_223, by decide +kernel, by decide +kernel, by decide +kernel⟩
theorem lk_L_31 : LkV R_law 31 yX5_drifts cX5_drifts 3 (some .int) 1 := ⟨q_224, q_225, q_226, q_24, q_227, by decide +kernel, by decide +kernel, by decide +kernel⟩
theorem lk_L_35 : LkV R_law 35 yX5_sets cX5_sets 1 (some .int) 0 := ⟨q_228, q_229, q_230, q_24, q_231, by decide +kernel, by decide +kernel, by decide +kernel⟩
theorem lk_X5_74 : LkV RX5 74 yX5_isShown cX5_isShown 1 (some .boolean) 0 := ⟨q_232, q_234, q_1, q_24, q_235, by decide +kernel, by decide +kernel, by decide +kernel⟩
theorem lk_X5_113 : LkV RX5 113 yX5_fittingFrames cX5_fittingFrames 1 (some (.object "MinuteSignal$Frames")) 0 := ⟨q_236, q_238, q_2, q_24, q_239, by decide +kernel, by decide +kernel, by decide +kernel⟩
theorem lk_X5_195 : LkV RX5 195 yX0_cut cX0_cut 3 none 1 := ⟨q_240, q_241, q_242, q_27, q_243, by decide +kernel, by decide +kernel, by decide +kernel⟩
theorem lk_X0_21 : LkV RX0 21 yX0_findPhase cX0_findPhase 3 none 1 := ⟨q_244, q_245, q_246, q_27, q_247, by decide +kernel, by decide +kernel, by decide +kernel⟩
theorem lk_X0_25 : LkV RX0 25 yX0_firstOf cX0_firstOf 2 (some .int) 1 := ⟨q_248, q_249, q_250, q_27, q_251, by decide +kernel, by decide +kernel, by decide +kernel⟩
theorem lk_X0_38 : LkV RX0 38 yX0_takeFrame cX0_takeFrame 7 none 2 := ⟨q_252, q_253, q_254, q_27, q_255, by decide +kernel, by decide +kernel, by decide +kernel⟩
theorem lk_X5_78 : LkV RX5 78 yX5_fittingVote cX5_fittingVote 1 (some (.object "MinuteSignal$Vote")) 0 := ⟨q_256, q_258, q_3, q_24, q_259, by decide +kernel, by decide +kernel, by decide +kernel⟩
theorem lk_X5_198 : LkV RX5 198 yX4_take cX4_take 2 none 1 := ⟨q_260, q_261, q_262, q_28, q_263, by decide +kernel, by decide +kernel, by decide +kernel⟩
theorem lk_X4_27 : LkV RX4 27 yX4_countByMinute cX4_countByMinute 6 none 1 := ⟨q_264, q_265, q_266, q_28, q_267, by decide +kernel, by decide +kernel, by decide +kernel⟩
theorem lk_X4_49 : LkS RX4 49 yX3_bitsOf cX3_bitsOf 8 (some .int) 1 := ⟨q_268, q_269, q_31, q_270, by decide +kernel, by decide +kernel, by decide +kernel⟩
theorem lk_X3_15 : LkS RX3 15 yX3_minuteOf cX3_minuteOf 1 (some .int) 1 := ⟨q_271, q_272, q_31, q_273, by decide +kernel, by decide +kernel, by decide +kernel⟩
theorem lk_X3_22 : LkS RX3 22 yX3_shiftOf cX3_shiftOf 1 (some .int) 1 := ⟨q_274, q_275, q_31, q_276, by decide +kernel, by decide +kernel, by decide +kernel⟩
theorem lk_X3_25 : LkS RX3 25 yX3_leapOf cX3_leapOf 1 (some .int) 1 := ⟨q_277, q_278, q_31, q_279, by decide +kernel, by decide +kernel, by decide +kernel⟩
theorem lk_X3_19 : LkS RX3 19 yX3_summerOf cX3_summerOf 1 (some .int) 1 := ⟨q_280, q_281, q_31, q_282, by decide +kernel, by decide +kernel, by decide +kernel⟩
theorem lk_X3_35 : LkS RX3 35 yJ6_bitCount_0f7a4 cJ6_bitCount_0f7a4 1 (some .int) 1 := ⟨q_283, q_284, q_32, q_285, by decide +kernel, by decide +kernel, by decide +kernel⟩
theorem lk_X4_53 : LkV RX4 53 yX0_missesOf cX0_missesOf 4 (some .int) 3 := ⟨q_289, q_290, q_291, q_27, q_292, by decide +kernel, by decide +kernel, by decide +kernel⟩
theorem lk_X0_53 : LkS RX0 53 yJ6_bitCount_0f7a4 cJ6_bitCount_0f7a4 1 (some .int) 1 := ⟨q_293, q_284, q_32, q_285, by decide +kernel, by decide +kernel, by decide +kernel⟩
theorem lk_X4_31 : LkV RX4 31 yX4_countByHour cX4_countByHour 7 none 1 := ⟨q_294, q_295, q_296, q_28, q_297, by decide +kernel, by decide +kernel, by decide +kernel⟩
theorem lk_X4_57 : LkS RX4 57 yX4_timeAt cX4_timeAt 2 (some .int) 2 := ⟨q_298, q_299, q_28, q_300, by decide +kernel, by decide +kernel, by decide +kernel⟩
theorem lk_X4_60 : LkS RX4 60 yX3_next cX3_next 3 (some .int) 1 := ⟨q_301, q_302, q_31, q_303, by decide +kernel, by decide +kernel, by decide +kernel⟩
theorem lk_X3_28 : LkS RX3 28 yX3_of cX3_of 4 (some .int) 4 := ⟨q_304, q_305, q_31, q_306, by decide +kernel, by decide +kernel, by decide +kernel⟩
theorem lk_X4_34 : LkV RX4 34 yX4_choose cX4_choose 4 none 0 := ⟨q_308, q_309, q_310, q_28, q_311, by decide +kernel, by decide +kernel, by decide +kernel⟩
theorem lk_X4_72 : LkV RX4 72 yX4_missesAt cX4_missesAt 4 (some .int) 1 := ⟨q_312, q_313, q_314, q_28, q_315, by decide +kernel, by decide +kernel, by decide +kernel⟩
theorem lk_X4_64 : LkS RX4 64 yX3_minuteOf cX3_minuteOf 1 (some .int) 1 := ⟨q_316, q_272, q_31, q_273, by decide +kernel, by decide +kernel, by decide +kernel⟩
theorem lk_X4_67 : LkS RX4 67 yJ9_min_7cf53 cJ9_min_7cf53 2 (some .int) 2 := ⟨q_317, q_194, q_30, q_195, by decide +kernel, by decide +kernel, by decide +kernel⟩
theorem lk_X4_40 : LkS RX4 40 yX3_later cX3_later 4 (some .int) 2 := ⟨q_318, q_319, q_31, q_320, by decide +kernel, by decide +kernel, by decide +kernel⟩
theorem lk_X3_32 : LkS RX3 32 yX3_next cX3_next 3 (some .int) 1 := ⟨q_321, q_302, q_31, q_303, by decide +kernel, by decide +kernel, by decide +kernel⟩
theorem lk_X5_91 : LkS RX5 91 yX3_minuteOf cX3_minuteOf 1 (some .int) 1 := ⟨q_322, q_272, q_31, q_273, by decide +kernel, by decide +kernel, by decide +kernel⟩
theorem lk_L_40 : LkV R_law 40 yX5_goes cX5_goes 2 (some .int) 1 := ⟨q_323, q_324, q_325, q_24, q_326, by decide +kernel, by decide +kernel, by decide +kernel⟩
theorem lk_X5_96 : LkS RX5 96 yX3_later cX3_later 4 (some .int) 2 := ⟨q_327, q_319, q_31, q_320, by decide +kernel, by decide +kernel, by decide +kernel⟩
theorem lk_X5_100 : LkS RX5 100 yJ9_min_7cf53 cJ9_min_7cf53 2 (some .int) 2 := ⟨q_328, q_194, q_30, q_195, by decide +kernel, by decide +kernel, by decide +kernel⟩
theorem lk_L_44 : LkV R_law 44 yX5_undo cX5_undo 1 (some .int) 0 := ⟨q_329, q_330, q_331, q_24, q_332, by decide +kernel, by decide +kernel, by decide +kernel⟩
theorem lk_X5_106 : LkV RX5 106 yX2_recall cX2_recall 2 none 1 := ⟨q_333, q_334, q_335, q_26, q_336, by decide +kernel, by decide +kernel, by decide +kernel⟩
theorem lk_L_48 : LkV R_law 48 yX5_symbol cX5_symbol 2 (some .int) 1 := ⟨q_337, q_338, q_339, q_24, q_340, by decide +kernel, by decide +kernel, by decide +kernel⟩
theorem lk_L_52 : LkV R_law 52 yX5_read cX5_read 4 (some .int) 2 := ⟨q_341, q_342, q_343, q_24, q_344, by decide +kernel, by decide +kernel, by decide +kernel⟩
theorem lk_X5_120 : LkV RX5 120 yX0_firstOf cX0_firstOf 2 (some .int) 1 := ⟨q_345, q_249, q_250, q_27, q_251, by decide +kernel, by decide +kernel, by decide +kernel⟩
theorem lk_X5_123 : LkV RX5 123 yX0_parity cX0_parity 3 (some .int) 2 := ⟨q_346, q_347, q_348, q_27, q_349, by decide +kernel, by decide +kernel, by decide +kernel⟩
theorem lk_X0_49 : LkV RX0 49 yX0_allClear cX0_allClear 3 (some .boolean) 2 := ⟨q_350, q_351, q_352, q_27, q_353, by decide +kernel, by decide +kernel, by decide +kernel⟩
theorem lk_X5_127 : LkV RX5 127 yX0_minuteOfHour cX0_minuteOfHour 2 (some .int) 1 := ⟨q_355, q_356, q_357, q_27, q_358, by decide +kernel, by decide +kernel, by decide +kernel⟩
theorem lk_X0_58 : LkS RX0 58 yX0_byFigures cX0_byFigures 4 (some .int) 3 := ⟨q_359, q_360, q_27, q_361, by decide +kernel, by decide +kernel, by decide +kernel⟩
theorem lk_X5_130 : LkV RX5 130 yX0_hour cX0_hour 2 (some .int) 1 := ⟨q_362, q_363, q_364, q_27, q_365, by decide +kernel, by decide +kernel, by decide +kernel⟩
theorem lk_X5_136 : LkV RX5 136 yX0_wrong cX0_wrong 3 (some .int) 2 := ⟨q_367, q_368, q_369, q_27, q_370, by decide +kernel, by decide +kernel, by decide +kernel⟩
theorem lk_X0_63 : LkS RX0 63 yX3_bitsOf cX3_bitsOf 8 (some .int) 1 := ⟨q_371, q_269, q_31, q_270, by decide +kernel, by decide +kernel, by decide +kernel⟩
theorem lk_X5_139 : LkV RX5 139 yX5_symbol cX5_symbol 2 (some .int) 1 := ⟨q_372, q_338, q_339, q_24, q_340, by decide +kernel, by decide +kernel, by decide +kernel⟩
theorem lk_L_56 : LkV R_law 56 yX5_vote cX5_vote 3 (some .int) 1 := ⟨q_373, q_374, q_375, q_24, q_376, by decide +kernel, by decide +kernel, by decide +kernel⟩
theorem lk_X5_148 : LkS RX5 148 yX3_partOf cX3_partOf 2 (some .int) 2 := ⟨q_377, q_378, q_31, q_379, by decide +kernel, by decide +kernel, by decide +kernel⟩
theorem lk_L_60 : LkV R_law 60 yX5_misses cX5_misses 5 (some .int) 4 := ⟨q_380, q_381, q_382, q_24, q_383, by decide +kernel, by decide +kernel, by decide +kernel⟩
theorem lk_X5_151 : LkS RX5 151 yX3_isTime cX3_isTime 4 (some .boolean) 4 := ⟨q_384, q_385, q_31, q_386, by decide +kernel, by decide +kernel, by decide +kernel⟩
theorem lk_X3_9 : LkS RX3 9 yX3_isSign cX3_isSign 1 (some .boolean) 1 := ⟨q_387, q_388, q_31, q_389, by decide +kernel, by decide +kernel, by decide +kernel⟩
theorem lk_X5_155 : LkS RX5 155 yX3_of cX3_of 4 (some .int) 4 := ⟨q_390, q_305, q_31, q_306, by decide +kernel, by decide +kernel, by decide +kernel⟩
theorem lk_X5_159 : LkV RX5 159 yX0_missesFrom cX0_missesFrom 5 (some .int) 1 := ⟨q_391, q_392, q_393, q_27, q_394, by decide +kernel, by decide +kernel, by decide +kernel⟩
theorem lk_X0_69 : LkV RX0 69 yX0_missesOf cX0_missesOf 4 (some .int) 3 := ⟨q_396, q_290, q_291, q_27, q_292, by decide +kernel, by decide +kernel, by decide +kernel⟩
theorem lk_X0_72 : LkS RX0 72 yX3_next cX3_next 3 (some .int) 1 := ⟨q_397, q_302, q_31, q_303, by decide +kernel, by decide +kernel, by decide +kernel⟩
theorem lk_L_65 : LkV R_law 65 yX5_close cX5_close 4 (some .int) 2 := ⟨q_398, q_399, q_400, q_24, q_401, by decide +kernel, by decide +kernel, by decide +kernel⟩
theorem lk_X5_162 : LkV RX5 162 yX4_closeCount cX4_closeCount 4 (some .int) 1 := ⟨q_402, q_403, q_404, q_28, q_405, by decide +kernel, by decide +kernel, by decide +kernel⟩
theorem lk_X5_165 : LkV RX5 165 yX4_closeTime cX4_closeTime 5 (some .int) 2 := ⟨q_406, q_407, q_408, q_28, q_409, by decide +kernel, by decide +kernel, by decide +kernel⟩
theorem lk_L_69 : LkV R_law 69 yX5_bits cX5_bits 5 (some .int) 4 := ⟨q_410, q_411, q_412, q_24, q_413, by decide +kernel, by decide +kernel, by decide +kernel⟩
theorem lk_X5_168 : LkS RX5 168 yX3_bitsOf cX3_bitsOf 8 (some .int) 1 := ⟨q_414, q_269, q_31, q_270, by decide +kernel, by decide +kernel, by decide +kernel⟩
theorem lk_L_73 : LkV R_law 73 yX5_clock cX5_clock 2 (some .int) 1 := ⟨q_415, q_416, q_417, q_24, q_418, by decide +kernel, by decide +kernel, by decide +kernel⟩
theorem lk_X5_172 : LkV RX5 172 yX5_drifted cX5_drifted 1 (some .int) 0 := ⟨q_420, q_422, q_4, q_24, q_423, by decide +kernel, by decide +kernel, by decide +kernel⟩
theorem lk_X5_176 : LkV RX5 176 yX5_apart cX5_apart 3 (some .int) 0 := ⟨q_424, q_426, q_5, q_24, q_427, by decide +kernel, by decide +kernel, by decide +kernel⟩
theorem lk_X5_202 : LkS RX5 202 yJ9_floorMod_7cf53 cJ9_floorMod_7cf53 3 (some .int) 2 := ⟨q_428, q_429, q_30, q_430, by decide +kernel, by decide +kernel, by decide +kernel⟩
theorem lk_L_77 : LkV R_law 77 yX5_keep cX5_keep 2 (some .int) 1 := ⟨q_431, q_432, q_433, q_24, q_434, by decide +kernel, by decide +kernel, by decide +kernel⟩
theorem lk_X5_179 : LkV RX5 179 yX1_copyFrom cX1_copyFrom 3 none 1 := ⟨q_435, q_190, q_191, q_25, q_192, by decide +kernel, by decide +kernel, by decide +kernel⟩
theorem lk_L_81 : LkV R_law 81 yX5_back cX5_back 2 (some .int) 1 := ⟨q_436, q_437, q_438, q_24, q_439, by decide +kernel, by decide +kernel, by decide +kernel⟩
theorem lk_X5_182 : LkV RX5 182 yX2_forget cX2_forget 1 none 0 := ⟨q_440, q_441, q_442, q_26, q_443, by decide +kernel, by decide +kernel, by decide +kernel⟩
theorem lk_L_85 : LkV R_law 85 yX5_count cX5_count 2 (some .int) 1 := ⟨q_444, q_445, q_446, q_24, q_447, by decide +kernel, by decide +kernel, by decide +kernel⟩
theorem lk_L_17 : LkV R_law 17 yX6_hears cX6_hears 2 (some .int) 1 := ⟨q_497, q_498, q_499, q_29, q_500, by decide +kernel, by decide +kernel, by decide +kernel⟩
theorem lk_X6_47 : LkS RX6 47 yX6_in cX6_in 3 (some .boolean) 3 := ⟨q_501, q_502, q_29, q_503, by decide +kernel, by decide +kernel, by decide +kernel⟩
theorem lk_X6_62 : LkV RX6 62 yX6_remember cX6_remember 2 none 0 := ⟨q_504, q_506, q_6, q_29, q_507, by decide +kernel, by decide +kernel, by decide +kernel⟩
theorem lk_X6_65 : LkV RX6 65 yX6_comes cX6_comes 2 none 1 := ⟨q_508, q_510, q_7, q_29, q_511, by decide +kernel, by decide +kernel, by decide +kernel⟩
theorem lk_L_22 : LkV R_law 22 yX6_frames cX6_frames 4 (some .int) 2 := ⟨q_512, q_513, q_514, q_29, q_515, by decide +kernel, by decide +kernel, by decide +kernel⟩
theorem lk_X6_32 : LkS RX6 32 yX6_has cX6_has 2 (some .boolean) 2 := ⟨q_517, q_518, q_29, q_519, by decide +kernel, by decide +kernel, by decide +kernel⟩
theorem lk_L_26 : LkV R_law 26 yX6_loses cX6_loses 3 (some .int) 1 := ⟨q_520, q_521, q_522, q_29, q_523, by decide +kernel, by decide +kernel, by decide +kernel⟩
theorem lk_L_30 : LkV R_law 30 yX6_needs cX6_needs 2 (some .int) 1 := ⟨q_524, q_525, q_526, q_29, q_527, by decide +kernel, by decide +kernel, by decide +kernel⟩
theorem lk_X6_70 : LkV RX6 70 yX6_becomes cX6_becomes 4 (some .int) 2 := ⟨q_528, q_530, q_8, q_29, q_531, by decide +kernel, by decide +kernel, by decide +kernel⟩
theorem lk_L_34 : LkV R_law 34 yX6_drifts cX6_drifts 2 (some .int) 1 := ⟨q_532, q_533, q_534, q_29, q_535, by decide +kernel, by decide +kernel, by decide +kernel⟩
theorem lk_L_39 : LkV R_law 39 yX6_sets cX6_sets 2 (some .int) 0 := ⟨q_536, q_537, q_538, q_29, q_539, by decide +kernel, by decide +kernel, by decide +kernel⟩
theorem lk_X6_109 : LkV RX6 109 yX6_tells cX6_tells 3 none 0 := ⟨q_540, q_542, q_9, q_29, q_543, by decide +kernel, by decide +kernel, by decide +kernel⟩
theorem lk_X6_91 : LkV RX6 91 yX6_layPhase cX6_layPhase 5 none 0 := ⟨q_544, q_546, q_10, q_29, q_547, by decide +kernel, by decide +kernel, by decide +kernel⟩
theorem lk_X6_73 : LkV RX6 73 yX6_symbolAt cX6_symbolAt 2 (some .int) 1 := ⟨q_548, q_550, q_11, q_29, q_551, by decide +kernel, by decide +kernel, by decide +kernel⟩
theorem lk_X6_94 : LkV RX6 94 yX6_layFrames cX6_layFrames 3 none 0 := ⟨q_552, q_554, q_12, q_29, q_555, by decide +kernel, by decide +kernel, by decide +kernel⟩
theorem lk_X6_82 : LkV RX6 82 yX6_firstOf cX6_firstOf 2 (some .int) 1 := ⟨q_556, q_558, q_13, q_29, q_559, by decide +kernel, by decide +kernel, by decide +kernel⟩
theorem lk_X6_100 : LkV RX6 100 yX6_missesOf cX6_missesOf 5 (some .int) 1 := ⟨q_560, q_562, q_14, q_29, q_563, by decide +kernel, by decide +kernel, by decide +kernel⟩
theorem lk_X6_88 : LkV RX6 88 yX6_wrongOf cX6_wrongOf 3 (some .int) 2 := ⟨q_564, q_566, q_15, q_29, q_567, by decide +kernel, by decide +kernel, by decide +kernel⟩
theorem lk_X6_85 : LkS RX6 85 yX6_bitsOf cX6_bitsOf 5 (some .int) 1 := ⟨q_568, q_569, q_29, q_570, by decide +kernel, by decide +kernel, by decide +kernel⟩
theorem lk_X6_36 : LkS RX6 36 yX6_figures cX6_figures 2 (some .int) 2 := ⟨q_571, q_572, q_29, q_573, by decide +kernel, by decide +kernel, by decide +kernel⟩
theorem lk_X6_40 : LkS RX6 40 yX6_many cX6_many 3 (some .int) 1 := ⟨q_574, q_575, q_29, q_576, by decide +kernel, by decide +kernel, by decide +kernel⟩
theorem lk_X6_44 : LkS RX6 44 yX6_nextOf cX6_nextOf 3 (some .int) 1 := ⟨q_577, q_578, q_29, q_579, by decide +kernel, by decide +kernel, by decide +kernel⟩
theorem lk_X6_112 : LkV RX6 112 yX6_isShown cX6_isShown 1 (some .boolean) 0 := ⟨q_580, q_582, q_16, q_29, q_583, by decide +kernel, by decide +kernel, by decide +kernel⟩
theorem lk_X6_116 : LkV RX6 116 yX6_lastTime cX6_lastTime 1 (some .int) 0 := ⟨q_584, q_586, q_17, q_29, q_587, by decide +kernel, by decide +kernel, by decide +kernel⟩
theorem lk_X6_106 : LkS RX6 106 yX6_later cX6_later 4 (some .int) 2 := ⟨q_588, q_589, q_29, q_590, by decide +kernel, by decide +kernel, by decide +kernel⟩
theorem lk_L_43 : LkV R_law 43 yX6_goes cX6_goes 2 (some .int) 1 := ⟨q_591, q_592, q_593, q_29, q_594, by decide +kernel, by decide +kernel, by decide +kernel⟩
theorem lk_L_47 : LkV R_law 47 yX6_undo cX6_undo 2 (some .int) 0 := ⟨q_595, q_596, q_597, q_29, q_598, by decide +kernel, by decide +kernel, by decide +kernel⟩
theorem lk_L_51 : LkV R_law 51 yX6_symbol cX6_symbol 2 (some .int) 1 := ⟨q_599, q_600, q_601, q_29, q_602, by decide +kernel, by decide +kernel, by decide +kernel⟩
theorem lk_L_55 : LkV R_law 55 yX6_read cX6_read 3 (some .int) 2 := ⟨q_603, q_604, q_605, q_29, q_606, by decide +kernel, by decide +kernel, by decide +kernel⟩
theorem lk_X6_127 : LkV RX6 127 yX6_parity cX6_parity 4 (some .int) 3 := ⟨q_607, q_609, q_18, q_29, q_610, by decide +kernel, by decide +kernel, by decide +kernel⟩
theorem lk_X6_120 : LkV RX6 120 yX6_isClear cX6_isClear 6 (some .boolean) 3 := ⟨q_611, q_613, q_19, q_29, q_614, by decide +kernel, by decide +kernel, by decide +kernel⟩
theorem lk_X6_123 : LkV RX6 123 yX6_valueOf cX6_valueOf 4 (some .int) 3 := ⟨q_615, q_617, q_20, q_29, q_618, by decide +kernel, by decide +kernel, by decide +kernel⟩
theorem lk_X6_130 : LkV RX6 130 yX6_twoFigures cX6_twoFigures 7 (some .int) 4 := ⟨q_619, q_621, q_21, q_29, q_622, by decide +kernel, by decide +kernel, by decide +kernel⟩
theorem lk_L_59 : LkV R_law 59 yX6_vote cX6_vote 2 (some .int) 1 := ⟨q_623, q_624, q_625, q_29, q_626, by decide +kernel, by decide +kernel, by decide +kernel⟩
theorem lk_X6_134 : LkS RX6 134 yX6_partOf cX6_partOf 2 (some .int) 2 := ⟨q_627, q_628, q_29, q_629, by decide +kernel, by decide +kernel, by decide +kernel⟩
theorem lk_L_64 : LkV R_law 64 yX6_misses cX6_misses 5 (some .int) 4 := ⟨q_630, q_631, q_632, q_29, q_633, by decide +kernel, by decide +kernel, by decide +kernel⟩
theorem lk_X6_137 : LkS RX6 137 yX6_isTime cX6_isTime 4 (some .boolean) 4 := ⟨q_634, q_635, q_29, q_636, by decide +kernel, by decide +kernel, by decide +kernel⟩
theorem lk_X6_141 : LkS RX6 141 yX6_codeOf cX6_codeOf 4 (some .int) 4 := ⟨q_637, q_638, q_29, q_639, by decide +kernel, by decide +kernel, by decide +kernel⟩
theorem lk_L_68 : LkV R_law 68 yX6_close cX6_close 5 (some .int) 2 := ⟨q_640, q_641, q_642, q_29, q_643, by decide +kernel, by decide +kernel, by decide +kernel⟩
theorem lk_L_72 : LkV R_law 72 yX6_bits cX6_bits 5 (some .int) 4 := ⟨q_644, q_645, q_646, q_29, q_647, by decide +kernel, by decide +kernel, by decide +kernel⟩
theorem lk_L_76 : LkV R_law 76 yX6_clock cX6_clock 3 (some .int) 1 := ⟨q_648, q_649, q_650, q_29, q_651, by decide +kernel, by decide +kernel, by decide +kernel⟩
theorem lk_X6_145 : LkV RX6 145 yX6_apart cX6_apart 2 (some .int) 0 := ⟨q_653, q_655, q_22, q_29, q_656, by decide +kernel, by decide +kernel, by decide +kernel⟩
theorem lk_L_80 : LkV R_law 80 yX6_keep cX6_keep 3 (some .int) 1 := ⟨q_657, q_658, q_659, q_29, q_660, by decide +kernel, by decide +kernel, by decide +kernel⟩
theorem lk_L_84 : LkV R_law 84 yX6_back cX6_back 3 (some .int) 1 := ⟨q_661, q_662, q_663, q_29, q_664, by decide +kernel, by decide +kernel, by decide +kernel⟩
theorem lk_L_88 : LkV R_law 88 yX6_count cX6_count 2 (some .int) 1 := ⟨q_665, q_666, q_667, q_29, q_668, by decide +kernel, by decide +kernel, by decide +kernel⟩
theorem wc_held (cy : Nat → ClassId) (ad : Nat → Nat) (g : SG) : ∀ h : Nat, h < 13 → (WC cy ad g)[19 + 2 * h]? = some (ad (19 + 2 * h), .inr (1, [.ref (ad (20 + 2 * h)), .int (g (20 + h) 0), .int (g (20 + h) 1), .int (g (20 + h) 2), .int (g (20 + h) 3), .int (g (20 + h) 4)]))
  | 0, _ => rfl
  | 1, _ => rfl
  | 2, _ => rfl
  | 3, _ => rfl
  | 4, _ => rfl
  | 5, _ => rfl
  | 6, _ => rfl
  | 7, _ => rfl
  | 8, _ => rfl
  | 9, _ => rfl
  | 10, _ => rfl
  | 11, _ => rfl
  | 12, _ => rfl
  | h + 13, hh => absurd hh (by omega)
theorem wc_harr (cy : Nat → ClassId) (ad : Nat → Nat) (g : SG) : ∀ h : Nat, h < 13 → (WC cy ad g)[20 + 2 * h]? = some (ad (20 + 2 * h), .inl (cy 0, 120, .inl (g (40 + h))))
  | 0, _ => rfl
  | 1, _ => rfl
  | 2, _ => rfl
  | 3, _ => rfl
  | 4, _ => rfl
  | 5, _ => rfl
  | 6, _ => rfl
  | 7, _ => rfl
  | 8, _ => rfl
  | 9, _ => rfl
  | 10, _ => rfl
  | 11, _ => rfl
  | 12, _ => rfl
  | h + 13, hh => absurd hh (by omega)
theorem wc_heldset0 (cy : Nat → ClassId) (ad : Nat → Nat) (g : SG) (v : Int32) : ∀ h : Nat, h < 13 → (WC cy ad g).set (19 + 2 * h) (ad (19 + 2 * h), .inr (1, [.ref (ad (20 + 2 * h)), .int (g (20 + h) 0), .int (g (20 + h) 1), .int (g (20 + h) 2), .int (g (20 + h) 3), .int (g (20 + h) 4)].set 1 (.int v))) = WC cy ad (sput g (20 + h) 0 v)
  | 0, _ => rfl
  | 1, _ => rfl
  | 2, _ => rfl
  | 3, _ => rfl
  | 4, _ => rfl
  | 5, _ => rfl
  | 6, _ => rfl
  | 7, _ => rfl
  | 8, _ => rfl
  | 9, _ => rfl
  | 10, _ => rfl
  | 11, _ => rfl
  | 12, _ => rfl
  | h + 13, hh => absurd hh (by omega)
theorem wc_heldset1 (cy : Nat → ClassId) (ad : Nat → Nat) (g : SG) (v : Int32) : ∀ h : Nat, h < 13 → (WC cy ad g).set (19 + 2 * h) (ad (19 + 2 * h), .inr (1, [.ref (ad (20 + 2 * h)), .int (g (20 + h) 0), .int (g (20 + h) 1), .int (g (20 + h) 2), .int (g (20 + h) 3), .int (g (20 + h) 4)].set 2 (.int v))) = WC cy ad (sput g (20 + h) 1 v)
  | 0, _ => rfl
  | 1, _ => rfl
  | 2, _ => rfl
  | 3, _ => rfl
  | 4, _ => rfl
  | 5, _ => rfl
  | 6, _ => rfl
  | 7, _ => rfl
  | 8, _ => rfl
  | 9, _ => rfl
  | 10, _ => rfl
  | 11, _ => rfl
  | 12, _ => rfl
  | h + 13, hh => absurd hh (by omega)
theorem wc_heldset2 (cy : Nat → ClassId) (ad : Nat → Nat) (g : SG) (v : Int32) : ∀ h : Nat, h < 13 → (WC cy ad g).set (19 + 2 * h) (ad (19 + 2 * h), .inr (1, [.ref (ad (20 + 2 * h)), .int (g (20 + h) 0), .int (g (20 + h) 1), .int (g (20 + h) 2), .int (g (20 + h) 3), .int (g (20 + h) 4)].set 3 (.int v))) = WC cy ad (sput g (20 + h) 2 v)
  | 0, _ => rfl
  | 1, _ => rfl
  | 2, _ => rfl
  | 3, _ => rfl
  | 4, _ => rfl
  | 5, _ => rfl
  | 6, _ => rfl
  | 7, _ => rfl
  | 8, _ => rfl
  | 9, _ => rfl
  | 10, _ => rfl
  | 11, _ => rfl
  | 12, _ => rfl
  | h + 13, hh => absurd hh (by omega)
theorem wc_heldset3 (cy : Nat → ClassId) (ad : Nat → Nat) (g : SG) (v : Int32) : ∀ h : Nat, h < 13 → (WC cy ad g).set (19 + 2 * h) (ad (19 + 2 * h), .inr (1, [.ref (ad (20 + 2 * h)), .int (g (20 + h) 0), .int (g (20 + h) 1), .int (g (20 + h) 2), .int (g (20 + h) 3), .int (g (20 + h) 4)].set 4 (.int v))) = WC cy ad (sput g (20 + h) 3 v)
  | 0, _ => rfl
  | 1, _ => rfl
  | 2, _ => rfl
  | 3, _ => rfl
  | 4, _ => rfl
  | 5, _ => rfl
  | 6, _ => rfl
  | 7, _ => rfl
  | 8, _ => rfl
  | 9, _ => rfl
  | 10, _ => rfl
  | 11, _ => rfl
  | 12, _ => rfl
  | h + 13, hh => absurd hh (by omega)
theorem wc_heldset4 (cy : Nat → ClassId) (ad : Nat → Nat) (g : SG) (v : Int32) : ∀ h : Nat, h < 13 → (WC cy ad g).set (19 + 2 * h) (ad (19 + 2 * h), .inr (1, [.ref (ad (20 + 2 * h)), .int (g (20 + h) 0), .int (g (20 + h) 1), .int (g (20 + h) 2), .int (g (20 + h) 3), .int (g (20 + h) 4)].set 5 (.int v))) = WC cy ad (sput g (20 + h) 4 v)
  | 0, _ => rfl
  | 1, _ => rfl
  | 2, _ => rfl
  | 3, _ => rfl
  | 4, _ => rfl
  | 5, _ => rfl
  | 6, _ => rfl
  | 7, _ => rfl
  | 8, _ => rfl
  | 9, _ => rfl
  | 10, _ => rfl
  | 11, _ => rfl
  | 12, _ => rfl
  | h + 13, hh => absurd hh (by omega)
theorem wc_harrset (cy : Nat → ClassId) (ad : Nat → Nat) (g : SG) (i : Nat) (v : Int32) : ∀ h : Nat, h < 13 → (WC cy ad g).set (20 + 2 * h) (ad (20 + 2 * h), .inl (cy 0, 120, .inl (upd (g (40 + h)) i v))) = WC cy ad (sput g (40 + h) i v)
  | 0, _ => by rw [upd_sput]; rfl
  | 1, _ => by rw [upd_sput]; rfl
  | 2, _ => by rw [upd_sput]; rfl
  | 3, _ => by rw [upd_sput]; rfl
  | 4, _ => by rw [upd_sput]; rfl
  | 5, _ => by rw [upd_sput]; rfl
  | 6, _ => by rw [upd_sput]; rfl
  | 7, _ => by rw [upd_sput]; rfl
  | 8, _ => by rw [upd_sput]; rfl
  | 9, _ => by rw [upd_sput]; rfl
  | 10, _ => by rw [upd_sput]; rfl
  | 11, _ => by rw [upd_sput]; rfl
  | 12, _ => by rw [upd_sput]; rfl
  | h + 13, hh => absurd hh (by omega)
theorem wc_row (cy : Nat → ClassId) (ad : Nat → Nat) (g : SG) : ∀ h : Nat, h < 7 → (WC cy ad g)[12 + h]? = some (ad (12 + h), .inl (cy 1, 192, .inl (g (7 + h))))
  | 0, _ => rfl
  | 1, _ => rfl
  | 2, _ => rfl
  | 3, _ => rfl
  | 4, _ => rfl
  | 5, _ => rfl
  | 6, _ => rfl
  | h + 7, hh => absurd hh (by omega)
theorem wc_rowset (cy : Nat → ClassId) (ad : Nat → Nat) (g : SG) (i : Nat) (v : Int32) : ∀ h : Nat, h < 7 → (WC cy ad g).set (12 + h) (ad (12 + h), .inl (cy 1, 192, .inl (upd (g (7 + h)) i v))) = WC cy ad (sput g (7 + h) i v)
  | 0, _ => by rw [upd_sput]; rfl
  | 1, _ => by rw [upd_sput]; rfl
  | 2, _ => by rw [upd_sput]; rfl
  | 3, _ => by rw [upd_sput]; rfl
  | 4, _ => by rw [upd_sput]; rfl
  | 5, _ => by rw [upd_sput]; rfl
  | 6, _ => by rw [upd_sput]; rfl
  | h + 7, hh => absurd hh (by omega)
section GW
variable {b : BX} {D : va_G} {A : Nat → Prop} {cy : Nat → ClassId} {ad : Nat → Nat} {cc : ByteArray} {nL fr lo pc : Nat} {lv : List (Nat × Value)} {rest : List Value} {g : SG}
theorem gX1_9 (h : Nat) (hh : h < 13) (X : Cx (kC b D A cy ad) cc RX1 nL fr lo) (hdg : decode cc pc = .ok (.getfield 9, 3)) (kk : Gd (kC b D A cy ad) nL (pc + 3) lv (.ref (ad (20 + 2 * h)) :: rest) g) : Gd (kC b D A cy ad) nL pc lv (.ref (ad (19 + 2 * h)) :: rest) g := gd_get X inX1 (19 + 2 * h) (wc_held cy ad g h hh) rfl 0 (by decide) q_47 rfl hdg kk
theorem gX0_42 (h : Nat) (hh : h < 13) (X : Cx (kC b D A cy ad) cc RX0 nL fr lo) (hdg : decode cc pc = .ok (.getfield 42, 3)) (kk : Gd (kC b D A cy ad) nL (pc + 3) lv (.ref (ad (20 + 2 * h)) :: rest) g) : Gd (kC b D A cy ad) nL pc lv (.ref (ad (19 + 2 * h)) :: rest) g := gd_get X inX1 (19 + 2 * h) (wc_held cy ad g h hh) rfl 0 (by decide) q_48 rfl hdg kk
theorem gX5_109 (h : Nat) (hh : h < 13) (X : Cx (kC b D A cy ad) cc RX5 nL fr lo) (hdg : decode cc pc = .ok (.getfield 109, 3)) (kk : Gd (kC b D A cy ad) nL (pc + 3) lv (.ref (ad (20 + 2 * h)) :: rest) g) : Gd (kC b D A cy ad) nL pc lv (.ref (ad (19 + 2 * h)) :: rest) g := gd_get X inX1 (19 + 2 * h) (wc_held cy ad g h hh) rfl 0 (by decide) q_49 rfl hdg kk
theorem gX1_25 (h : Nat) (hh : h < 13) (X : Cx (kC b D A cy ad) cc RX1 nL fr lo) (hdg : decode cc pc = .ok (.getfield 25, 3)) (kk : Gd (kC b D A cy ad) nL (pc + 3) lv (.int (g (20 + h) 0) :: rest) g) : Gd (kC b D A cy ad) nL pc lv (.ref (ad (19 + 2 * h)) :: rest) g := gd_get X inX1 (19 + 2 * h) (wc_held cy ad g h hh) rfl 1 (by decide) q_50 rfl hdg kk
theorem pX1_25 (h : Nat) (hh : h < 13) (X : Cx (kC b D A cy ad) cc RX1 nL fr lo) {v : Int32} (hdg : decode cc pc = .ok (.putfield 25, 3)) (kk : ∀ g1 : SG, g1 = sput g (20 + h) 0 v → Gd (kC b D A cy ad) nL (pc + 3) lv rest g1) : Gd (kC b D A cy ad) nL pc lv (.int v :: .ref (ad (19 + 2 * h)) :: rest) g := gd_put X inX1 tyX1 tyX1_ok nmX1 (19 + 2 * h) (wc_held cy ad g h hh) rfl 1 (by decide) q_50 rfl (ty := .int) (by decide +kernel) rfl rfl (Nat.le_of_ble_eq_true rfl) hdg (wc_heldset0 cy ad g v h hh) (kk _ rfl)
theorem gX5_45 (h : Nat) (hh : h < 13) (X : Cx (kC b D A cy ad) cc RX5 nL fr lo) (hdg : decode cc pc = .ok (.getfield 45, 3)) (kk : Gd (kC b D A cy ad) nL (pc + 3) lv (.int (g (20 + h) 0) :: rest) g) : Gd (kC b D A cy ad) nL pc lv (.ref (ad (19 + 2 * h)) :: rest) g := gd_get X inX1 (19 + 2 * h) (wc_held cy ad g h hh) rfl 1 (by decide) q_51 rfl hdg kk
theorem pX5_45 (h : Nat) (hh : h < 13) (X : Cx (kC b D A cy ad) cc RX5 nL fr lo) {v : Int32} (hdg : decode cc pc = .ok (.putfield 45, 3)) (kk : ∀ g1 : SG, g1 = sput g (20 + h) 0 v → Gd (kC b D A cy ad) nL (pc + 3) lv rest g1) : Gd (kC b D A cy ad) nL pc lv (.int v :: .ref (ad (19 + 2 * h)) :: rest) g := gd_put X inX1 tyX1 tyX1_ok nmX1 (19 + 2 * h) (wc_held cy ad g h hh) rfl 1 (by decide) q_51 rfl (ty := .int) (by decide +kernel) rfl rfl (Nat.le_of_ble_eq_true rfl) hdg (wc_heldset0 cy ad g v h hh) (kk _ rfl)
theorem gX0_33 (h : Nat) (hh : h < 13) (X : Cx (kC b D A cy ad) cc RX0 nL fr lo) (hdg : decode cc pc = .ok (.getfield 33, 3)) (kk : Gd (kC b D A cy ad) nL (pc + 3) lv (.int (g (20 + h) 0) :: rest) g) : Gd (kC b D A cy ad) nL pc lv (.ref (ad (19 + 2 * h)) :: rest) g := gd_get X inX1 (19 + 2 * h) (wc_held cy ad g h hh) rfl 1 (by decide) q_52 rfl hdg kk
theorem pX0_33 (h : Nat) (hh : h < 13) (X : Cx (kC b D A cy ad) cc RX0 nL fr lo) {v : Int32} (hdg : decode cc pc = .ok (.putfield 33, 3)) (kk : ∀ g1 : SG, g1 = sput g (20 + h) 0 v → Gd (kC b D A cy ad) nL (pc + 3) lv rest g1) : Gd (kC b D A cy ad) nL pc lv (.int v :: .ref (ad (19 + 2 * h)) :: rest) g := gd_put X inX1 tyX1 tyX1_ok nmX1 (19 + 2 * h) (wc_held cy ad g h hh) rfl 1 (by decide) q_52 rfl (ty := .int) (by decide +kernel) rfl rfl (Nat.le_of_ble_eq_true rfl) hdg (wc_heldset0 cy ad g v h hh) (kk _ rfl)
theorem gX1_15 (h : Nat) (hh : h < 13) (X : Cx (kC b D A cy ad) cc RX1 nL fr lo) (hdg : decode cc pc = .ok (.getfield 15, 3)) (kk : Gd (kC b D A cy ad) nL (pc + 3) lv (.int (g (20 + h) 1) :: rest) g) : Gd (kC b D A cy ad) nL pc lv (.ref (ad (19 + 2 * h)) :: rest) g := gd_get X inX1 (19 + 2 * h) (wc_held cy ad g h hh) rfl 2 (by decide) q_53 rfl hdg kk
theorem pX1_15 (h : Nat) (hh : h < 13) (X : Cx (kC b D A cy ad) cc RX1 nL fr lo) {v : Int32} (hdg : decode cc pc = .ok (.putfield 15, 3)) (kk : ∀ g1 : SG, g1 = sput g (20 + h) 1 v → Gd (kC b D A cy ad) nL (pc + 3) lv rest g1) : Gd (kC b D A cy ad) nL pc lv (.int v :: .ref (ad (19 + 2 * h)) :: rest) g := gd_put X inX1 tyX1 tyX1_ok nmX1 (19 + 2 * h) (wc_held cy ad g h hh) rfl 2 (by decide) q_53 rfl (ty := .int) (by decide +kernel) rfl rfl (Nat.le_of_ble_eq_true rfl) hdg (wc_heldset1 cy ad g v h hh) (kk _ rfl)
theorem gX5_68 (h : Nat) (hh : h < 13) (X : Cx (kC b D A cy ad) cc RX5 nL fr lo) (hdg : decode cc pc = .ok (.getfield 68, 3)) (kk : Gd (kC b D A cy ad) nL (pc + 3) lv (.int (g (20 + h) 1) :: rest) g) : Gd (kC b D A cy ad) nL pc lv (.ref (ad (19 + 2 * h)) :: rest) g := gd_get X inX1 (19 + 2 * h) (wc_held cy ad g h hh) rfl 2 (by decide) q_54 rfl hdg kk
theorem pX5_68 (h : Nat) (hh : h < 13) (X : Cx (kC b D A cy ad) cc RX5 nL fr lo) {v : Int32} (hdg : decode cc pc = .ok (.putfield 68, 3)) (kk : ∀ g1 : SG, g1 = sput g (20 + h) 1 v → Gd (kC b D A cy ad) nL (pc + 3) lv rest g1) : Gd (kC b D A cy ad) nL pc lv (.int v :: .ref (ad (19 + 2 * h)) :: rest) g := gd_put X inX1 tyX1 tyX1_ok nmX1 (19 + 2 * h) (wc_held cy ad g h hh) rfl 2 (by decide) q_54 rfl (ty := .int) (by decide +kernel) rfl rfl (Nat.le_of_ble_eq_true rfl) hdg (wc_heldset1 cy ad g v h hh) (kk _ rfl)
theorem gX1_19 (h : Nat) (hh : h < 13) (X : Cx (kC b D A cy ad) cc RX1 nL fr lo) (hdg : decode cc pc = .ok (.getfield 19, 3)) (kk : Gd (kC b D A cy ad) nL (pc + 3) lv (.int (g (20 + h) 2) :: rest) g) : Gd (kC b D A cy ad) nL pc lv (.ref (ad (19 + 2 * h)) :: rest) g := gd_get X inX1 (19 + 2 * h) (wc_held cy ad g h hh) rfl 3 (by decide) q_55 rfl hdg kk
theorem pX1_19 (h : Nat) (hh : h < 13) (X : Cx (kC b D A cy ad) cc RX1 nL fr lo) {v : Int32} (hdg : decode cc pc = .ok (.putfield 19, 3)) (kk : ∀ g1 : SG, g1 = sput g (20 + h) 2 v → Gd (kC b D A cy ad) nL (pc + 3) lv rest g1) : Gd (kC b D A cy ad) nL pc lv (.int v :: .ref (ad (19 + 2 * h)) :: rest) g := gd_put X inX1 tyX1 tyX1_ok nmX1 (19 + 2 * h) (wc_held cy ad g h hh) rfl 3 (by decide) q_55 rfl (ty := .int) (by decide +kernel) rfl rfl (Nat.le_of_ble_eq_true rfl) hdg (wc_heldset2 cy ad g v h hh) (kk _ rfl)
theorem gX5_71 (h : Nat) (hh : h < 13) (X : Cx (kC b D A cy ad) cc RX5 nL fr lo) (hdg : decode cc pc = .ok (.getfield 71, 3)) (kk : Gd (kC b D A cy ad) nL (pc + 3) lv (.int (g (20 + h) 2) :: rest) g) : Gd (kC b D A cy ad) nL pc lv (.ref (ad (19 + 2 * h)) :: rest) g := gd_get X inX1 (19 + 2 * h) (wc_held cy ad g h hh) rfl 3 (by decide) q_56 rfl hdg kk
theorem pX5_71 (h : Nat) (hh : h < 13) (X : Cx (kC b D A cy ad) cc RX5 nL fr lo) {v : Int32} (hdg : decode cc pc = .ok (.putfield 71, 3)) (kk : ∀ g1 : SG, g1 = sput g (20 + h) 2 v → Gd (kC b D A cy ad) nL (pc + 3) lv rest g1) : Gd (kC b D A cy ad) nL pc lv (.int v :: .ref (ad (19 + 2 * h)) :: rest) g := gd_put X inX1 tyX1 tyX1_ok nmX1 (19 + 2 * h) (wc_held cy ad g h hh) rfl 3 (by decide) q_56 rfl (ty := .int) (by decide +kernel) rfl rfl (Nat.le_of_ble_eq_true rfl) hdg (wc_heldset2 cy ad g v h hh) (kk _ rfl)
theorem gX1_22 (h : Nat) (hh : h < 13) (X : Cx (kC b D A cy ad) cc RX1 nL fr lo) (hdg : decode cc pc = .ok (.getfield 22, 3)) (kk : Gd (kC b D A cy ad) nL (pc + 3) lv (.int (g (20 + h) 3) :: rest) g) : Gd (kC b D A cy ad) nL pc lv (.ref (ad (19 + 2 * h)) :: rest) g := gd_get X inX1 (19 + 2 * h) (wc_held cy ad g h hh) rfl 4 (by decide) q_57 rfl hdg kk
theorem pX1_22 (h : Nat) (hh : h < 13) (X : Cx (kC b D A cy ad) cc RX1 nL fr lo) {v : Int32} (hdg : decode cc pc = .ok (.putfield 22, 3)) (kk : ∀ g1 : SG, g1 = sput g (20 + h) 3 v → Gd (kC b D A cy ad) nL (pc + 3) lv rest g1) : Gd (kC b D A cy ad) nL pc lv (.int v :: .ref (ad (19 + 2 * h)) :: rest) g := gd_put X inX1 tyX1 tyX1_ok nmX1 (19 + 2 * h) (wc_held cy ad g h hh) rfl 4 (by decide) q_57 rfl (ty := .int) (by decide +kernel) rfl rfl (Nat.le_of_ble_eq_true rfl) hdg (wc_heldset3 cy ad g v h hh) (kk _ rfl)
theorem gX5_85 (h : Nat) (hh : h < 13) (X : Cx (kC b D A cy ad) cc RX5 nL fr lo) (hdg : decode cc pc = .ok (.getfield 85, 3)) (kk : Gd (kC b D A cy ad) nL (pc + 3) lv (.int (g (20 + h) 3) :: rest) g) : Gd (kC b D A cy ad) nL pc lv (.ref (ad (19 + 2 * h)) :: rest) g := gd_get X inX1 (19 + 2 * h) (wc_held cy ad g h hh) rfl 4 (by decide) q_58 rfl hdg kk
theorem pX5_85 (h : Nat) (hh : h < 13) (X : Cx (kC b D A cy ad) cc RX5 nL fr lo) {v : Int32} (hdg : decode cc pc = .ok (.putfield 85, 3)) (kk : ∀ g1 : SG, g1 = sput g (20 + h) 3 v → Gd (kC b D A cy ad) nL (pc + 3) lv rest g1) : Gd (kC b D A cy ad) nL pc lv (.int v :: .ref (ad (19 + 2 * h)) :: rest) g := gd_put X inX1 tyX1 tyX1_ok nmX1 (19 + 2 * h) (wc_held cy ad g h hh) rfl 4 (by decide) q_58 rfl (ty := .int) (by decide +kernel) rfl rfl (Nat.le_of_ble_eq_true rfl) hdg (wc_heldset3 cy ad g v h hh) (kk _ rfl)
theorem gX1_28 (h : Nat) (hh : h < 13) (X : Cx (kC b D A cy ad) cc RX1 nL fr lo) (hdg : decode cc pc = .ok (.getfield 28, 3)) (kk : Gd (kC b D A cy ad) nL (pc + 3) lv (.int (g (20 + h) 4) :: rest) g) : Gd (kC b D A cy ad) nL pc lv (.ref (ad (19 + 2 * h)) :: rest) g := gd_get X inX1 (19 + 2 * h) (wc_held cy ad g h hh) rfl 5 (by decide) q_59 rfl hdg kk
theorem pX1_28 (h : Nat) (hh : h < 13) (X : Cx (kC b D A cy ad) cc RX1 nL fr lo) {v : Int32} (hdg : decode cc pc = .ok (.putfield 28, 3)) (kk : ∀ g1 : SG, g1 = sput g (20 + h) 4 v → Gd (kC b D A cy ad) nL (pc + 3) lv rest g1) : Gd (kC b D A cy ad) nL pc lv (.int v :: .ref (ad (19 + 2 * h)) :: rest) g := gd_put X inX1 tyX1 tyX1_ok nmX1 (19 + 2 * h) (wc_held cy ad g h hh) rfl 5 (by decide) q_59 rfl (ty := .int) (by decide +kernel) rfl rfl (Nat.le_of_ble_eq_true rfl) hdg (wc_heldset4 cy ad g v h hh) (kk _ rfl)
theorem gX5_88 (h : Nat) (hh : h < 13) (X : Cx (kC b D A cy ad) cc RX5 nL fr lo) (hdg : decode cc pc = .ok (.getfield 88, 3)) (kk : Gd (kC b D A cy ad) nL (pc + 3) lv (.int (g (20 + h) 4) :: rest) g) : Gd (kC b D A cy ad) nL pc lv (.ref (ad (19 + 2 * h)) :: rest) g := gd_get X inX1 (19 + 2 * h) (wc_held cy ad g h hh) rfl 5 (by decide) q_60 rfl hdg kk
theorem pX5_88 (h : Nat) (hh : h < 13) (X : Cx (kC b D A cy ad) cc RX5 nL fr lo) {v : Int32} (hdg : decode cc pc = .ok (.putfield 88, 3)) (kk : ∀ g1 : SG, g1 = sput g (20 + h) 4 v → Gd (kC b D A cy ad) nL (pc + 3) lv rest g1) : Gd (kC b D A cy ad) nL pc lv (.int v :: .ref (ad (19 + 2 * h)) :: rest) g := gd_put X inX1 tyX1 tyX1_ok nmX1 (19 + 2 * h) (wc_held cy ad g h hh) rfl 5 (by decide) q_60 rfl (ty := .int) (by decide +kernel) rfl rfl (Nat.le_of_ble_eq_true rfl) hdg (wc_heldset4 cy ad g v h hh) (kk _ rfl)
theorem gX2_11 (X : Cx (kC b D A cy ad) cc RX2 nL fr lo) (hdg : decode cc pc = .ok (.getfield 11, 3)) (kk : Gd (kC b D A cy ad) nL (pc + 3) lv (.ref (ad 2) :: rest) g) : Gd (kC b D A cy ad) nL pc lv (.ref (ad 1) :: rest) g := gd_get X inX2 1 rfl rfl 0 (by decide) q_84 rfl hdg kk
theorem gX2_18 (X : Cx (kC b D A cy ad) cc RX2 nL fr lo) (hdg : decode cc pc = .ok (.getfield 18, 3)) (kk : Gd (kC b D A cy ad) nL (pc + 3) lv (.int (g 0 2) :: rest) g) : Gd (kC b D A cy ad) nL pc lv (.ref (ad 1) :: rest) g := gd_get X inX2 1 rfl rfl 1 (by decide) q_85 rfl hdg kk
theorem pX2_18 (X : Cx (kC b D A cy ad) cc RX2 nL fr lo) {v : Int32} (hdg : decode cc pc = .ok (.putfield 18, 3)) (kk : ∀ g1 : SG, g1 = sput g 0 2 v → Gd (kC b D A cy ad) nL (pc + 3) lv rest g1) : Gd (kC b D A cy ad) nL pc lv (.int v :: .ref (ad 1) :: rest) g := gd_put X inX2 tyX2 tyX2_ok nmX2 1 rfl rfl 1 (by decide) q_85 rfl (ty := .int) (by decide +kernel) rfl rfl (Nat.le_of_ble_eq_true rfl) hdg rfl (kk _ rfl)
theorem gX2_26 (X : Cx (kC b D A cy ad) cc RX2 nL fr lo) (hdg : decode cc pc = .ok (.getfield 26, 3)) (kk : Gd (kC b D A cy ad) nL (pc + 3) lv (.int (g 0 3) :: rest) g) : Gd (kC b D A cy ad) nL pc lv (.ref (ad 1) :: rest) g := gd_get X inX2 1 rfl rfl 2 (by decide) q_86 rfl hdg kk
theorem pX2_26 (X : Cx (kC b D A cy ad) cc RX2 nL fr lo) {v : Int32} (hdg : decode cc pc = .ok (.putfield 26, 3)) (kk : ∀ g1 : SG, g1 = sput g 0 3 v → Gd (kC b D A cy ad) nL (pc + 3) lv rest g1) : Gd (kC b D A cy ad) nL pc lv (.int v :: .ref (ad 1) :: rest) g := gd_put X inX2 tyX2 tyX2_ok nmX2 1 rfl rfl 2 (by decide) q_86 rfl (ty := .int) (by decide +kernel) rfl rfl (Nat.le_of_ble_eq_true rfl) hdg rfl (kk _ rfl)
theorem gX5_105 (X : Cx (kC b D A cy ad) cc RX5 nL fr lo) (hdg : decode cc pc = .ok (.getfield 105, 3)) (kk : Gd (kC b D A cy ad) nL (pc + 3) lv (.int (g 0 3) :: rest) g) : Gd (kC b D A cy ad) nL pc lv (.ref (ad 1) :: rest) g := gd_get X inX2 1 rfl rfl 2 (by decide) q_87 rfl hdg kk
theorem pX5_105 (X : Cx (kC b D A cy ad) cc RX5 nL fr lo) {v : Int32} (hdg : decode cc pc = .ok (.putfield 105, 3)) (kk : ∀ g1 : SG, g1 = sput g 0 3 v → Gd (kC b D A cy ad) nL (pc + 3) lv rest g1) : Gd (kC b D A cy ad) nL pc lv (.int v :: .ref (ad 1) :: rest) g := gd_put X inX2 tyX2 tyX2_ok nmX2 1 rfl rfl 2 (by decide) q_87 rfl (ty := .int) (by decide +kernel) rfl rfl (Nat.le_of_ble_eq_true rfl) hdg rfl (kk _ rfl)
theorem gX0_9 (X : Cx (kC b D A cy ad) cc RX0 nL fr lo) (hdg : decode cc pc = .ok (.getfield 9, 3)) (kk : Gd (kC b D A cy ad) nL (pc + 3) lv (.ref (ad 6) :: rest) g) : Gd (kC b D A cy ad) nL pc lv (.ref (ad 5) :: rest) g := gd_get X inX0 5 rfl rfl 0 (by decide) q_101 rfl hdg kk
theorem gX0_15 (X : Cx (kC b D A cy ad) cc RX0 nL fr lo) (hdg : decode cc pc = .ok (.getfield 15, 3)) (kk : Gd (kC b D A cy ad) nL (pc + 3) lv (.ref (ad 7) :: rest) g) : Gd (kC b D A cy ad) nL pc lv (.ref (ad 5) :: rest) g := gd_get X inX0 5 rfl rfl 1 (by decide) q_102 rfl hdg kk
theorem gX0_18 (X : Cx (kC b D A cy ad) cc RX0 nL fr lo) (hdg : decode cc pc = .ok (.getfield 18, 3)) (kk : Gd (kC b D A cy ad) nL (pc + 3) lv (.ref (ad 8) :: rest) g) : Gd (kC b D A cy ad) nL pc lv (.ref (ad 5) :: rest) g := gd_get X inX0 5 rfl rfl 2 (by decide) q_103 rfl hdg kk
theorem gX0_46 (X : Cx (kC b D A cy ad) cc RX0 nL fr lo) (hdg : decode cc pc = .ok (.getfield 46, 3)) (kk : Gd (kC b D A cy ad) nL (pc + 3) lv (.int (g 0 4) :: rest) g) : Gd (kC b D A cy ad) nL pc lv (.ref (ad 5) :: rest) g := gd_get X inX0 5 rfl rfl 3 (by decide) q_104 rfl hdg kk
theorem pX0_46 (X : Cx (kC b D A cy ad) cc RX0 nL fr lo) {v : Int32} (hdg : decode cc pc = .ok (.putfield 46, 3)) (kk : ∀ g1 : SG, g1 = sput g 0 4 v → Gd (kC b D A cy ad) nL (pc + 3) lv rest g1) : Gd (kC b D A cy ad) nL pc lv (.int v :: .ref (ad 5) :: rest) g := gd_put X inX0 tyX0 tyX0_ok nmX0 5 rfl rfl 3 (by decide) q_104 rfl (ty := .int) (by decide +kernel) rfl rfl (Nat.le_of_ble_eq_true rfl) hdg rfl (kk _ rfl)
theorem gX5_185 (X : Cx (kC b D A cy ad) cc RX5 nL fr lo) (hdg : decode cc pc = .ok (.getfield 185, 3)) (kk : Gd (kC b D A cy ad) nL (pc + 3) lv (.int (g 0 4) :: rest) g) : Gd (kC b D A cy ad) nL pc lv (.ref (ad 5) :: rest) g := gd_get X inX0 5 rfl rfl 3 (by decide) q_105 rfl hdg kk
theorem pX5_185 (X : Cx (kC b D A cy ad) cc RX5 nL fr lo) {v : Int32} (hdg : decode cc pc = .ok (.putfield 185, 3)) (kk : ∀ g1 : SG, g1 = sput g 0 4 v → Gd (kC b D A cy ad) nL (pc + 3) lv rest g1) : Gd (kC b D A cy ad) nL pc lv (.int v :: .ref (ad 5) :: rest) g := gd_put X inX0 tyX0 tyX0_ok nmX0 5 rfl rfl 3 (by decide) q_105 rfl (ty := .int) (by decide +kernel) rfl rfl (Nat.le_of_ble_eq_true rfl) hdg rfl (kk _ rfl)
theorem gX4_20 (X : Cx (kC b D A cy ad) cc RX4 nL fr lo) (hdg : decode cc pc = .ok (.getfield 20, 3)) (kk : Gd (kC b D A cy ad) nL (pc + 3) lv (.int (g 0 5) :: rest) g) : Gd (kC b D A cy ad) nL pc lv (.ref (ad 5) :: rest) g := gd_get X inX0 5 rfl rfl 4 (by decide) q_106 rfl hdg kk
theorem pX4_20 (X : Cx (kC b D A cy ad) cc RX4 nL fr lo) {v : Int32} (hdg : decode cc pc = .ok (.putfield 20, 3)) (kk : ∀ g1 : SG, g1 = sput g 0 5 v → Gd (kC b D A cy ad) nL (pc + 3) lv rest g1) : Gd (kC b D A cy ad) nL pc lv (.int v :: .ref (ad 5) :: rest) g := gd_put X inX0 tyX0 tyX0_ok nmX0 5 rfl rfl 4 (by decide) q_106 rfl (ty := .int) (by decide +kernel) rfl rfl (Nat.le_of_ble_eq_true rfl) hdg rfl (kk _ rfl)
theorem gX0_29 (X : Cx (kC b D A cy ad) cc RX0 nL fr lo) (hdg : decode cc pc = .ok (.getfield 29, 3)) (kk : Gd (kC b D A cy ad) nL (pc + 3) lv (.int (g 0 5) :: rest) g) : Gd (kC b D A cy ad) nL pc lv (.ref (ad 5) :: rest) g := gd_get X inX0 5 rfl rfl 4 (by decide) q_107 rfl hdg kk
theorem pX0_29 (X : Cx (kC b D A cy ad) cc RX0 nL fr lo) {v : Int32} (hdg : decode cc pc = .ok (.putfield 29, 3)) (kk : ∀ g1 : SG, g1 = sput g 0 5 v → Gd (kC b D A cy ad) nL (pc + 3) lv rest g1) : Gd (kC b D A cy ad) nL pc lv (.int v :: .ref (ad 5) :: rest) g := gd_put X inX0 tyX0 tyX0_ok nmX0 5 rfl rfl 4 (by decide) q_107 rfl (ty := .int) (by decide +kernel) rfl rfl (Nat.le_of_ble_eq_true rfl) hdg rfl (kk _ rfl)
theorem gX5_117 (X : Cx (kC b D A cy ad) cc RX5 nL fr lo) (hdg : decode cc pc = .ok (.getfield 117, 3)) (kk : Gd (kC b D A cy ad) nL (pc + 3) lv (.int (g 0 5) :: rest) g) : Gd (kC b D A cy ad) nL pc lv (.ref (ad 5) :: rest) g := gd_get X inX0 5 rfl rfl 4 (by decide) q_108 rfl hdg kk
theorem pX5_117 (X : Cx (kC b D A cy ad) cc RX5 nL fr lo) {v : Int32} (hdg : decode cc pc = .ok (.putfield 117, 3)) (kk : ∀ g1 : SG, g1 = sput g 0 5 v → Gd (kC b D A cy ad) nL (pc + 3) lv rest g1) : Gd (kC b D A cy ad) nL pc lv (.int v :: .ref (ad 5) :: rest) g := gd_put X inX0 tyX0 tyX0_ok nmX0 5 rfl rfl 4 (by decide) q_108 rfl (ty := .int) (by decide +kernel) rfl rfl (Nat.le_of_ble_eq_true rfl) hdg rfl (kk _ rfl)
theorem gX4_9 (X : Cx (kC b D A cy ad) cc RX4 nL fr lo) (hdg : decode cc pc = .ok (.getfield 9, 3)) (kk : Gd (kC b D A cy ad) nL (pc + 3) lv (.ref (ad 10) :: rest) g) : Gd (kC b D A cy ad) nL pc lv (.ref (ad 9) :: rest) g := gd_get X inX4 9 rfl rfl 0 (by decide) q_130 rfl hdg kk
theorem gX4_17 (X : Cx (kC b D A cy ad) cc RX4 nL fr lo) (hdg : decode cc pc = .ok (.getfield 17, 3)) (kk : Gd (kC b D A cy ad) nL (pc + 3) lv (.ref (ad 11) :: rest) g) : Gd (kC b D A cy ad) nL pc lv (.ref (ad 9) :: rest) g := gd_get X inX4 9 rfl rfl 1 (by decide) q_131 rfl hdg kk
theorem gX4_26 (X : Cx (kC b D A cy ad) cc RX4 nL fr lo) (hdg : decode cc pc = .ok (.getfield 26, 3)) (kk : Gd (kC b D A cy ad) nL (pc + 3) lv (.int (g 0 10) :: rest) g) : Gd (kC b D A cy ad) nL pc lv (.ref (ad 9) :: rest) g := gd_get X inX4 9 rfl rfl 2 (by decide) q_132 rfl hdg kk
theorem pX4_26 (X : Cx (kC b D A cy ad) cc RX4 nL fr lo) {v : Int32} (hdg : decode cc pc = .ok (.putfield 26, 3)) (kk : ∀ g1 : SG, g1 = sput g 0 10 v → Gd (kC b D A cy ad) nL (pc + 3) lv rest g1) : Gd (kC b D A cy ad) nL pc lv (.int v :: .ref (ad 9) :: rest) g := gd_put X inX4 tyX4 tyX4_ok nmX4 9 rfl rfl 2 (by decide) q_132 rfl (ty := .int) (by decide +kernel) rfl rfl (Nat.le_of_ble_eq_true rfl) hdg rfl (kk _ rfl)
theorem gX4_37 (X : Cx (kC b D A cy ad) cc RX4 nL fr lo) (hdg : decode cc pc = .ok (.getfield 37, 3)) (kk : Gd (kC b D A cy ad) nL (pc + 3) lv (.int (g 0 6) :: rest) g) : Gd (kC b D A cy ad) nL pc lv (.ref (ad 9) :: rest) g := gd_get X inX4 9 rfl rfl 3 (by decide) q_133 rfl hdg kk
theorem pX4_37 (X : Cx (kC b D A cy ad) cc RX4 nL fr lo) {v : Int32} (hdg : decode cc pc = .ok (.putfield 37, 3)) (kk : ∀ g1 : SG, g1 = sput g 0 6 v → Gd (kC b D A cy ad) nL (pc + 3) lv rest g1) : Gd (kC b D A cy ad) nL pc lv (.int v :: .ref (ad 9) :: rest) g := gd_put X inX4 tyX4 tyX4_ok nmX4 9 rfl rfl 3 (by decide) q_133 rfl (ty := .int) (by decide +kernel) rfl rfl (Nat.le_of_ble_eq_true rfl) hdg rfl (kk _ rfl)
theorem gX5_133 (X : Cx (kC b D A cy ad) cc RX5 nL fr lo) (hdg : decode cc pc = .ok (.getfield 133, 3)) (kk : Gd (kC b D A cy ad) nL (pc + 3) lv (.int (g 0 6) :: rest) g) : Gd (kC b D A cy ad) nL pc lv (.ref (ad 9) :: rest) g := gd_get X inX4 9 rfl rfl 3 (by decide) q_134 rfl hdg kk
theorem pX5_133 (X : Cx (kC b D A cy ad) cc RX5 nL fr lo) {v : Int32} (hdg : decode cc pc = .ok (.putfield 133, 3)) (kk : ∀ g1 : SG, g1 = sput g 0 6 v → Gd (kC b D A cy ad) nL (pc + 3) lv rest g1) : Gd (kC b D A cy ad) nL pc lv (.int v :: .ref (ad 9) :: rest) g := gd_put X inX4 tyX4 tyX4_ok nmX4 9 rfl rfl 3 (by decide) q_134 rfl (ty := .int) (by decide +kernel) rfl rfl (Nat.le_of_ble_eq_true rfl) hdg rfl (kk _ rfl)
theorem gX4_75 (X : Cx (kC b D A cy ad) cc RX4 nL fr lo) (hdg : decode cc pc = .ok (.getfield 75, 3)) (kk : Gd (kC b D A cy ad) nL (pc + 3) lv (.int (g 0 7) :: rest) g) : Gd (kC b D A cy ad) nL pc lv (.ref (ad 9) :: rest) g := gd_get X inX4 9 rfl rfl 4 (by decide) q_135 rfl hdg kk
theorem pX4_75 (X : Cx (kC b D A cy ad) cc RX4 nL fr lo) {v : Int32} (hdg : decode cc pc = .ok (.putfield 75, 3)) (kk : ∀ g1 : SG, g1 = sput g 0 7 v → Gd (kC b D A cy ad) nL (pc + 3) lv rest g1) : Gd (kC b D A cy ad) nL pc lv (.int v :: .ref (ad 9) :: rest) g := gd_put X inX4 tyX4 tyX4_ok nmX4 9 rfl rfl 4 (by decide) q_135 rfl (ty := .int) (by decide +kernel) rfl rfl (Nat.le_of_ble_eq_true rfl) hdg rfl (kk _ rfl)
theorem gX5_142 (X : Cx (kC b D A cy ad) cc RX5 nL fr lo) (hdg : decode cc pc = .ok (.getfield 142, 3)) (kk : Gd (kC b D A cy ad) nL (pc + 3) lv (.int (g 0 7) :: rest) g) : Gd (kC b D A cy ad) nL pc lv (.ref (ad 9) :: rest) g := gd_get X inX4 9 rfl rfl 4 (by decide) q_136 rfl hdg kk
theorem pX5_142 (X : Cx (kC b D A cy ad) cc RX5 nL fr lo) {v : Int32} (hdg : decode cc pc = .ok (.putfield 142, 3)) (kk : ∀ g1 : SG, g1 = sput g 0 7 v → Gd (kC b D A cy ad) nL (pc + 3) lv rest g1) : Gd (kC b D A cy ad) nL pc lv (.int v :: .ref (ad 9) :: rest) g := gd_put X inX4 tyX4 tyX4_ok nmX4 9 rfl rfl 4 (by decide) q_136 rfl (ty := .int) (by decide +kernel) rfl rfl (Nat.le_of_ble_eq_true rfl) hdg rfl (kk _ rfl)
theorem gX4_78 (X : Cx (kC b D A cy ad) cc RX4 nL fr lo) (hdg : decode cc pc = .ok (.getfield 78, 3)) (kk : Gd (kC b D A cy ad) nL (pc + 3) lv (.int (g 0 8) :: rest) g) : Gd (kC b D A cy ad) nL pc lv (.ref (ad 9) :: rest) g := gd_get X inX4 9 rfl rfl 5 (by decide) q_137 rfl hdg kk
theorem pX4_78 (X : Cx (kC b D A cy ad) cc RX4 nL fr lo) {v : Int32} (hdg : decode cc pc = .ok (.putfield 78, 3)) (kk : ∀ g1 : SG, g1 = sput g 0 8 v → Gd (kC b D A cy ad) nL (pc + 3) lv rest g1) : Gd (kC b D A cy ad) nL pc lv (.int v :: .ref (ad 9) :: rest) g := gd_put X inX4 tyX4 tyX4_ok nmX4 9 rfl rfl 5 (by decide) q_137 rfl (ty := .int) (by decide +kernel) rfl rfl (Nat.le_of_ble_eq_true rfl) hdg rfl (kk _ rfl)
theorem gX5_145 (X : Cx (kC b D A cy ad) cc RX5 nL fr lo) (hdg : decode cc pc = .ok (.getfield 145, 3)) (kk : Gd (kC b D A cy ad) nL (pc + 3) lv (.int (g 0 8) :: rest) g) : Gd (kC b D A cy ad) nL pc lv (.ref (ad 9) :: rest) g := gd_get X inX4 9 rfl rfl 5 (by decide) q_138 rfl hdg kk
theorem pX5_145 (X : Cx (kC b D A cy ad) cc RX5 nL fr lo) {v : Int32} (hdg : decode cc pc = .ok (.putfield 145, 3)) (kk : ∀ g1 : SG, g1 = sput g 0 8 v → Gd (kC b D A cy ad) nL (pc + 3) lv rest g1) : Gd (kC b D A cy ad) nL pc lv (.int v :: .ref (ad 9) :: rest) g := gd_put X inX4 tyX4 tyX4_ok nmX4 9 rfl rfl 5 (by decide) q_138 rfl (ty := .int) (by decide +kernel) rfl rfl (Nat.le_of_ble_eq_true rfl) hdg rfl (kk _ rfl)
theorem gX4_46 (X : Cx (kC b D A cy ad) cc RX4 nL fr lo) (hdg : decode cc pc = .ok (.getfield 46, 3)) (kk : Gd (kC b D A cy ad) nL (pc + 3) lv (.int (g 0 9) :: rest) g) : Gd (kC b D A cy ad) nL pc lv (.ref (ad 9) :: rest) g := gd_get X inX4 9 rfl rfl 6 (by decide) q_139 rfl hdg kk
theorem pX4_46 (X : Cx (kC b D A cy ad) cc RX4 nL fr lo) {v : Int32} (hdg : decode cc pc = .ok (.putfield 46, 3)) (kk : ∀ g1 : SG, g1 = sput g 0 9 v → Gd (kC b D A cy ad) nL (pc + 3) lv rest g1) : Gd (kC b D A cy ad) nL pc lv (.int v :: .ref (ad 9) :: rest) g := gd_put X inX4 tyX4 tyX4_ok nmX4 9 rfl rfl 6 (by decide) q_139 rfl (ty := .int) (by decide +kernel) rfl rfl (Nat.le_of_ble_eq_true rfl) hdg rfl (kk _ rfl)
theorem gX5_82 (X : Cx (kC b D A cy ad) cc RX5 nL fr lo) (hdg : decode cc pc = .ok (.getfield 82, 3)) (kk : Gd (kC b D A cy ad) nL (pc + 3) lv (.int (g 0 9) :: rest) g) : Gd (kC b D A cy ad) nL pc lv (.ref (ad 9) :: rest) g := gd_get X inX4 9 rfl rfl 6 (by decide) q_140 rfl hdg kk
theorem pX5_82 (X : Cx (kC b D A cy ad) cc RX5 nL fr lo) {v : Int32} (hdg : decode cc pc = .ok (.putfield 82, 3)) (kk : ∀ g1 : SG, g1 = sput g 0 9 v → Gd (kC b D A cy ad) nL (pc + 3) lv rest g1) : Gd (kC b D A cy ad) nL pc lv (.int v :: .ref (ad 9) :: rest) g := gd_put X inX4 tyX4 tyX4_ok nmX4 9 rfl rfl 6 (by decide) q_140 rfl (ty := .int) (by decide +kernel) rfl rfl (Nat.le_of_ble_eq_true rfl) hdg rfl (kk _ rfl)
theorem gX5_12 (X : Cx (kC b D A cy ad) cc RX5 nL fr lo) (hdg : decode cc pc = .ok (.getfield 12, 3)) (kk : Gd (kC b D A cy ad) nL (pc + 3) lv (.ref (ad 19) :: rest) g) : Gd (kC b D A cy ad) nL pc lv (.ref (ad 0) :: rest) g := gd_get X inX5 0 rfl rfl 0 (by decide) q_156 rfl hdg kk
theorem gX5_19 (X : Cx (kC b D A cy ad) cc RX5 nL fr lo) (hdg : decode cc pc = .ok (.getfield 19, 3)) (kk : Gd (kC b D A cy ad) nL (pc + 3) lv (.ref (ad 1) :: rest) g) : Gd (kC b D A cy ad) nL pc lv (.ref (ad 0) :: rest) g := gd_get X inX5 0 rfl rfl 1 (by decide) q_157 rfl hdg kk
theorem gX5_23 (X : Cx (kC b D A cy ad) cc RX5 nL fr lo) (hdg : decode cc pc = .ok (.getfield 23, 3)) (kk : Gd (kC b D A cy ad) nL (pc + 3) lv (.ref (ad 3) :: rest) g) : Gd (kC b D A cy ad) nL pc lv (.ref (ad 0) :: rest) g := gd_get X inX5 0 rfl rfl 2 (by decide) q_158 rfl hdg kk
theorem gX5_27 (X : Cx (kC b D A cy ad) cc RX5 nL fr lo) (hdg : decode cc pc = .ok (.getfield 27, 3)) (kk : Gd (kC b D A cy ad) nL (pc + 3) lv (.ref (ad 4) :: rest) g) : Gd (kC b D A cy ad) nL pc lv (.ref (ad 0) :: rest) g := gd_get X inX5 0 rfl rfl 3 (by decide) q_159 rfl hdg kk
theorem gX5_34 (X : Cx (kC b D A cy ad) cc RX5 nL fr lo) (hdg : decode cc pc = .ok (.getfield 34, 3)) (kk : Gd (kC b D A cy ad) nL (pc + 3) lv (.ref (ad 5) :: rest) g) : Gd (kC b D A cy ad) nL pc lv (.ref (ad 0) :: rest) g := gd_get X inX5 0 rfl rfl 4 (by decide) q_160 rfl hdg kk
theorem gX5_41 (X : Cx (kC b D A cy ad) cc RX5 nL fr lo) (hdg : decode cc pc = .ok (.getfield 41, 3)) (kk : Gd (kC b D A cy ad) nL (pc + 3) lv (.ref (ad 9) :: rest) g) : Gd (kC b D A cy ad) nL pc lv (.ref (ad 0) :: rest) g := gd_get X inX5 0 rfl rfl 5 (by decide) q_161 rfl hdg kk
theorem gX5_188 (X : Cx (kC b D A cy ad) cc RX5 nL fr lo) (hdg : decode cc pc = .ok (.getfield 188, 3)) (kk : Gd (kC b D A cy ad) nL (pc + 3) lv (.int (g 0 0) :: rest) g) : Gd (kC b D A cy ad) nL pc lv (.ref (ad 0) :: rest) g := gd_get X inX5 0 rfl rfl 6 (by decide) q_162 rfl hdg kk
theorem pX5_188 (X : Cx (kC b D A cy ad) cc RX5 nL fr lo) {v : Int32} (hn : narrow .boolean (.int v) = .int v) (hf : fits .boolean (.int v) = true) (hdg : decode cc pc = .ok (.putfield 188, 3)) (kk : ∀ g1 : SG, g1 = sput g 0 0 v → Gd (kC b D A cy ad) nL (pc + 3) lv rest g1) : Gd (kC b D A cy ad) nL pc lv (.int v :: .ref (ad 0) :: rest) g := gd_put X inX5 tyX5 tyX5_ok nmX5 0 rfl rfl 6 (by decide) q_162 rfl (ty := .boolean) (by decide +kernel) hn hf (Nat.le_of_ble_eq_true rfl) hdg rfl (kk _ rfl)
theorem gX5_192 (X : Cx (kC b D A cy ad) cc RX5 nL fr lo) (hdg : decode cc pc = .ok (.getfield 192, 3)) (kk : Gd (kC b D A cy ad) nL (pc + 3) lv (.int (g 0 1) :: rest) g) : Gd (kC b D A cy ad) nL pc lv (.ref (ad 0) :: rest) g := gd_get X inX5 0 rfl rfl 7 (by decide) q_163 rfl hdg kk
theorem pX5_192 (X : Cx (kC b D A cy ad) cc RX5 nL fr lo) {v : Int32} (hn : narrow .boolean (.int v) = .int v) (hf : fits .boolean (.int v) = true) (hdg : decode cc pc = .ok (.putfield 192, 3)) (kk : ∀ g1 : SG, g1 = sput g 0 1 v → Gd (kC b D A cy ad) nL (pc + 3) lv rest g1) : Gd (kC b D A cy ad) nL pc lv (.int v :: .ref (ad 0) :: rest) g := gd_put X inX5 tyX5 tyX5_ok nmX5 0 rfl rfl 7 (by decide) q_163 rfl (ty := .boolean) (by decide +kernel) hn hf (Nat.le_of_ble_eq_true rfl) hdg rfl (kk _ rfl)
theorem gX6_7 (X : Cx (kM b D A cy ad) cc RX6 nL fr lo) (hdg : decode cc pc = .ok (.getfield 7, 3)) (kk : Gd (kM b D A cy ad) nL (pc + 3) lv (.ref (ad 1) :: rest) g) : Gd (kM b D A cy ad) nL pc lv (.ref (ad 0) :: rest) g := gd_get X inX6 0 rfl rfl 0 (by decide) q_454 rfl hdg kk
theorem gX6_55 (X : Cx (kM b D A cy ad) cc RX6 nL fr lo) (hdg : decode cc pc = .ok (.getfield 55, 3)) (kk : Gd (kM b D A cy ad) nL (pc + 3) lv (.int (g 0 0) :: rest) g) : Gd (kM b D A cy ad) nL pc lv (.ref (ad 0) :: rest) g := gd_get X inX6 0 rfl rfl 1 (by decide) q_455 rfl hdg kk
theorem pX6_55 (X : Cx (kM b D A cy ad) cc RX6 nL fr lo) {v : Int32} (hdg : decode cc pc = .ok (.putfield 55, 3)) (kk : ∀ g1 : SG, g1 = sput g 0 0 v → Gd (kM b D A cy ad) nL (pc + 3) lv rest g1) : Gd (kM b D A cy ad) nL pc lv (.int v :: .ref (ad 0) :: rest) g := gd_put X inX6 tyX6 tyX6_ok nmX6 0 rfl rfl 1 (by decide) q_455 rfl (ty := .int) (by decide +kernel) rfl rfl (Nat.le_of_ble_eq_true rfl) hdg rfl (kk _ rfl)
theorem gX6_51 (X : Cx (kM b D A cy ad) cc RX6 nL fr lo) (hdg : decode cc pc = .ok (.getfield 51, 3)) (kk : Gd (kM b D A cy ad) nL (pc + 3) lv (.int (g 0 1) :: rest) g) : Gd (kM b D A cy ad) nL pc lv (.ref (ad 0) :: rest) g := gd_get X inX6 0 rfl rfl 2 (by decide) q_456 rfl hdg kk
theorem pX6_51 (X : Cx (kM b D A cy ad) cc RX6 nL fr lo) {v : Int32} (hdg : decode cc pc = .ok (.putfield 51, 3)) (kk : ∀ g1 : SG, g1 = sput g 0 1 v → Gd (kM b D A cy ad) nL (pc + 3) lv rest g1) : Gd (kM b D A cy ad) nL pc lv (.int v :: .ref (ad 0) :: rest) g := gd_put X inX6 tyX6 tyX6_ok nmX6 0 rfl rfl 2 (by decide) q_456 rfl (ty := .int) (by decide +kernel) rfl rfl (Nat.le_of_ble_eq_true rfl) hdg rfl (kk _ rfl)
theorem gX6_13 (X : Cx (kM b D A cy ad) cc RX6 nL fr lo) (hdg : decode cc pc = .ok (.getfield 13, 3)) (kk : Gd (kM b D A cy ad) nL (pc + 3) lv (.ref (ad 2) :: rest) g) : Gd (kM b D A cy ad) nL pc lv (.ref (ad 0) :: rest) g := gd_get X inX6 0 rfl rfl 3 (by decide) q_457 rfl hdg kk
theorem gX6_16 (X : Cx (kM b D A cy ad) cc RX6 nL fr lo) (hdg : decode cc pc = .ok (.getfield 16, 3)) (kk : Gd (kM b D A cy ad) nL (pc + 3) lv (.ref (ad 3) :: rest) g) : Gd (kM b D A cy ad) nL pc lv (.ref (ad 0) :: rest) g := gd_get X inX6 0 rfl rfl 4 (by decide) q_458 rfl hdg kk
theorem gX6_20 (X : Cx (kM b D A cy ad) cc RX6 nL fr lo) (hdg : decode cc pc = .ok (.getfield 20, 3)) (kk : Gd (kM b D A cy ad) nL (pc + 3) lv (.ref (ad 4) :: rest) g) : Gd (kM b D A cy ad) nL pc lv (.ref (ad 0) :: rest) g := gd_get X inX6 0 rfl rfl 5 (by decide) q_459 rfl hdg kk
theorem gX6_58 (X : Cx (kM b D A cy ad) cc RX6 nL fr lo) (hdg : decode cc pc = .ok (.getfield 58, 3)) (kk : Gd (kM b D A cy ad) nL (pc + 3) lv (.int (g 0 2) :: rest) g) : Gd (kM b D A cy ad) nL pc lv (.ref (ad 0) :: rest) g := gd_get X inX6 0 rfl rfl 6 (by decide) q_460 rfl hdg kk
theorem pX6_58 (X : Cx (kM b D A cy ad) cc RX6 nL fr lo) {v : Int32} (hn : narrow .boolean (.int v) = .int v) (hf : fits .boolean (.int v) = true) (hdg : decode cc pc = .ok (.putfield 58, 3)) (kk : ∀ g1 : SG, g1 = sput g 0 2 v → Gd (kM b D A cy ad) nL (pc + 3) lv rest g1) : Gd (kM b D A cy ad) nL pc lv (.int v :: .ref (ad 0) :: rest) g := gd_put X inX6 tyX6 tyX6_ok nmX6 0 rfl rfl 6 (by decide) q_460 rfl (ty := .boolean) (by decide +kernel) hn hf (Nat.le_of_ble_eq_true rfl) hdg rfl (kk _ rfl)
theorem gX6_76 (X : Cx (kM b D A cy ad) cc RX6 nL fr lo) (hdg : decode cc pc = .ok (.getfield 76, 3)) (kk : Gd (kM b D A cy ad) nL (pc + 3) lv (.int (g 0 3) :: rest) g) : Gd (kM b D A cy ad) nL pc lv (.ref (ad 0) :: rest) g := gd_get X inX6 0 rfl rfl 7 (by decide) q_461 rfl hdg kk
theorem pX6_76 (X : Cx (kM b D A cy ad) cc RX6 nL fr lo) {v : Int32} (hdg : decode cc pc = .ok (.putfield 76, 3)) (kk : ∀ g1 : SG, g1 = sput g 0 3 v → Gd (kM b D A cy ad) nL (pc + 3) lv rest g1) : Gd (kM b D A cy ad) nL pc lv (.int v :: .ref (ad 0) :: rest) g := gd_put X inX6 tyX6 tyX6_ok nmX6 0 rfl rfl 7 (by decide) q_461 rfl (ty := .int) (by decide +kernel) rfl rfl (Nat.le_of_ble_eq_true rfl) hdg rfl (kk _ rfl)
theorem gX6_79 (X : Cx (kM b D A cy ad) cc RX6 nL fr lo) (hdg : decode cc pc = .ok (.getfield 79, 3)) (kk : Gd (kM b D A cy ad) nL (pc + 3) lv (.int (g 0 4) :: rest) g) : Gd (kM b D A cy ad) nL pc lv (.ref (ad 0) :: rest) g := gd_get X inX6 0 rfl rfl 8 (by decide) q_462 rfl hdg kk
theorem pX6_79 (X : Cx (kM b D A cy ad) cc RX6 nL fr lo) {v : Int32} (hdg : decode cc pc = .ok (.putfield 79, 3)) (kk : ∀ g1 : SG, g1 = sput g 0 4 v → Gd (kM b D A cy ad) nL (pc + 3) lv rest g1) : Gd (kM b D A cy ad) nL pc lv (.int v :: .ref (ad 0) :: rest) g := gd_put X inX6 tyX6 tyX6_ok nmX6 0 rfl rfl 8 (by decide) q_462 rfl (ty := .int) (by decide +kernel) rfl rfl (Nat.le_of_ble_eq_true rfl) hdg rfl (kk _ rfl)
theorem gX6_23 (X : Cx (kM b D A cy ad) cc RX6 nL fr lo) (hdg : decode cc pc = .ok (.getfield 23, 3)) (kk : Gd (kM b D A cy ad) nL (pc + 3) lv (.ref (ad 5) :: rest) g) : Gd (kM b D A cy ad) nL pc lv (.ref (ad 0) :: rest) g := gd_get X inX6 0 rfl rfl 9 (by decide) q_463 rfl hdg kk
theorem gX6_26 (X : Cx (kM b D A cy ad) cc RX6 nL fr lo) (hdg : decode cc pc = .ok (.getfield 26, 3)) (kk : Gd (kM b D A cy ad) nL (pc + 3) lv (.ref (ad 6) :: rest) g) : Gd (kM b D A cy ad) nL pc lv (.ref (ad 0) :: rest) g := gd_get X inX6 0 rfl rfl 10 (by decide) q_464 rfl hdg kk
theorem gX6_29 (X : Cx (kM b D A cy ad) cc RX6 nL fr lo) (hdg : decode cc pc = .ok (.getfield 29, 3)) (kk : Gd (kM b D A cy ad) nL (pc + 3) lv (.ref (ad 7) :: rest) g) : Gd (kM b D A cy ad) nL pc lv (.ref (ad 0) :: rest) g := gd_get X inX6 0 rfl rfl 11 (by decide) q_465 rfl hdg kk
theorem gX6_97 (X : Cx (kM b D A cy ad) cc RX6 nL fr lo) (hdg : decode cc pc = .ok (.getfield 97, 3)) (kk : Gd (kM b D A cy ad) nL (pc + 3) lv (.int (g 0 5) :: rest) g) : Gd (kM b D A cy ad) nL pc lv (.ref (ad 0) :: rest) g := gd_get X inX6 0 rfl rfl 12 (by decide) q_466 rfl hdg kk
theorem pX6_97 (X : Cx (kM b D A cy ad) cc RX6 nL fr lo) {v : Int32} (hdg : decode cc pc = .ok (.putfield 97, 3)) (kk : ∀ g1 : SG, g1 = sput g 0 5 v → Gd (kM b D A cy ad) nL (pc + 3) lv rest g1) : Gd (kM b D A cy ad) nL pc lv (.int v :: .ref (ad 0) :: rest) g := gd_put X inX6 tyX6 tyX6_ok nmX6 0 rfl rfl 12 (by decide) q_466 rfl (ty := .int) (by decide +kernel) rfl rfl (Nat.le_of_ble_eq_true rfl) hdg rfl (kk _ rfl)
theorem gX6_103 (X : Cx (kM b D A cy ad) cc RX6 nL fr lo) (hdg : decode cc pc = .ok (.getfield 103, 3)) (kk : Gd (kM b D A cy ad) nL (pc + 3) lv (.int (g 0 6) :: rest) g) : Gd (kM b D A cy ad) nL pc lv (.ref (ad 0) :: rest) g := gd_get X inX6 0 rfl rfl 13 (by decide) q_467 rfl hdg kk
theorem pX6_103 (X : Cx (kM b D A cy ad) cc RX6 nL fr lo) {v : Int32} (hdg : decode cc pc = .ok (.putfield 103, 3)) (kk : ∀ g1 : SG, g1 = sput g 0 6 v → Gd (kM b D A cy ad) nL (pc + 3) lv rest g1) : Gd (kM b D A cy ad) nL pc lv (.int v :: .ref (ad 0) :: rest) g := gd_put X inX6 tyX6 tyX6_ok nmX6 0 rfl rfl 13 (by decide) q_467 rfl (ty := .int) (by decide +kernel) rfl rfl (Nat.le_of_ble_eq_true rfl) hdg rfl (kk _ rfl)
theorem al_C4 {own : String} (X : Cx (kC b D A cy ad) cc own nL fr lo) {i : Int32} (hin : vp_in i 2) (j : Nat) (hj : i.toNatClampNeg = j) (hdg : decode cc pc = .ok (.baload, 1)) (kk : Gd (kC b D A cy ad) nL (pc + 1) lv (.int (g 1 j) :: rest) g) : Gd (kC b D A cy ad) nL pc lv (.int i :: .ref (ad 4) :: rest) g := gd_zald X 4 2 rfl rfl hin hdg (by rw [hj]; exact kk)
theorem as_C4 {own : String} (X : Cx (kC b D A cy ad) cc own nL fr lo) {i x : Int32} (hin : vp_in i 2) (j : Nat) (hj : i.toNatClampNeg = j) (hdg : decode cc pc = .ok (.bastore, 1)) (kk : ∀ g1 : SG, g1 = sput g 1 j (vp_nar .boolean x) → Gd (kC b D A cy ad) nL (pc + 1) lv rest g1) : Gd (kC b D A cy ad) nL pc lv (.int x :: .int i :: .ref (ad 4) :: rest) g := gd_zast X 4 2 rfl rfl hin hdg (by rw [upd_sput, hj]; rfl) (kk _ rfl)
theorem al_C6 {own : String} (X : Cx (kC b D A cy ad) cc own nL fr lo) {i : Int32} (hin : vp_in i 20) (j : Nat) (hj : i.toNatClampNeg = j) (hdg : decode cc pc = .ok (.iaload, 1)) (kk : Gd (kC b D A cy ad) nL (pc + 1) lv (.int (g 2 j) :: rest) g) : Gd (kC b D A cy ad) nL pc lv (.int i :: .ref (ad 6) :: rest) g := gd_iald X 6 1 rfl rfl hin hdg (by rw [hj]; exact kk)
theorem as_C6 {own : String} (X : Cx (kC b D A cy ad) cc own nL fr lo) {i x : Int32} (hin : vp_in i 20) (j : Nat) (hj : i.toNatClampNeg = j) (hdg : decode cc pc = .ok (.iastore, 1)) (kk : ∀ g1 : SG, g1 = sput g 2 j x → Gd (kC b D A cy ad) nL (pc + 1) lv rest g1) : Gd (kC b D A cy ad) nL pc lv (.int x :: .int i :: .ref (ad 6) :: rest) g := gd_iast X 6 1 rfl rfl hin hdg (by rw [upd_sput, hj]; rfl) (kk _ rfl)
theorem al_C7 {own : String} (X : Cx (kC b D A cy ad) cc own nL fr lo) {i : Int32} (hin : vp_in i 6) (j : Nat) (hj : i.toNatClampNeg = j) (hdg : decode cc pc = .ok (.iaload, 1)) (kk : Gd (kC b D A cy ad) nL (pc + 1) lv (.int (g 3 j) :: rest) g) : Gd (kC b D A cy ad) nL pc lv (.int i :: .ref (ad 7) :: rest) g := gd_iald X 7 1 rfl rfl hin hdg (by rw [hj]; exact kk)
theorem as_C7 {own : String} (X : Cx (kC b D A cy ad) cc own nL fr lo) {i x : Int32} (hin : vp_in i 6) (j : Nat) (hj : i.toNatClampNeg = j) (hdg : decode cc pc = .ok (.iastore, 1)) (kk : ∀ g1 : SG, g1 = sput g 3 j x → Gd (kC b D A cy ad) nL (pc + 1) lv rest g1) : Gd (kC b D A cy ad) nL pc lv (.int x :: .int i :: .ref (ad 7) :: rest) g := gd_iast X 7 1 rfl rfl hin hdg (by rw [upd_sput, hj]; rfl) (kk _ rfl)
theorem al_C8 {own : String} (X : Cx (kC b D A cy ad) cc own nL fr lo) {i : Int32} (hin : vp_in i 6) (j : Nat) (hj : i.toNatClampNeg = j) (hdg : decode cc pc = .ok (.iaload, 1)) (kk : Gd (kC b D A cy ad) nL (pc + 1) lv (.int (g 4 j) :: rest) g) : Gd (kC b D A cy ad) nL pc lv (.int i :: .ref (ad 8) :: rest) g := gd_iald X 8 1 rfl rfl hin hdg (by rw [hj]; exact kk)
theorem as_C8 {own : String} (X : Cx (kC b D A cy ad) cc own nL fr lo) {i x : Int32} (hin : vp_in i 6) (j : Nat) (hj : i.toNatClampNeg = j) (hdg : decode cc pc = .ok (.iastore, 1)) (kk : ∀ g1 : SG, g1 = sput g 4 j x → Gd (kC b D A cy ad) nL (pc + 1) lv rest g1) : Gd (kC b D A cy ad) nL pc lv (.int x :: .int i :: .ref (ad 8) :: rest) g := gd_iast X 8 1 rfl rfl hin hdg (by rw [upd_sput, hj]; rfl) (kk _ rfl)
theorem al_C10 {own : String} (X : Cx (kC b D A cy ad) cc own nL fr lo) {i : Int32} (hin : vp_in i 60) (j : Nat) (hj : i.toNatClampNeg = j) (hdg : decode cc pc = .ok (.iaload, 1)) (kk : Gd (kC b D A cy ad) nL (pc + 1) lv (.int (g 6 j) :: rest) g) : Gd (kC b D A cy ad) nL pc lv (.int i :: .ref (ad 10) :: rest) g := gd_iald X 10 1 rfl rfl hin hdg (by rw [hj]; exact kk)
theorem as_C10 {own : String} (X : Cx (kC b D A cy ad) cc own nL fr lo) {i x : Int32} (hin : vp_in i 60) (j : Nat) (hj : i.toNatClampNeg = j) (hdg : decode cc pc = .ok (.iastore, 1)) (kk : ∀ g1 : SG, g1 = sput g 6 j x → Gd (kC b D A cy ad) nL (pc + 1) lv rest g1) : Gd (kC b D A cy ad) nL pc lv (.int x :: .int i :: .ref (ad 10) :: rest) g := gd_iast X 10 1 rfl rfl hin hdg (by rw [upd_sput, hj]; rfl) (kk _ rfl)
theorem al_M1 {own : String} (X : Cx (kM b D A cy ad) cc own nL fr lo) {i : Int32} (hin : vp_in i 126) (j : Nat) (hj : i.toNatClampNeg = j) (hdg : decode cc pc = .ok (.iaload, 1)) (kk : Gd (kM b D A cy ad) nL (pc + 1) lv (.int (g 1 j) :: rest) g) : Gd (kM b D A cy ad) nL pc lv (.int i :: .ref (ad 1) :: rest) g := gd_iald X 1 1 rfl rfl hin hdg (by rw [hj]; exact kk)
theorem as_M1 {own : String} (X : Cx (kM b D A cy ad) cc own nL fr lo) {i x : Int32} (hin : vp_in i 126) (j : Nat) (hj : i.toNatClampNeg = j) (hdg : decode cc pc = .ok (.iastore, 1)) (kk : ∀ g1 : SG, g1 = sput g 1 j x → Gd (kM b D A cy ad) nL (pc + 1) lv rest g1) : Gd (kM b D A cy ad) nL pc lv (.int x :: .int i :: .ref (ad 1) :: rest) g := gd_iast X 1 1 rfl rfl hin hdg (by rw [upd_sput, hj]; rfl) (kk _ rfl)
theorem al_M2 {own : String} (X : Cx (kM b D A cy ad) cc own nL fr lo) {i : Int32} (hin : vp_in i 1260) (j : Nat) (hj : i.toNatClampNeg = j) (hdg : decode cc pc = .ok (.iaload, 1)) (kk : Gd (kM b D A cy ad) nL (pc + 1) lv (.int (g 2 j) :: rest) g) : Gd (kM b D A cy ad) nL pc lv (.int i :: .ref (ad 2) :: rest) g := gd_iald X 2 1 rfl rfl hin hdg (by rw [hj]; exact kk)
theorem as_M2 {own : String} (X : Cx (kM b D A cy ad) cc own nL fr lo) {i x : Int32} (hin : vp_in i 1260) (j : Nat) (hj : i.toNatClampNeg = j) (hdg : decode cc pc = .ok (.iastore, 1)) (kk : ∀ g1 : SG, g1 = sput g 2 j x → Gd (kM b D A cy ad) nL (pc + 1) lv rest g1) : Gd (kM b D A cy ad) nL pc lv (.int x :: .int i :: .ref (ad 2) :: rest) g := gd_iast X 2 1 rfl rfl hin hdg (by rw [upd_sput, hj]; rfl) (kk _ rfl)
theorem al_M3 {own : String} (X : Cx (kM b D A cy ad) cc own nL fr lo) {i : Int32} (hin : vp_in i 2) (j : Nat) (hj : i.toNatClampNeg = j) (hdg : decode cc pc = .ok (.baload, 1)) (kk : Gd (kM b D A cy ad) nL (pc + 1) lv (.int (g 3 j) :: rest) g) : Gd (kM b D A cy ad) nL pc lv (.int i :: .ref (ad 3) :: rest) g := gd_zald X 3 2 rfl rfl hin hdg (by rw [hj]; exact kk)
theorem as_M3 {own : String} (X : Cx (kM b D A cy ad) cc own nL fr lo) {i x : Int32} (hin : vp_in i 2) (j : Nat) (hj : i.toNatClampNeg = j) (hdg : decode cc pc = .ok (.bastore, 1)) (kk : ∀ g1 : SG, g1 = sput g 3 j (vp_nar .boolean x) → Gd (kM b D A cy ad) nL (pc + 1) lv rest g1) : Gd (kM b D A cy ad) nL pc lv (.int x :: .int i :: .ref (ad 3) :: rest) g := gd_zast X 3 2 rfl rfl hin hdg (by rw [upd_sput, hj]; rfl) (kk _ rfl)
theorem al_M4 {own : String} (X : Cx (kM b D A cy ad) cc own nL fr lo) {i : Int32} (hin : vp_in i 252) (j : Nat) (hj : i.toNatClampNeg = j) (hdg : decode cc pc = .ok (.iaload, 1)) (kk : Gd (kM b D A cy ad) nL (pc + 1) lv (.int (g 4 j) :: rest) g) : Gd (kM b D A cy ad) nL pc lv (.int i :: .ref (ad 4) :: rest) g := gd_iald X 4 1 rfl rfl hin hdg (by rw [hj]; exact kk)
theorem as_M4 {own : String} (X : Cx (kM b D A cy ad) cc own nL fr lo) {i x : Int32} (hin : vp_in i 252) (j : Nat) (hj : i.toNatClampNeg = j) (hdg : decode cc pc = .ok (.iastore, 1)) (kk : ∀ g1 : SG, g1 = sput g 4 j x → Gd (kM b D A cy ad) nL (pc + 1) lv rest g1) : Gd (kM b D A cy ad) nL pc lv (.int x :: .int i :: .ref (ad 4) :: rest) g := gd_iast X 4 1 rfl rfl hin hdg (by rw [upd_sput, hj]; rfl) (kk _ rfl)
theorem al_M5 {own : String} (X : Cx (kM b D A cy ad) cc own nL fr lo) {i : Int32} (hin : vp_in i 6) (j : Nat) (hj : i.toNatClampNeg = j) (hdg : decode cc pc = .ok (.iaload, 1)) (kk : Gd (kM b D A cy ad) nL (pc + 1) lv (.int (g 5 j) :: rest) g) : Gd (kM b D A cy ad) nL pc lv (.int i :: .ref (ad 5) :: rest) g := gd_iald X 5 1 rfl rfl hin hdg (by rw [hj]; exact kk)
theorem as_M5 {own : String} (X : Cx (kM b D A cy ad) cc own nL fr lo) {i x : Int32} (hin : vp_in i 6) (j : Nat) (hj : i.toNatClampNeg = j) (hdg : decode cc pc = .ok (.iastore, 1)) (kk : ∀ g1 : SG, g1 = sput g 5 j x → Gd (kM b D A cy ad) nL (pc + 1) lv rest g1) : Gd (kM b D A cy ad) nL pc lv (.int x :: .int i :: .ref (ad 5) :: rest) g := gd_iast X 5 1 rfl rfl hin hdg (by rw [upd_sput, hj]; rfl) (kk _ rfl)
theorem al_M6 {own : String} (X : Cx (kM b D A cy ad) cc own nL fr lo) {i : Int32} (hin : vp_in i 6) (j : Nat) (hj : i.toNatClampNeg = j) (hdg : decode cc pc = .ok (.iaload, 1)) (kk : Gd (kM b D A cy ad) nL (pc + 1) lv (.int (g 6 j) :: rest) g) : Gd (kM b D A cy ad) nL pc lv (.int i :: .ref (ad 6) :: rest) g := gd_iald X 6 1 rfl rfl hin hdg (by rw [hj]; exact kk)
theorem as_M6 {own : String} (X : Cx (kM b D A cy ad) cc own nL fr lo) {i x : Int32} (hin : vp_in i 6) (j : Nat) (hj : i.toNatClampNeg = j) (hdg : decode cc pc = .ok (.iastore, 1)) (kk : ∀ g1 : SG, g1 = sput g 6 j x → Gd (kM b D A cy ad) nL (pc + 1) lv rest g1) : Gd (kM b D A cy ad) nL pc lv (.int x :: .int i :: .ref (ad 6) :: rest) g := gd_iast X 6 1 rfl rfl hin hdg (by rw [upd_sput, hj]; rfl) (kk _ rfl)
theorem al_M7 {own : String} (X : Cx (kM b D A cy ad) cc own nL fr lo) {i : Int32} (hin : vp_in i 11520) (j : Nat) (hj : i.toNatClampNeg = j) (hdg : decode cc pc = .ok (.iaload, 1)) (kk : Gd (kM b D A cy ad) nL (pc + 1) lv (.int (g 7 j) :: rest) g) : Gd (kM b D A cy ad) nL pc lv (.int i :: .ref (ad 7) :: rest) g := gd_iald X 7 1 rfl rfl hin hdg (by rw [hj]; exact kk)
theorem as_M7 {own : String} (X : Cx (kM b D A cy ad) cc own nL fr lo) {i x : Int32} (hin : vp_in i 11520) (j : Nat) (hj : i.toNatClampNeg = j) (hdg : decode cc pc = .ok (.iastore, 1)) (kk : ∀ g1 : SG, g1 = sput g 7 j x → Gd (kM b D A cy ad) nL (pc + 1) lv rest g1) : Gd (kM b D A cy ad) nL pc lv (.int x :: .int i :: .ref (ad 7) :: rest) g := gd_iast X 7 1 rfl rfl hin hdg (by rw [upd_sput, hj]; rfl) (kk _ rfl)
theorem vi_0_126 : vp_in 0 126 := by unfold vp_in; decide +kernel
theorem vi_0_11520 : vp_in 0 11520 := by unfold vp_in; decide +kernel
theorem vi_1_126 : vp_in 1 126 := by unfold vp_in; decide +kernel
theorem vi_2_126 : vp_in 2 126 := by unfold vp_in; decide +kernel
theorem vi_3_126 : vp_in 3 126 := by unfold vp_in; decide +kernel
theorem vi_4_126 : vp_in 4 126 := by unfold vp_in; decide +kernel
theorem vi_5_126 : vp_in 5 126 := by unfold vp_in; decide +kernel
theorem vi_6_126 : vp_in 6 126 := by unfold vp_in; decide +kernel
theorem tc_0 : (0 : Int32).toNatClampNeg = 0 := by decide +kernel
theorem tc_1 : (1 : Int32).toNatClampNeg = 1 := by decide +kernel
theorem tc_2 : (2 : Int32).toNatClampNeg = 2 := by decide +kernel
theorem tc_3 : (3 : Int32).toNatClampNeg = 3 := by decide +kernel
theorem tc_4 : (4 : Int32).toNatClampNeg = 4 := by decide +kernel
theorem tc_5 : (5 : Int32).toNatClampNeg = 5 := by decide +kernel
theorem tc_6 : (6 : Int32).toNatClampNeg = 6 := by decide +kernel
theorem al_held (h : Nat) (hh : h < 13) {own : String} (X : Cx (kC b D A cy ad) cc own nL fr lo) {i : Int32} (hin : vp_in i 120) (hdg : decode cc pc = .ok (.baload, 1)) (kk : Gd (kC b D A cy ad) nL (pc + 1) lv (.int (g (40 + h) i.toNatClampNeg) :: rest) g) : Gd (kC b D A cy ad) nL pc lv (.int i :: .ref (ad (20 + 2 * h)) :: rest) g := gd_bald X (20 + 2 * h) 0 (wc_harr cy ad g h hh) rfl hin hdg kk
theorem as_held (h : Nat) (hh : h < 13) {own : String} (X : Cx (kC b D A cy ad) cc own nL fr lo) {i x : Int32} (hin : vp_in i 120) (hdg : decode cc pc = .ok (.bastore, 1)) (kk : ∀ g1 : SG, g1 = sput g (40 + h) i.toNatClampNeg (vp_nar .byte x) → Gd (kC b D A cy ad) nL (pc + 1) lv rest g1) : Gd (kC b D A cy ad) nL pc lv (.int x :: .int i :: .ref (ad (20 + 2 * h)) :: rest) g := gd_bast X (20 + 2 * h) 0 (wc_harr cy ad g h hh) rfl hin hdg (wc_harrset cy ad g _ _ h hh) (kk _ rfl)
theorem vp_clt {i : Int32} {n : Nat} (h : vp_in i n) : i.toNatClampNeg < n := Nat.not_le.mp fun q => h (Or.inr q)
theorem aa_states {own : String} (X : Cx (kC b D A cy ad) cc own nL fr lo) {i : Int32} (hin : vp_in i 10) (hdg : decode cc pc = .ok (.aaload, 1)) (kk : Gd (kC b D A cy ad) nL (pc + 1) lv (.ref (ad (19 + 2 * (i.toNatClampNeg + 1))) :: rest) g) : Gd (kC b D A cy ad) nL pc lv (.int i :: .ref (ad 2) :: rest) g := gd_aald X 2 3 rfl rfl rfl hin rfl hdg kk
theorem aa_images {own : String} (X : Cx (kC b D A cy ad) cc own nL fr lo) {i : Int32} (hin : vp_in i 2) (hdg : decode cc pc = .ok (.aaload, 1)) (kk : Gd (kC b D A cy ad) nL (pc + 1) lv (.ref (ad (19 + 2 * (i.toNatClampNeg + 11))) :: rest) g) : Gd (kC b D A cy ad) nL pc lv (.int i :: .ref (ad 3) :: rest) g := gd_aald X 3 3 rfl rfl rfl hin rfl hdg kk
theorem aa_rows {own : String} (X : Cx (kC b D A cy ad) cc own nL fr lo) {i : Int32} (hin : vp_in i 7) (hdg : decode cc pc = .ok (.aaload, 1)) (kk : Gd (kC b D A cy ad) nL (pc + 1) lv (.ref (ad (12 + i.toNatClampNeg)) :: rest) g) : Gd (kC b D A cy ad) nL pc lv (.int i :: .ref (ad 11) :: rest) g := gd_aald X 11 4 rfl rfl rfl hin rfl hdg kk
theorem al_row (h : Nat) (hh : h < 7) {own : String} (X : Cx (kC b D A cy ad) cc own nL fr lo) {i : Int32} (hin : vp_in i 192) (hdg : decode cc pc = .ok (.iaload, 1)) (kk : Gd (kC b D A cy ad) nL (pc + 1) lv (.int (g (7 + h) i.toNatClampNeg) :: rest) g) : Gd (kC b D A cy ad) nL pc lv (.int i :: .ref (ad (12 + h)) :: rest) g := gd_iald X (12 + h) 1 (wc_row cy ad g h hh) rfl hin hdg kk
theorem as_row (h : Nat) (hh : h < 7) {own : String} (X : Cx (kC b D A cy ad) cc own nL fr lo) {i x : Int32} (hin : vp_in i 192) (hdg : decode cc pc = .ok (.iastore, 1)) (kk : ∀ g1 : SG, g1 = sput g (7 + h) i.toNatClampNeg x → Gd (kC b D A cy ad) nL (pc + 1) lv rest g1) : Gd (kC b D A cy ad) nL pc lv (.int x :: .int i :: .ref (ad (12 + h)) :: rest) g := gd_iast X (12 + h) 1 (wc_row cy ad g h hh) rfl hin hdg (wc_rowset cy ad g _ _ h hh) (kk _ rfl)
end GW
section GX
variable {Sg : Type} {κ : KX Sg} {cc : ByteArray} {own : String} {nL fr lo pc : Nat} {lv lv' : List (Nat × Value)} {rest : List Value} {sg : Sg}
theorem gd_topi {x : Int32} (k : ∀ y : Int32, y = x → Gd κ nL pc lv (.int y :: rest) sg) : Gd κ nL pc lv (.int x :: rest) sg := k x rfl
theorem gd_jrem (X : Cx κ cc own nL fr lo) {x y : Int32} (hdg : decode cc pc = .ok (.irem, 1)) (hne : ¬ y = 0) (k : Gd κ nL (pc + 1) lv (.int (jrem x y) :: rest) sg) : Gd κ nL pc lv (.int y :: .int x :: rest) sg := gd_irem X hdg hne k
theorem gd_jshl (X : Cx κ cc own nL fr lo) {x y : Int32} (hdg : decode cc pc = .ok (.ishl, 1)) (k : Gd κ nL (pc + 1) lv (.int (jshl x y) :: rest) sg) : Gd κ nL pc lv (.int y :: .int x :: rest) sg := gd_ishl X hdg k
theorem gd_jshr (X : Cx κ cc own nL fr lo) {x y : Int32} (hdg : decode cc pc = .ok (.ishr, 1)) (k : Gd κ nL (pc + 1) lv (.int (jshr x y) :: rest) sg) : Gd κ nL pc lv (.int y :: .int x :: rest) sg := gd_ishr X hdg k
theorem gd_jushr (X : Cx κ cc own nL fr lo) {x y : Int32} (hdg : decode cc pc = .ok (.iushr, 1)) (k : Gd κ nL (pc + 1) lv (.int (jushr x y) :: rest) sg) : Gd κ nL pc lv (.int y :: .int x :: rest) sg := gd_iushr X hdg rfl k
theorem gd_incn (X : Cx κ cc own nL fr lo) {i : Nat} (j : Nat) {n : Int} {x : Int32} (c : Int32) (hdg : decode cc pc = .ok (.iinc i n, 3)) (hj : lv[j]? = some (i, .int x)) (hc : Int32.ofInt n = c) (hn : i < nL) (f : Int32 → List (Nat × Value)) (hl : ∀ v, (i, Value.int v) :: lv.filter (fun q => !(q.1 == i) && !(q.1 + 1 == i && q.2.category == 2)) = f v) (k : ∀ v : Int32, v = x + c → Gd κ nL (pc + 3) (f v) rest sg) : Gd κ nL pc lv rest sg := gd_iinc X hdg hj (by rw [hc]) hn (hl _) (k _ rfl)
end GX
