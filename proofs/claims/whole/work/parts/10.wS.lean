def B_J6_bitCount_0f7a4_0 (post : Int32 → Prop) (x0 : Int32) : Prop :=
  ∀ z1 : Int32, z1 = (x0 - ((jushr x0 1) &&& 1431655765)) → ∀ z2 : Int32, z2 = ((z1 &&& 858993459) + ((jushr z1 2) &&& 858993459)) → ∀ z3 : Int32, z3 = ((z2 + (jushr z2 4)) &&& 252645135) → ∀ z4 : Int32, z4 = (z3 + (jushr z3 8)) → ∀ z5 : Int32, z5 = (z4 + (jushr z4 16)) → post (z5 &&& 63)
set_option maxRecDepth 100000 in
theorem w_J6_bitCount_0f7a4_0 {Sg : Type} {κ : KX Sg} {sg : Sg} {post : Int32 → Prop} (X : Cx κ cJ6_bitCount_0f7a4 RJ6 1 0 0) (hR : Rx κ (some .int) (oR sg post)) (x0 : Int32) (h : B_J6_bitCount_0f7a4_0 post x0) : Gd κ 1 0 [(0, .int x0)] [] sg := by
  unfold B_J6_bitCount_0f7a4_0 at h
  refine gd_iload_n X dJ6_bitCount_0f7a4_0 0 rfl ?_
  refine gd_iload_n X dJ6_bitCount_0f7a4_1 0 rfl ?_
  refine gd_iconst (v := 1) X dJ6_bitCount_0f7a4_2 (by decide) ?_
  refine gd_jushr X dJ6_bitCount_0f7a4_3 ?_
  refine gd_ldcw (v := 1431655765) X q_286 dJ6_bitCount_0f7a4_4 ?_
  refine gd_iand X dJ6_bitCount_0f7a4_7 ?_
  refine gd_isub X dJ6_bitCount_0f7a4_8 ?_
  refine gd_topi (fun z1 ez1 => ?_)
  have h := h z1 ez1
  refine gd_istore_n (lv' := [(0, .int z1)]) X dJ6_bitCount_0f7a4_9 (by decide) rfl ?_
  refine gd_iload_n X dJ6_bitCount_0f7a4_10 0 rfl ?_
  refine gd_ldcw (v := 858993459) X q_287 dJ6_bitCount_0f7a4_11 ?_
  refine gd_iand X dJ6_bitCount_0f7a4_14 ?_
  refine gd_iload_n X dJ6_bitCount_0f7a4_15 0 rfl ?_
  refine gd_iconst (v := 2) X dJ6_bitCount_0f7a4_16 (by decide) ?_
  refine gd_jushr X dJ6_bitCount_0f7a4_17 ?_
  refine gd_ldcw (v := 858993459) X q_287 dJ6_bitCount_0f7a4_18 ?_
  refine gd_iand X dJ6_bitCount_0f7a4_21 ?_
  refine gd_iadd X dJ6_bitCount_0f7a4_22 ?_
  refine gd_topi (fun z2 ez2 => ?_)
  have h := h z2 ez2
  refine gd_istore_n (lv' := [(0, .int z2)]) X dJ6_bitCount_0f7a4_23 (by decide) rfl ?_
  refine gd_iload_n X dJ6_bitCount_0f7a4_24 0 rfl ?_
  refine gd_iload_n X dJ6_bitCount_0f7a4_25 0 rfl ?_
  refine gd_iconst (v := 4) X dJ6_bitCount_0f7a4_26 (by decide) ?_
  refine gd_jushr X dJ6_bitCount_0f7a4_27 ?_
  refine gd_iadd X dJ6_bitCount_0f7a4_28 ?_
  refine gd_ldcw (v := 252645135) X q_288 dJ6_bitCount_0f7a4_29 ?_
  refine gd_iand X dJ6_bitCount_0f7a4_32 ?_
  refine gd_topi (fun z3 ez3 => ?_)
  have h := h z3 ez3
  refine gd_istore_n (lv' := [(0, .int z3)]) X dJ6_bitCount_0f7a4_33 (by decide) rfl ?_
  refine gd_iload_n X dJ6_bitCount_0f7a4_34 0 rfl ?_
  refine gd_iload_n X dJ6_bitCount_0f7a4_35 0 rfl ?_
  refine gd_bipush (v := 8) X dJ6_bitCount_0f7a4_36 (by decide) ?_
  refine gd_jushr X dJ6_bitCount_0f7a4_38 ?_
  refine gd_iadd X dJ6_bitCount_0f7a4_39 ?_
  refine gd_topi (fun z4 ez4 => ?_)
  have h := h z4 ez4
  refine gd_istore_n (lv' := [(0, .int z4)]) X dJ6_bitCount_0f7a4_40 (by decide) rfl ?_
  refine gd_iload_n X dJ6_bitCount_0f7a4_41 0 rfl ?_
  refine gd_iload_n X dJ6_bitCount_0f7a4_42 0 rfl ?_
  refine gd_bipush (v := 16) X dJ6_bitCount_0f7a4_43 (by decide) ?_
  refine gd_jushr X dJ6_bitCount_0f7a4_45 ?_
  refine gd_iadd X dJ6_bitCount_0f7a4_46 ?_
  refine gd_topi (fun z5 ez5 => ?_)
  have h := h z5 ez5
  refine gd_istore_n (lv' := [(0, .int z5)]) X dJ6_bitCount_0f7a4_47 (by decide) rfl ?_
  refine gd_iload_n X dJ6_bitCount_0f7a4_48 0 rfl ?_
  refine gd_bipush (v := 63) X dJ6_bitCount_0f7a4_49 (by decide) ?_
  refine gd_iand X dJ6_bitCount_0f7a4_51 ?_
  exact gd_iret X hR dJ6_bitCount_0f7a4_52 ⟨_, rfl, rfl, h⟩
set_option maxRecDepth 100000 in
theorem c_J6_bitCount_0f7a4 {Sg : Type} (l : Launch) (E : EX Sg) (sg : Sg) (post : Int32 → Prop) (x0 : Int32) (hB : B_J6_bitCount_0f7a4_0 post x0) : Mt l E yJ6_bitCount_0f7a4 cJ6_bitCount_0f7a4 1 (some .int) 0 0 [.int x0] sg (oR sg post) := mt_of (plainFor_of_name (by decide)) (Nat.le_of_ble_eq_true rfl) (fun b X hR => w_J6_bitCount_0f7a4_0 X hR x0 hB)
def B_X0_byFigures_24 (post : Int32 → Prop) (x0 x1 x2 x3 y0 : Int32) : Prop :=
  post y0
set_option maxRecDepth 100000 in
theorem w_X0_byFigures_24 {Sg : Type} {κ : KX Sg} {sg : Sg} {post : Int32 → Prop} (X : Cx κ cX0_byFigures RX0 4 0 0) (hR : Rx κ (some .int) (oR sg post)) (x0 x1 x2 x3 y0 : Int32) (h : B_X0_byFigures_24 post x0 x1 x2 x3 y0) : Gd κ 4 24 [(0, .int x0), (1, .int x1), (2, .int x2), (3, .int x3)] [.int y0] sg := by
  unfold B_X0_byFigures_24 at h
  exact gd_iret X hR dX0_byFigures_24 ⟨_, rfl, rfl, h⟩
def B_X0_byFigures_18 (post : Int32 → Prop) (x0 x1 x2 x3 : Int32) : Prop :=
  B_X0_byFigures_24 post x0 x1 x2 x3 (-9)
set_option maxRecDepth 100000 in
theorem w_X0_byFigures_18 {Sg : Type} {κ : KX Sg} {sg : Sg} {post : Int32 → Prop} (X : Cx κ cX0_byFigures RX0 4 0 0) (hR : Rx κ (some .int) (oR sg post)) (x0 x1 x2 x3 : Int32) (h : B_X0_byFigures_18 post x0 x1 x2 x3) : Gd κ 4 18 [(0, .int x0), (1, .int x1), (2, .int x2), (3, .int x3)] [] sg := by
  unfold B_X0_byFigures_18 at h
  refine gd_bipush (v := (-9)) X dX0_byFigures_18 (by decide) ?_
  refine gd_goto (tgt := 24) X dX0_byFigures_20 (by decide) ?_
  exact w_X0_byFigures_24 X hR _ _ _ _ _ h
def B_X0_byFigures_0 (post : Int32 → Prop) (x0 x1 x2 : Int32) : Prop :=
  ∀ z1 : Int32, z1 = ((10 * x0) + x1) → ((9 < x1) → B_X0_byFigures_18 post x0 x1 x2 z1) ∧ ((¬ 9 < x1) → ((z1 < x2) → B_X0_byFigures_24 post x0 x1 x2 z1 z1) ∧ ((¬ z1 < x2) → B_X0_byFigures_18 post x0 x1 x2 z1))
set_option maxRecDepth 100000 in
theorem w_X0_byFigures_0 {Sg : Type} {κ : KX Sg} {sg : Sg} {post : Int32 → Prop} (X : Cx κ cX0_byFigures RX0 4 0 0) (hR : Rx κ (some .int) (oR sg post)) (x0 x1 x2 : Int32) (h : B_X0_byFigures_0 post x0 x1 x2) : Gd κ 4 0 [(0, .int x0), (1, .int x1), (2, .int x2)] [] sg := by
  unfold B_X0_byFigures_0 at h
  refine gd_bipush (v := 10) X dX0_byFigures_0 (by decide) ?_
  refine gd_iload_n X dX0_byFigures_2 0 rfl ?_
  refine gd_imul X dX0_byFigures_3 ?_
  refine gd_iload_n X dX0_byFigures_4 1 rfl ?_
  refine gd_iadd X dX0_byFigures_5 ?_
  refine gd_topi (fun z1 ez1 => ?_)
  have h := h z1 ez1
  refine gd_istore_n (lv' := [(3, .int z1), (0, .int x0), (1, .int x1), (2, .int x2)]) X dX0_byFigures_6 (by decide) rfl ?_
  refine gd_iload_n X dX0_byFigures_7 2 rfl ?_
  refine gd_bipush (v := 9) X dX0_byFigures_8 (by decide) ?_
  refine gd_icmp_gt (tgt := 18) X dX0_byFigures_10 (by decide) (fun c2 => ?_) (fun c2 => ?_)
  · have h := h.1 c2
    refine gd_sub [1, 2, 3, 0] rfl ?_
    exact w_X0_byFigures_18 X hR _ _ _ _ h
  · have h := h.2 c2
    refine gd_iload_n X dX0_byFigures_13 0 rfl ?_
    refine gd_iload_n X dX0_byFigures_14 3 rfl ?_
    refine gd_icmp_lt (tgt := 23) X dX0_byFigures_15 (by decide) (fun c3 => ?_) (fun c3 => ?_)
    · have h := h.1 c3
      refine gd_iload_n X dX0_byFigures_23 0 rfl ?_
      refine gd_sub [1, 2, 3, 0] rfl ?_
      exact w_X0_byFigures_24 X hR _ _ _ _ _ h
    · have h := h.2 c3
      refine gd_sub [1, 2, 3, 0] rfl ?_
      exact w_X0_byFigures_18 X hR _ _ _ _ h
set_option maxRecDepth 100000 in
theorem c_X0_byFigures {Sg : Type} (l : Launch) (E : EX Sg) (sg : Sg) (post : Int32 → Prop) (x0 x1 x2 : Int32) (hB : B_X0_byFigures_0 post x0 x1 x2) : Mt l E yX0_byFigures cX0_byFigures 4 (some .int) 0 0 [.int x0, .int x1, .int x2] sg (oR sg post) := mt_of (plainFor_of_name (by decide)) (Nat.le_of_ble_eq_true rfl) (fun b X hR => w_X0_byFigures_0 X hR x0 x1 x2 hB)
def B_X3_minuteOf_0 (post : Int32 → Prop) (x0 : Int32) : Prop :=
  post (x0 / 8)
set_option maxRecDepth 100000 in
theorem w_X3_minuteOf_0 {Sg : Type} {κ : KX Sg} {sg : Sg} {post : Int32 → Prop} (X : Cx κ cX3_minuteOf RX3 1 0 0) (hR : Rx κ (some .int) (oR sg post)) (x0 : Int32) (h : B_X3_minuteOf_0 post x0) : Gd κ 1 0 [(0, .int x0)] [] sg := by
  unfold B_X3_minuteOf_0 at h
  refine gd_iload_n X dX3_minuteOf_0 0 rfl ?_
  refine gd_bipush (v := 8) X dX3_minuteOf_1 (by decide) ?_
  refine gd_idiv X dX3_minuteOf_3 (by decide) ?_
  exact gd_iret X hR dX3_minuteOf_4 ⟨_, rfl, rfl, h⟩
set_option maxRecDepth 100000 in
theorem c_X3_minuteOf {Sg : Type} (l : Launch) (E : EX Sg) (sg : Sg) (post : Int32 → Prop) (x0 : Int32) (hB : B_X3_minuteOf_0 post x0) : Mt l E yX3_minuteOf cX3_minuteOf 1 (some .int) 0 0 [.int x0] sg (oR sg post) := mt_of (plainFor_of_name (by decide)) (Nat.le_of_ble_eq_true rfl) (fun b X hR => w_X3_minuteOf_0 X hR x0 hB)
def B_X3_shiftOf_0 (post : Int32 → Prop) (x0 : Int32) : Prop :=
  post ((jshr x0 1) &&& 1)
set_option maxRecDepth 100000 in
theorem w_X3_shiftOf_0 {Sg : Type} {κ : KX Sg} {sg : Sg} {post : Int32 → Prop} (X : Cx κ cX3_shiftOf RX3 1 0 0) (hR : Rx κ (some .int) (oR sg post)) (x0 : Int32) (h : B_X3_shiftOf_0 post x0) : Gd κ 1 0 [(0, .int x0)] [] sg := by
  unfold B_X3_shiftOf_0 at h
  refine gd_iload_n X dX3_shiftOf_0 0 rfl ?_
  refine gd_iconst (v := 1) X dX3_shiftOf_1 (by decide) ?_
  refine gd_jshr X dX3_shiftOf_2 ?_
  refine gd_iconst (v := 1) X dX3_shiftOf_3 (by decide) ?_
  refine gd_iand X dX3_shiftOf_4 ?_
  exact gd_iret X hR dX3_shiftOf_5 ⟨_, rfl, rfl, h⟩
set_option maxRecDepth 100000 in
theorem c_X3_shiftOf {Sg : Type} (l : Launch) (E : EX Sg) (sg : Sg) (post : Int32 → Prop) (x0 : Int32) (hB : B_X3_shiftOf_0 post x0) : Mt l E yX3_shiftOf cX3_shiftOf 1 (some .int) 0 0 [.int x0] sg (oR sg post) := mt_of (plainFor_of_name (by decide)) (Nat.le_of_ble_eq_true rfl) (fun b X hR => w_X3_shiftOf_0 X hR x0 hB)
def B_X3_leapOf_0 (post : Int32 → Prop) (x0 : Int32) : Prop :=
  post (x0 &&& 1)
set_option maxRecDepth 100000 in
theorem w_X3_leapOf_0 {Sg : Type} {κ : KX Sg} {sg : Sg} {post : Int32 → Prop} (X : Cx κ cX3_leapOf RX3 1 0 0) (hR : Rx κ (some .int) (oR sg post)) (x0 : Int32) (h : B_X3_leapOf_0 post x0) : Gd κ 1 0 [(0, .int x0)] [] sg := by
  unfold B_X3_leapOf_0 at h
  refine gd_iload_n X dX3_leapOf_0 0 rfl ?_
  refine gd_iconst (v := 1) X dX3_leapOf_1 (by decide) ?_
  refine gd_iand X dX3_leapOf_2 ?_
  exact gd_iret X hR dX3_leapOf_3 ⟨_, rfl, rfl, h⟩
set_option maxRecDepth 100000 in
theorem c_X3_leapOf {Sg : Type} (l : Launch) (E : EX Sg) (sg : Sg) (post : Int32 → Prop) (x0 : Int32) (hB : B_X3_leapOf_0 post x0) : Mt l E yX3_leapOf cX3_leapOf 1 (some .int) 0 0 [.int x0] sg (oR sg post) := mt_of (plainFor_of_name (by decide)) (Nat.le_of_ble_eq_true rfl) (fun b X hR => w_X3_leapOf_0 X hR x0 hB)
def B_X3_summerOf_0 (post : Int32 → Prop) (x0 : Int32) : Prop :=
  post ((jshr x0 2) &&& 1)
set_option maxRecDepth 100000 in
theorem w_X3_summerOf_0 {Sg : Type} {κ : KX Sg} {sg : Sg} {post : Int32 → Prop} (X : Cx κ cX3_summerOf RX3 1 0 0) (hR : Rx κ (some .int) (oR sg post)) (x0 : Int32) (h : B_X3_summerOf_0 post x0) : Gd κ 1 0 [(0, .int x0)] [] sg := by
  unfold B_X3_summerOf_0 at h
  refine gd_iload_n X dX3_summerOf_0 0 rfl ?_
  refine gd_iconst (v := 2) X dX3_summerOf_1 (by decide) ?_
  refine gd_jshr X dX3_summerOf_2 ?_
  refine gd_iconst (v := 1) X dX3_summerOf_3 (by decide) ?_
  refine gd_iand X dX3_summerOf_4 ?_
  exact gd_iret X hR dX3_summerOf_5 ⟨_, rfl, rfl, h⟩
set_option maxRecDepth 100000 in
theorem c_X3_summerOf {Sg : Type} (l : Launch) (E : EX Sg) (sg : Sg) (post : Int32 → Prop) (x0 : Int32) (hB : B_X3_summerOf_0 post x0) : Mt l E yX3_summerOf cX3_summerOf 1 (some .int) 0 0 [.int x0] sg (oR sg post) := mt_of (plainFor_of_name (by decide)) (Nat.le_of_ble_eq_true rfl) (fun b X hR => w_X3_summerOf_0 X hR x0 hB)
def B_X3_bitsOf_0 (post : Int32 → Prop) (x0 : Int32) : Prop :=
  B_X3_minuteOf_0 (fun r1 => ∀ z2 : Int32, z2 = (jrem r1 60) → B_X3_minuteOf_0 (fun r3 => ∀ z4 : Int32, z4 = (r3 / 60) → B_X3_shiftOf_0 (fun r5 => B_X3_leapOf_0 (fun r6 => B_X3_summerOf_0 (fun r7 => ∀ z8 : Int32, z8 = (((jshl r5 1) ||| (jshl r6 2)) ||| (jshl r7 3)) → ∀ z9 : Int32, z9 = ((jshl (jrem z2 10) 4) ||| (jshl (z2 / 10) 8)) → ∀ z10 : Int32, z10 = ((jshl (jrem z4 10) 12) ||| (jshl (z4 / 10) 16)) → B_J6_bitCount_0f7a4_0 (fun r11 => ∀ z12 : Int32, z12 = (jshl (jrem r11 2) 11) → B_J6_bitCount_0f7a4_0 (fun r13 => ∀ z14 : Int32, z14 = (jshl (jrem r13 2) 18) → post ((((z8 ||| z9) ||| z12) ||| z10) ||| z14)) z10) z9) x0) x0) x0) x0) x0
set_option maxRecDepth 100000 in
theorem w_X3_bitsOf_0 {Sg : Type} {κ : KX Sg} {sg : Sg} {post : Int32 → Prop} (X : Cx κ cX3_bitsOf RX3 8 1 20) (hR : Rx κ (some .int) (oR sg post)) (x0 : Int32) (h : B_X3_bitsOf_0 post x0) : Gd κ 8 0 [(0, .int x0)] [] sg := by
  unfold B_X3_bitsOf_0 at h
  refine gd_iload_n X dX3_bitsOf_0 0 rfl ?_
  refine gd_callSr (As := [.int x0]) (rest := []) X lk_X3_15 (c_X3_minuteOf _ _ _ _ _ h) ⟨by decide, by decide⟩ rfl rfl (Nat.le_of_ble_eq_true rfl) dX3_bitsOf_1 (fun r1 h => ?_)
  refine gd_bipush (v := 60) X dX3_bitsOf_4 (by decide) ?_
  refine gd_jrem X dX3_bitsOf_6 (by decide) ?_
  refine gd_topi (fun z2 ez2 => ?_)
  have h := h z2 ez2
  refine gd_istore_n (lv' := [(1, .int z2), (0, .int x0)]) X dX3_bitsOf_7 (by decide) rfl ?_
  refine gd_iload_n X dX3_bitsOf_8 1 rfl ?_
  refine gd_callSr (As := [.int x0]) (rest := []) X lk_X3_15 (c_X3_minuteOf _ _ _ _ _ h) ⟨by decide, by decide⟩ rfl rfl (Nat.le_of_ble_eq_true rfl) dX3_bitsOf_9 (fun r3 h => ?_)
  refine gd_bipush (v := 60) X dX3_bitsOf_12 (by decide) ?_
  refine gd_idiv X dX3_bitsOf_14 (by decide) ?_
  refine gd_topi (fun z4 ez4 => ?_)
  have h := h z4 ez4
  refine gd_istore_n (lv' := [(2, .int z4), (1, .int z2), (0, .int x0)]) X dX3_bitsOf_15 (by decide) rfl ?_
  refine gd_iload_n X dX3_bitsOf_16 2 rfl ?_
  refine gd_callSr (As := [.int x0]) (rest := []) X lk_X3_22 (c_X3_shiftOf _ _ _ _ _ h) ⟨by decide, by decide⟩ rfl rfl (Nat.le_of_ble_eq_true rfl) dX3_bitsOf_17 (fun r5 h => ?_)
  refine gd_iconst (v := 1) X dX3_bitsOf_20 (by decide) ?_
  refine gd_jshl X dX3_bitsOf_21 ?_
  refine gd_iload_n X dX3_bitsOf_22 2 rfl ?_
  refine gd_callSr (As := [.int x0]) (rest := [.int ((jshl r5 1))]) X lk_X3_25 (c_X3_leapOf _ _ _ _ _ h) ⟨by decide, by decide⟩ rfl rfl (Nat.le_of_ble_eq_true rfl) dX3_bitsOf_23 (fun r6 h => ?_)
  refine gd_iconst (v := 2) X dX3_bitsOf_26 (by decide) ?_
  refine gd_jshl X dX3_bitsOf_27 ?_
  refine gd_ior X dX3_bitsOf_28 ?_
  refine gd_iload_n X dX3_bitsOf_29 2 rfl ?_
  refine gd_callSr (As := [.int x0]) (rest := [.int (((jshl r5 1) ||| (jshl r6 2)))]) X lk_X3_19 (c_X3_summerOf _ _ _ _ _ h) ⟨by decide, by decide⟩ rfl rfl (Nat.le_of_ble_eq_true rfl) dX3_bitsOf_30 (fun r7 h => ?_)
  refine gd_iconst (v := 3) X dX3_bitsOf_33 (by decide) ?_
  refine gd_jshl X dX3_bitsOf_34 ?_
  refine gd_ior X dX3_bitsOf_35 ?_
  refine gd_topi (fun z8 ez8 => ?_)
  have h := h z8 ez8
  refine gd_istore_n (lv' := [(3, .int z8), (2, .int z4), (1, .int z2), (0, .int x0)]) X dX3_bitsOf_36 (by decide) rfl ?_
  refine gd_iload_n X dX3_bitsOf_37 2 rfl ?_
  refine gd_bipush (v := 10) X dX3_bitsOf_38 (by decide) ?_
  refine gd_jrem X dX3_bitsOf_40 (by decide) ?_
  refine gd_iconst (v := 4) X dX3_bitsOf_41 (by decide) ?_
  refine gd_jshl X dX3_bitsOf_42 ?_
  refine gd_iload_n X dX3_bitsOf_43 2 rfl ?_
  refine gd_bipush (v := 10) X dX3_bitsOf_44 (by decide) ?_
  refine gd_idiv X dX3_bitsOf_46 (by decide) ?_
  refine gd_bipush (v := 8) X dX3_bitsOf_47 (by decide) ?_
  refine gd_jshl X dX3_bitsOf_49 ?_
  refine gd_ior X dX3_bitsOf_50 ?_
  refine gd_topi (fun z9 ez9 => ?_)
  have h := h z9 ez9
  refine gd_istore (lv' := [(4, .int z9), (3, .int z8), (2, .int z4), (1, .int z2), (0, .int x0)]) X dX3_bitsOf_51 (by decide) rfl ?_
  refine gd_iload_n X dX3_bitsOf_53 2 rfl ?_
  refine gd_bipush (v := 10) X dX3_bitsOf_54 (by decide) ?_
  refine gd_jrem X dX3_bitsOf_56 (by decide) ?_
  refine gd_bipush (v := 12) X dX3_bitsOf_57 (by decide) ?_
  refine gd_jshl X dX3_bitsOf_59 ?_
  refine gd_iload_n X dX3_bitsOf_60 2 rfl ?_
  refine gd_bipush (v := 10) X dX3_bitsOf_61 (by decide) ?_
  refine gd_idiv X dX3_bitsOf_63 (by decide) ?_
  refine gd_bipush (v := 16) X dX3_bitsOf_64 (by decide) ?_
  refine gd_jshl X dX3_bitsOf_66 ?_
  refine gd_ior X dX3_bitsOf_67 ?_
  refine gd_topi (fun z10 ez10 => ?_)
  have h := h z10 ez10
  refine gd_istore (lv' := [(5, .int z10), (4, .int z9), (3, .int z8), (2, .int z4), (1, .int z2), (0, .int x0)]) X dX3_bitsOf_68 (by decide) rfl ?_
  refine gd_iload X dX3_bitsOf_70 1 rfl ?_
  refine gd_callSr (As := [.int z9]) (rest := []) X lk_X3_35 (c_J6_bitCount_0f7a4 _ _ _ _ _ h) ⟨by decide, by decide⟩ rfl rfl (Nat.le_of_ble_eq_true rfl) dX3_bitsOf_72 (fun r11 h => ?_)
  refine gd_iconst (v := 2) X dX3_bitsOf_75 (by decide) ?_
  refine gd_jrem X dX3_bitsOf_76 (by decide) ?_
  refine gd_bipush (v := 11) X dX3_bitsOf_77 (by decide) ?_
  refine gd_jshl X dX3_bitsOf_79 ?_
  refine gd_topi (fun z12 ez12 => ?_)
  have h := h z12 ez12
  refine gd_istore (lv' := [(6, .int z12), (5, .int z10), (4, .int z9), (3, .int z8), (2, .int z4), (1, .int z2), (0, .int x0)]) X dX3_bitsOf_80 (by decide) rfl ?_
  refine gd_iload X dX3_bitsOf_82 1 rfl ?_
  refine gd_callSr (As := [.int z10]) (rest := []) X lk_X3_35 (c_J6_bitCount_0f7a4 _ _ _ _ _ h) ⟨by decide, by decide⟩ rfl rfl (Nat.le_of_ble_eq_true rfl) dX3_bitsOf_84 (fun r13 h => ?_)
  refine gd_iconst (v := 2) X dX3_bitsOf_87 (by decide) ?_
  refine gd_jrem X dX3_bitsOf_88 (by decide) ?_
  refine gd_bipush (v := 18) X dX3_bitsOf_89 (by decide) ?_
  refine gd_jshl X dX3_bitsOf_91 ?_
  refine gd_topi (fun z14 ez14 => ?_)
  have h := h z14 ez14
  refine gd_istore (lv' := [(7, .int z14), (6, .int z12), (5, .int z10), (4, .int z9), (3, .int z8), (2, .int z4), (1, .int z2), (0, .int x0)]) X dX3_bitsOf_92 (by decide) rfl ?_
  refine gd_iload_n X dX3_bitsOf_94 4 rfl ?_
  refine gd_iload X dX3_bitsOf_95 3 rfl ?_
  refine gd_ior X dX3_bitsOf_97 ?_
  refine gd_iload X dX3_bitsOf_98 1 rfl ?_
  refine gd_ior X dX3_bitsOf_100 ?_
  refine gd_iload X dX3_bitsOf_101 2 rfl ?_
  refine gd_ior X dX3_bitsOf_103 ?_
  refine gd_iload X dX3_bitsOf_104 0 rfl ?_
  refine gd_ior X dX3_bitsOf_106 ?_
  exact gd_iret X hR dX3_bitsOf_107 ⟨_, rfl, rfl, h⟩
set_option maxRecDepth 100000 in
theorem c_X3_bitsOf {Sg : Type} (l : Launch) (E : EX Sg) (sg : Sg) (post : Int32 → Prop) (x0 : Int32) (hB : B_X3_bitsOf_0 post x0) : Mt l E yX3_bitsOf cX3_bitsOf 8 (some .int) 1 20 [.int x0] sg (oR sg post) := mt_of (plainFor_of_name (by decide)) (Nat.le_of_ble_eq_true rfl) (fun b X hR => w_X3_bitsOf_0 X hR x0 hB)
def B_X3_of_0 (post : Int32 → Prop) (x0 x1 x2 x3 : Int32) : Prop :=
  post ((((8 * x0) + (4 * x1)) + (2 * x2)) + x3)
set_option maxRecDepth 100000 in
theorem w_X3_of_0 {Sg : Type} {κ : KX Sg} {sg : Sg} {post : Int32 → Prop} (X : Cx κ cX3_of RX3 4 0 0) (hR : Rx κ (some .int) (oR sg post)) (x0 x1 x2 x3 : Int32) (h : B_X3_of_0 post x0 x1 x2 x3) : Gd κ 4 0 [(0, .int x0), (1, .int x1), (2, .int x2), (3, .int x3)] [] sg := by
  unfold B_X3_of_0 at h
  refine gd_bipush (v := 8) X dX3_of_0 (by decide) ?_
  refine gd_iload_n X dX3_of_2 0 rfl ?_
  refine gd_imul X dX3_of_3 ?_
  refine gd_iconst (v := 4) X dX3_of_4 (by decide) ?_
  refine gd_iload_n X dX3_of_5 1 rfl ?_
  refine gd_imul X dX3_of_6 ?_
  refine gd_iadd X dX3_of_7 ?_
  refine gd_iconst (v := 2) X dX3_of_8 (by decide) ?_
  refine gd_iload_n X dX3_of_9 2 rfl ?_
  refine gd_imul X dX3_of_10 ?_
  refine gd_iadd X dX3_of_11 ?_
  refine gd_iload_n X dX3_of_12 3 rfl ?_
  refine gd_iadd X dX3_of_13 ?_
  exact gd_iret X hR dX3_of_14 ⟨_, rfl, rfl, h⟩
set_option maxRecDepth 100000 in
theorem c_X3_of {Sg : Type} (l : Launch) (E : EX Sg) (sg : Sg) (post : Int32 → Prop) (x0 x1 x2 x3 : Int32) (hB : B_X3_of_0 post x0 x1 x2 x3) : Mt l E yX3_of cX3_of 4 (some .int) 0 0 [.int x0, .int x1, .int x2, .int x3] sg (oR sg post) := mt_of (plainFor_of_name (by decide)) (Nat.le_of_ble_eq_true rfl) (fun b X hR => w_X3_of_0 X hR x0 x1 x2 x3 hB)
def B_X3_next_65 (post : Int32 → Prop) (x0 x1 x2 : Int32) : Prop :=
  B_X3_of_0 (fun r1 => post r1) x1 x2 0 0
set_option maxRecDepth 100000 in
theorem w_X3_next_65 {Sg : Type} {κ : KX Sg} {sg : Sg} {post : Int32 → Prop} (X : Cx κ cX3_next RX3 3 1 23) (hR : Rx κ (some .int) (oR sg post)) (x0 x1 x2 : Int32) (h : B_X3_next_65 post x0 x1 x2) : Gd κ 3 65 [(0, .int x0), (1, .int x1), (2, .int x2)] [] sg := by
  unfold B_X3_next_65 at h
  refine gd_iload_n X dX3_next_65 1 rfl ?_
  refine gd_iload_n X dX3_next_66 2 rfl ?_
  refine gd_iconst (v := 0) X dX3_next_67 (by decide) ?_
  refine gd_iconst (v := 0) X dX3_next_68 (by decide) ?_
  refine gd_callSr (As := [.int x1, .int x2, .int 0, .int 0]) (rest := []) X lk_X3_28 (c_X3_of _ _ _ _ _ _ _ _ h) ⟨by decide, by decide⟩ rfl rfl (Nat.le_of_ble_eq_true rfl) dX3_next_69 (fun r1 h => ?_)
  exact gd_iret X hR dX3_next_72 ⟨_, rfl, rfl, h⟩
def B_X3_next_59 (post : Int32 → Prop) (x0 x1 x2 y0 y1 : Int32) : Prop :=
  ∀ z1 : Int32, z1 = (jrem (y1 + y0) 1440) → B_X3_next_65 post x0 z1 x2
set_option maxRecDepth 100000 in
theorem w_X3_next_59 {Sg : Type} {κ : KX Sg} {sg : Sg} {post : Int32 → Prop} (X : Cx κ cX3_next RX3 3 1 23) (hR : Rx κ (some .int) (oR sg post)) (x0 x1 x2 y0 y1 : Int32) (h : B_X3_next_59 post x0 x1 x2 y0 y1) : Gd κ 3 59 [(0, .int x0), (1, .int x1), (2, .int x2)] [.int y0, .int y1] sg := by
  unfold B_X3_next_59 at h
  refine gd_iadd X dX3_next_59 ?_
  refine gd_sipush (v := 1440) X dX3_next_60 (by decide) ?_
  refine gd_jrem X dX3_next_63 (by decide) ?_
  refine gd_topi (fun z1 ez1 => ?_)
  have h := h z1 ez1
  refine gd_istore_n (lv' := [(1, .int z1), (0, .int x0), (2, .int x2)]) X dX3_next_64 (by decide) rfl ?_
  refine gd_sub [1, 0, 2] rfl ?_
  exact w_X3_next_65 X hR _ _ _ h
def B_X3_next_0 (post : Int32 → Prop) (x0 : Int32) : Prop :=
  B_X3_minuteOf_0 (fun r1 => ∀ z2 : Int32, z2 = (jrem (r1 + 1) 1440) → (((jrem z2 60) = 0) → B_X3_summerOf_0 (fun r4 => B_X3_shiftOf_0 (fun r5 => ((¬ r5 = 1) → B_X3_next_65 post x0 z2 r4) ∧ ((r5 = 1) → ∀ z7 : Int32, z7 = (1 - r4) → ((¬ z7 = 1) → B_X3_next_59 post x0 z2 z7 1380 z2) ∧ ((z7 = 1) → B_X3_next_59 post x0 z2 z7 60 z2))) x0) x0) ∧ ((¬ (jrem z2 60) = 0) → post ((8 * z2) + (jrem x0 8)))) x0
set_option maxRecDepth 100000 in
theorem w_X3_next_0 {Sg : Type} {κ : KX Sg} {sg : Sg} {post : Int32 → Prop} (X : Cx κ cX3_next RX3 3 1 23) (hR : Rx κ (some .int) (oR sg post)) (x0 : Int32) (h : B_X3_next_0 post x0) : Gd κ 3 0 [(0, .int x0)] [] sg := by
  unfold B_X3_next_0 at h
  refine gd_iload_n X dX3_next_0 0 rfl ?_
  refine gd_callSr (As := [.int x0]) (rest := []) X lk_X3_15 (c_X3_minuteOf _ _ _ _ _ h) ⟨by decide, by decide⟩ rfl rfl (Nat.le_of_ble_eq_true rfl) dX3_next_1 (fun r1 h => ?_)
  refine gd_iconst (v := 1) X dX3_next_4 (by decide) ?_
  refine gd_iadd X dX3_next_5 ?_
  refine gd_sipush (v := 1440) X dX3_next_6 (by decide) ?_
  refine gd_jrem X dX3_next_9 (by decide) ?_
  refine gd_topi (fun z2 ez2 => ?_)
  have h := h z2 ez2
  refine gd_istore_n (lv' := [(1, .int z2), (0, .int x0)]) X dX3_next_10 (by decide) rfl ?_
  refine gd_iload_n X dX3_next_11 0 rfl ?_
  refine gd_bipush (v := 60) X dX3_next_12 (by decide) ?_
  refine gd_jrem X dX3_next_14 (by decide) ?_
  refine gd_if_eq (tgt := 28) X dX3_next_15 (by decide) (fun c3 => ?_) (fun c3 => ?_)
  · have h := h.1 c3
    refine gd_iload_n X dX3_next_28 1 rfl ?_
    refine gd_callSr (As := [.int x0]) (rest := []) X lk_X3_19 (c_X3_summerOf _ _ _ _ _ h) ⟨by decide, by decide⟩ rfl rfl (Nat.le_of_ble_eq_true rfl) dX3_next_29 (fun r4 h => ?_)
    refine gd_istore_n (lv' := [(2, .int r4), (1, .int z2), (0, .int x0)]) X dX3_next_32 (by decide) rfl ?_
    refine gd_iload_n X dX3_next_33 2 rfl ?_
    refine gd_callSr (As := [.int x0]) (rest := []) X lk_X3_22 (c_X3_shiftOf _ _ _ _ _ h) ⟨by decide, by decide⟩ rfl rfl (Nat.le_of_ble_eq_true rfl) dX3_next_34 (fun r5 h => ?_)
    refine gd_iconst (v := 1) X dX3_next_37 (by decide) ?_
    refine gd_icmp_ne (tgt := 65) X dX3_next_38 (by decide) (fun c6 => ?_) (fun c6 => ?_)
    · have h := h.1 c6
      refine gd_sub [2, 1, 0] rfl ?_
      exact w_X3_next_65 X hR _ _ _ h
    · have h := h.2 c6
      refine gd_iconst (v := 1) X dX3_next_41 (by decide) ?_
      refine gd_iload_n X dX3_next_42 0 rfl ?_
      refine gd_isub X dX3_next_43 ?_
      refine gd_topi (fun z7 ez7 => ?_)
      have h := h z7 ez7
      refine gd_istore_n (lv' := [(2, .int z7), (1, .int z2), (0, .int x0)]) X dX3_next_44 (by decide) rfl ?_
      refine gd_iload_n X dX3_next_45 1 rfl ?_
      refine gd_iload_n X dX3_next_46 0 rfl ?_
      refine gd_iconst (v := 1) X dX3_next_47 (by decide) ?_
      refine gd_icmp_ne (tgt := 56) X dX3_next_48 (by decide) (fun c8 => ?_) (fun c8 => ?_)
      · have h := h.1 c8
        refine gd_sipush (v := 1380) X dX3_next_56 (by decide) ?_
        refine gd_sub [2, 1, 0] rfl ?_
        exact w_X3_next_59 X hR _ _ _ _ _ h
      · have h := h.2 c8
        refine gd_bipush (v := 60) X dX3_next_51 (by decide) ?_
        refine gd_goto (tgt := 59) X dX3_next_53 (by decide) ?_
        refine gd_sub [2, 1, 0] rfl ?_
        exact w_X3_next_59 X hR _ _ _ _ _ h
  · have h := h.2 c3
    refine gd_bipush (v := 8) X dX3_next_18 (by decide) ?_
    refine gd_iload_n X dX3_next_20 0 rfl ?_
    refine gd_imul X dX3_next_21 ?_
    refine gd_iload_n X dX3_next_22 1 rfl ?_
    refine gd_bipush (v := 8) X dX3_next_23 (by decide) ?_
    refine gd_jrem X dX3_next_25 (by decide) ?_
    refine gd_iadd X dX3_next_26 ?_
    exact gd_iret X hR dX3_next_27 ⟨_, rfl, rfl, h⟩
set_option maxRecDepth 100000 in
theorem c_X3_next {Sg : Type} (l : Launch) (E : EX Sg) (sg : Sg) (post : Int32 → Prop) (x0 : Int32) (hB : B_X3_next_0 post x0) : Mt l E yX3_next cX3_next 3 (some .int) 1 23 [.int x0] sg (oR sg post) := mt_of (plainFor_of_name (by decide)) (Nat.le_of_ble_eq_true rfl) (fun b X hR => w_X3_next_0 X hR x0 hB)
def B_J9_min_7cf53_10 (post : Int32 → Prop) (x0 x1 y0 : Int32) : Prop :=
  post y0
set_option maxRecDepth 100000 in
theorem w_J9_min_7cf53_10 {Sg : Type} {κ : KX Sg} {sg : Sg} {post : Int32 → Prop} (X : Cx κ cJ9_min_7cf53 RJ9 2 0 0) (hR : Rx κ (some .int) (oR sg post)) (x0 x1 y0 : Int32) (h : B_J9_min_7cf53_10 post x0 x1 y0) : Gd κ 2 10 [(0, .int x0), (1, .int x1)] [.int y0] sg := by
  unfold B_J9_min_7cf53_10 at h
  exact gd_iret X hR dJ9_min_7cf53_10 ⟨_, rfl, rfl, h⟩
def B_J9_min_7cf53_0 (post : Int32 → Prop) (x0 x1 : Int32) : Prop :=
  ((x1 < x0) → B_J9_min_7cf53_10 post x0 x1 x1) ∧ ((¬ x1 < x0) → B_J9_min_7cf53_10 post x0 x1 x0)
set_option maxRecDepth 100000 in
theorem w_J9_min_7cf53_0 {Sg : Type} {κ : KX Sg} {sg : Sg} {post : Int32 → Prop} (X : Cx κ cJ9_min_7cf53 RJ9 2 0 0) (hR : Rx κ (some .int) (oR sg post)) (x0 x1 : Int32) (h : B_J9_min_7cf53_0 post x0 x1) : Gd κ 2 0 [(0, .int x0), (1, .int x1)] [] sg := by
  unfold B_J9_min_7cf53_0 at h
  refine gd_iload_n X dJ9_min_7cf53_0 0 rfl ?_
  refine gd_iload_n X dJ9_min_7cf53_1 1 rfl ?_
  refine gd_icmp_gt (tgt := 9) X dJ9_min_7cf53_2 (by decide) (fun c1 => ?_) (fun c1 => ?_)
  · have h := h.1 c1
    refine gd_iload_n X dJ9_min_7cf53_9 1 rfl ?_
    exact w_J9_min_7cf53_10 X hR _ _ _ h
  · have h := h.2 c1
    refine gd_iload_n X dJ9_min_7cf53_5 0 rfl ?_
    refine gd_goto (tgt := 10) X dJ9_min_7cf53_6 (by decide) ?_
    exact w_J9_min_7cf53_10 X hR _ _ _ h
set_option maxRecDepth 100000 in
theorem c_J9_min_7cf53 {Sg : Type} (l : Launch) (E : EX Sg) (sg : Sg) (post : Int32 → Prop) (x0 x1 : Int32) (hB : B_J9_min_7cf53_0 post x0 x1) : Mt l E yJ9_min_7cf53 cJ9_min_7cf53 2 (some .int) 0 0 [.int x0, .int x1] sg (oR sg post) := mt_of (by decide +kernel) (Nat.le_of_ble_eq_true rfl) (fun b X hR => w_J9_min_7cf53_0 X hR x0 x1 hB)
def B_X3_isSign_14 (post : Int32 → Prop) (x0 y0 : Int32) : Prop :=
  (narrow .boolean (.int y0) = .int y0 ∧ post y0)
set_option maxRecDepth 100000 in
theorem w_X3_isSign_14 {Sg : Type} {κ : KX Sg} {sg : Sg} {post : Int32 → Prop} (X : Cx κ cX3_isSign RX3 1 0 0) (hR : Rx κ (some .boolean) (oR sg post)) (x0 y0 : Int32) (h : B_X3_isSign_14 post x0 y0) : Gd κ 1 14 [(0, .int x0)] [.int y0] sg := by
  unfold B_X3_isSign_14 at h
  exact gd_zret X hR dX3_isSign_14 h.1 ⟨_, rfl, rfl, h.2⟩
def B_X3_isSign_9 (post : Int32 → Prop) (x0 : Int32) : Prop :=
  B_X3_isSign_14 post x0 1
set_option maxRecDepth 100000 in
theorem w_X3_isSign_9 {Sg : Type} {κ : KX Sg} {sg : Sg} {post : Int32 → Prop} (X : Cx κ cX3_isSign RX3 1 0 0) (hR : Rx κ (some .boolean) (oR sg post)) (x0 : Int32) (h : B_X3_isSign_9 post x0) : Gd κ 1 9 [(0, .int x0)] [] sg := by
  unfold B_X3_isSign_9 at h
  refine gd_iconst (v := 1) X dX3_isSign_9 (by decide) ?_
  refine gd_goto (tgt := 14) X dX3_isSign_10 (by decide) ?_
  exact w_X3_isSign_14 X hR _ _ h
def B_X3_isSign_0 (post : Int32 → Prop) (x0 : Int32) : Prop :=
  ((x0 = 0) → B_X3_isSign_9 post x0) ∧ ((¬ x0 = 0) → ((¬ x0 = 1) → B_X3_isSign_14 post x0 0) ∧ ((x0 = 1) → B_X3_isSign_9 post x0))
set_option maxRecDepth 100000 in
theorem w_X3_isSign_0 {Sg : Type} {κ : KX Sg} {sg : Sg} {post : Int32 → Prop} (X : Cx κ cX3_isSign RX3 1 0 0) (hR : Rx κ (some .boolean) (oR sg post)) (x0 : Int32) (h : B_X3_isSign_0 post x0) : Gd κ 1 0 [(0, .int x0)] [] sg := by
  unfold B_X3_isSign_0 at h
  refine gd_iload_n X dX3_isSign_0 0 rfl ?_
  refine gd_if_eq (tgt := 9) X dX3_isSign_1 (by decide) (fun c1 => ?_) (fun c1 => ?_)
  · have h := h.1 c1
    exact w_X3_isSign_9 X hR _ h
  · have h := h.2 c1
    refine gd_iload_n X dX3_isSign_4 0 rfl ?_
    refine gd_iconst (v := 1) X dX3_isSign_5 (by decide) ?_
    refine gd_icmp_ne (tgt := 13) X dX3_isSign_6 (by decide) (fun c2 => ?_) (fun c2 => ?_)
    · have h := h.1 c2
      refine gd_iconst (v := 0) X dX3_isSign_13 (by decide) ?_
      exact w_X3_isSign_14 X hR _ _ h
    · have h := h.2 c2
      exact w_X3_isSign_9 X hR _ h
set_option maxRecDepth 100000 in
theorem c_X3_isSign {Sg : Type} (l : Launch) (E : EX Sg) (sg : Sg) (post : Int32 → Prop) (x0 : Int32) (hB : B_X3_isSign_0 post x0) : Mt l E yX3_isSign cX3_isSign 1 (some .boolean) 0 0 [.int x0] sg (oR sg post) := mt_of (plainFor_of_name (by decide)) (Nat.le_of_ble_eq_true rfl) (fun b X hR => w_X3_isSign_0 X hR x0 hB)
def B_X3_isTime_37 (post : Int32 → Prop) (x0 x1 x2 x3 y0 : Int32) : Prop :=
  (narrow .boolean (.int y0) = .int y0 ∧ post y0)
set_option maxRecDepth 100000 in
theorem w_X3_isTime_37 {Sg : Type} {κ : KX Sg} {sg : Sg} {post : Int32 → Prop} (X : Cx κ cX3_isTime RX3 4 1 20) (hR : Rx κ (some .boolean) (oR sg post)) (x0 x1 x2 x3 y0 : Int32) (h : B_X3_isTime_37 post x0 x1 x2 x3 y0) : Gd κ 4 37 [(0, .int x0), (1, .int x1), (2, .int x2), (3, .int x3)] [.int y0] sg := by
  unfold B_X3_isTime_37 at h
  exact gd_zret X hR dX3_isTime_37 h.1 ⟨_, rfl, rfl, h.2⟩
def B_X3_isTime_36 (post : Int32 → Prop) (x0 x1 x2 x3 : Int32) : Prop :=
  B_X3_isTime_37 post x0 x1 x2 x3 0
set_option maxRecDepth 100000 in
theorem w_X3_isTime_36 {Sg : Type} {κ : KX Sg} {sg : Sg} {post : Int32 → Prop} (X : Cx κ cX3_isTime RX3 4 1 20) (hR : Rx κ (some .boolean) (oR sg post)) (x0 x1 x2 x3 : Int32) (h : B_X3_isTime_36 post x0 x1 x2 x3) : Gd κ 4 36 [(0, .int x0), (1, .int x1), (2, .int x2), (3, .int x3)] [] sg := by
  unfold B_X3_isTime_36 at h
  refine gd_iconst (v := 0) X dX3_isTime_36 (by decide) ?_
  exact w_X3_isTime_37 X hR _ _ _ _ _ h
def B_X3_isTime_0 (post : Int32 → Prop) (x0 x1 x2 x3 : Int32) : Prop :=
  ((x0 < 0) → B_X3_isTime_36 post x0 x1 x2 x3) ∧ ((¬ x0 < 0) → ((1440 ≤ x0) → B_X3_isTime_36 post x0 x1 x2 x3) ∧ ((¬ 1440 ≤ x0) → B_X3_isSign_0 (fun r3 => ((r3 = 0) → B_X3_isTime_36 post x0 x1 x2 x3) ∧ ((¬ r3 = 0) → B_X3_isSign_0 (fun r5 => ((r5 = 0) → B_X3_isTime_36 post x0 x1 x2 x3) ∧ ((¬ r5 = 0) → B_X3_isSign_0 (fun r7 => ((r7 = 0) → B_X3_isTime_36 post x0 x1 x2 x3) ∧ ((¬ r7 = 0) → B_X3_isTime_37 post x0 x1 x2 x3 1)) x3)) x2)) x1))
set_option maxRecDepth 100000 in
theorem w_X3_isTime_0 {Sg : Type} {κ : KX Sg} {sg : Sg} {post : Int32 → Prop} (X : Cx κ cX3_isTime RX3 4 1 20) (hR : Rx κ (some .boolean) (oR sg post)) (x0 x1 x2 x3 : Int32) (h : B_X3_isTime_0 post x0 x1 x2 x3) : Gd κ 4 0 [(0, .int x0), (1, .int x1), (2, .int x2), (3, .int x3)] [] sg := by
  unfold B_X3_isTime_0 at h
  refine gd_iload_n X dX3_isTime_0 0 rfl ?_
  refine gd_if_lt (tgt := 36) X dX3_isTime_1 (by decide) (fun c1 => ?_) (fun c1 => ?_)
  · have h := h.1 c1
    exact w_X3_isTime_36 X hR _ _ _ _ h
  · have h := h.2 c1
    refine gd_iload_n X dX3_isTime_4 0 rfl ?_
    refine gd_sipush (v := 1440) X dX3_isTime_5 (by decide) ?_
    refine gd_icmp_ge (tgt := 36) X dX3_isTime_8 (by decide) (fun c2 => ?_) (fun c2 => ?_)
    · have h := h.1 c2
      exact w_X3_isTime_36 X hR _ _ _ _ h
    · have h := h.2 c2
      refine gd_iload_n X dX3_isTime_11 1 rfl ?_
      refine gd_callSr (As := [.int x1]) (rest := []) X lk_X3_9 (c_X3_isSign _ _ _ _ _ h) ⟨by decide, by decide⟩ rfl rfl (Nat.le_of_ble_eq_true rfl) dX3_isTime_12 (fun r3 h => ?_)
      refine gd_if_eq (tgt := 36) X dX3_isTime_15 (by decide) (fun c4 => ?_) (fun c4 => ?_)
      · have h := h.1 c4
        exact w_X3_isTime_36 X hR _ _ _ _ h
      · have h := h.2 c4
        refine gd_iload_n X dX3_isTime_18 2 rfl ?_
        refine gd_callSr (As := [.int x2]) (rest := []) X lk_X3_9 (c_X3_isSign _ _ _ _ _ h) ⟨by decide, by decide⟩ rfl rfl (Nat.le_of_ble_eq_true rfl) dX3_isTime_19 (fun r5 h => ?_)
        refine gd_if_eq (tgt := 36) X dX3_isTime_22 (by decide) (fun c6 => ?_) (fun c6 => ?_)
        · have h := h.1 c6
          exact w_X3_isTime_36 X hR _ _ _ _ h
        · have h := h.2 c6
          refine gd_iload_n X dX3_isTime_25 3 rfl ?_
          refine gd_callSr (As := [.int x3]) (rest := []) X lk_X3_9 (c_X3_isSign _ _ _ _ _ h) ⟨by decide, by decide⟩ rfl rfl (Nat.le_of_ble_eq_true rfl) dX3_isTime_26 (fun r7 h => ?_)
          refine gd_if_eq (tgt := 36) X dX3_isTime_29 (by decide) (fun c8 => ?_) (fun c8 => ?_)
          · have h := h.1 c8
            exact w_X3_isTime_36 X hR _ _ _ _ h
          · have h := h.2 c8
            refine gd_iconst (v := 1) X dX3_isTime_32 (by decide) ?_
            refine gd_goto (tgt := 37) X dX3_isTime_33 (by decide) ?_
            exact w_X3_isTime_37 X hR _ _ _ _ _ h
set_option maxRecDepth 100000 in
theorem c_X3_isTime {Sg : Type} (l : Launch) (E : EX Sg) (sg : Sg) (post : Int32 → Prop) (x0 x1 x2 x3 : Int32) (hB : B_X3_isTime_0 post x0 x1 x2 x3) : Mt l E yX3_isTime cX3_isTime 4 (some .boolean) 1 20 [.int x0, .int x1, .int x2, .int x3] sg (oR sg post) := mt_of (plainFor_of_name (by decide)) (Nat.le_of_ble_eq_true rfl) (fun b X hR => w_X3_isTime_0 X hR x0 x1 x2 x3 hB)
def B_X3_partOf_0 (post : Int32 → Prop) (x0 x1 : Int32) : Prop :=
  ((x1.toInt < 0 ∨ 2 < x1.toInt) → B_X3_leapOf_0 (fun r1 => post r1) x0) ∧ (x1.toInt = 0 → B_X3_minuteOf_0 (fun r2 => post r2) x0) ∧ (x1.toInt = 1 → B_X3_summerOf_0 (fun r3 => post r3) x0) ∧ (x1.toInt = 2 → B_X3_shiftOf_0 (fun r4 => post r4) x0)
set_option maxRecDepth 100000 in
theorem w_X3_partOf_0 {Sg : Type} {κ : KX Sg} {sg : Sg} {post : Int32 → Prop} (X : Cx κ cX3_partOf RX3 2 1 20) (hR : Rx κ (some .int) (oR sg post)) (x0 x1 : Int32) (h : B_X3_partOf_0 post x0 x1) : Gd κ 2 0 [(0, .int x0), (1, .int x1)] [] sg := by
  unfold B_X3_partOf_0 at h
  refine gd_iload_n X dX3_partOf_0 1 rfl ?_
  refine gd_table (tgt := 43) X dX3_partOf_1 (by decide) [28, 33, 38] (by decide) (by decide) (fun c5 => ?_) ⟨fun c5 => ?_, fun c5 => ?_, fun c5 => ?_, trivial⟩
  · have h := h.1 (by omega)
    refine gd_iload_n X dX3_partOf_43 0 rfl ?_
    refine gd_callSr (As := [.int x0]) (rest := []) X lk_X3_25 (c_X3_leapOf _ _ _ _ _ h) ⟨by decide, by decide⟩ rfl rfl (Nat.le_of_ble_eq_true rfl) dX3_partOf_44 (fun r1 h => ?_)
    exact gd_iret X hR dX3_partOf_47 ⟨_, rfl, rfl, h⟩
  · have h := h.2.1 (by omega)
    refine gd_iload_n X dX3_partOf_28 0 rfl ?_
    refine gd_callSr (As := [.int x0]) (rest := []) X lk_X3_15 (c_X3_minuteOf _ _ _ _ _ h) ⟨by decide, by decide⟩ rfl rfl (Nat.le_of_ble_eq_true rfl) dX3_partOf_29 (fun r2 h => ?_)
    exact gd_iret X hR dX3_partOf_32 ⟨_, rfl, rfl, h⟩
  · have h := h.2.2.1 (by omega)
    refine gd_iload_n X dX3_partOf_33 0 rfl ?_
    refine gd_callSr (As := [.int x0]) (rest := []) X lk_X3_19 (c_X3_summerOf _ _ _ _ _ h) ⟨by decide, by decide⟩ rfl rfl (Nat.le_of_ble_eq_true rfl) dX3_partOf_34 (fun r3 h => ?_)
    exact gd_iret X hR dX3_partOf_37 ⟨_, rfl, rfl, h⟩
  · have h := h.2.2.2 (by omega)
    refine gd_iload_n X dX3_partOf_38 0 rfl ?_
    refine gd_callSr (As := [.int x0]) (rest := []) X lk_X3_22 (c_X3_shiftOf _ _ _ _ _ h) ⟨by decide, by decide⟩ rfl rfl (Nat.le_of_ble_eq_true rfl) dX3_partOf_39 (fun r4 h => ?_)
    exact gd_iret X hR dX3_partOf_42 ⟨_, rfl, rfl, h⟩
set_option maxRecDepth 100000 in
theorem c_X3_partOf {Sg : Type} (l : Launch) (E : EX Sg) (sg : Sg) (post : Int32 → Prop) (x0 x1 : Int32) (hB : B_X3_partOf_0 post x0 x1) : Mt l E yX3_partOf cX3_partOf 2 (some .int) 1 20 [.int x0, .int x1] sg (oR sg post) := mt_of (plainFor_of_name (by decide)) (Nat.le_of_ble_eq_true rfl) (fun b X hR => w_X3_partOf_0 X hR x0 x1 hB)
def B_X3_later_4 (post : Int32 → Prop) (k4 : Int32 → Int32 → Int32 → Int32 → Prop) (x0 x1 x2 x3 : Int32) : Prop :=
  ((x1 ≤ x3) → post x2) ∧ ((¬ x1 ≤ x3) → B_X3_next_0 (fun r2 => ∀ z3 : Int32, z3 = x3 + 1 → k4 x0 x1 r2 z3) x2)
set_option maxRecDepth 100000 in
theorem w_X3_later_4 {Sg : Type} {κ : KX Sg} {sg : Sg} {post : Int32 → Prop} {k4 : Int32 → Int32 → Int32 → Int32 → Prop} (X : Cx κ cX3_later RX3 4 2 45) (hR : Rx κ (some .int) (oR sg post)) (hk4 : ∀ (x0 x1 x2 x3 : Int32), k4 x0 x1 x2 x3 → Gd κ 4 4 [(0, .int x0), (1, .int x1), (2, .int x2), (3, .int x3)] [] sg) (x0 x1 x2 x3 : Int32) (h : B_X3_later_4 post k4 x0 x1 x2 x3) : Gd κ 4 4 [(0, .int x0), (1, .int x1), (2, .int x2), (3, .int x3)] [] sg := by
  unfold B_X3_later_4 at h
  refine gd_iload_n X dX3_later_4 3 rfl ?_
  refine gd_iload_n X dX3_later_5 1 rfl ?_
  refine gd_icmp_ge (tgt := 20) X dX3_later_6 (by decide) (fun c1 => ?_) (fun c1 => ?_)
  · have h := h.1 c1
    refine gd_iload_n X dX3_later_20 2 rfl ?_
    exact gd_iret X hR dX3_later_21 ⟨_, rfl, rfl, h⟩
  · have h := h.2 c1
    refine gd_iload_n X dX3_later_9 2 rfl ?_
    refine gd_callSr (As := [.int x2]) (rest := []) X lk_X3_32 (c_X3_next _ _ _ _ _ h) ⟨by decide, by decide⟩ rfl rfl (Nat.le_of_ble_eq_true rfl) dX3_later_10 (fun r2 h => ?_)
    refine gd_istore_n (lv' := [(2, .int r2), (0, .int x0), (1, .int x1), (3, .int x3)]) X dX3_later_13 (by decide) rfl ?_
    refine gd_incn X 3 1 dX3_later_14 rfl (by decide) (by decide) (fun z3 => [(3, .int z3), (2, .int r2), (0, .int x0), (1, .int x1)]) (fun _ => rfl) (fun z3 ez3 => ?_)
    have h := h z3 ez3
    refine gd_goto (tgt := 4) X dX3_later_17 (by decide) ?_
    refine gd_sub [2, 3, 1, 0] rfl ?_
    exact hk4 _ _ _ _ h
def P_X3_later_4 (post : Int32 → Prop) (n : Nat) : Int32 → Int32 → Int32 → Int32 → Prop := Nat.rec (motive := fun _ => Int32 → Int32 → Int32 → Int32 → Prop) (fun _ _ _ _ => False) (fun _ kk x0 x1 x2 x3 => B_X3_later_4 post kk x0 x1 x2 x3) n
set_option maxRecDepth 100000 in
theorem wL_X3_later_4 {Sg : Type} {κ : KX Sg} {sg : Sg} {post : Int32 → Prop} (X : Cx κ cX3_later RX3 4 2 45) (hR : Rx κ (some .int) (oR sg post)) : ∀ (n : Nat) (x0 x1 x2 x3 : Int32), P_X3_later_4 post n x0 x1 x2 x3 → Gd κ 4 4 [(0, .int x0), (1, .int x1), (2, .int x2), (3, .int x3)] [] sg := by
  intro n
  induction n with
  | zero => intro x0 x1 x2 x3 h; exact h.elim
  | succ n ih => intro x0 x1 x2 x3 h; exact w_X3_later_4 X hR ih x0 x1 x2 x3 h
def B_X3_later_0 (post : Int32 → Prop) (x0 x1 : Int32) : Prop :=
  ∃ n : Nat, P_X3_later_4 post n x0 x1 x0 0
set_option maxRecDepth 100000 in
theorem w_X3_later_0 {Sg : Type} {κ : KX Sg} {sg : Sg} {post : Int32 → Prop} (X : Cx κ cX3_later RX3 4 2 45) (hR : Rx κ (some .int) (oR sg post)) (x0 x1 : Int32) (h : B_X3_later_0 post x0 x1) : Gd κ 4 0 [(0, .int x0), (1, .int x1)] [] sg := by
  unfold B_X3_later_0 at h
  refine gd_iload_n X dX3_later_0 0 rfl ?_
  refine gd_istore_n (lv' := [(2, .int x0), (0, .int x0), (1, .int x1)]) X dX3_later_1 (by decide) rfl ?_
  refine gd_iconst (v := 0) X dX3_later_2 (by decide) ?_
  refine gd_istore_n (lv' := [(3, .int 0), (2, .int x0), (0, .int x0), (1, .int x1)]) X dX3_later_3 (by decide) rfl ?_
  refine gd_sub [2, 3, 1, 0] rfl ?_
  obtain ⟨n, h⟩ := h
  exact wL_X3_later_4 X hR n _ _ _ _ h
set_option maxRecDepth 100000 in
theorem c_X3_later {Sg : Type} (l : Launch) (E : EX Sg) (sg : Sg) (post : Int32 → Prop) (x0 x1 : Int32) (hB : B_X3_later_0 post x0 x1) : Mt l E yX3_later cX3_later 4 (some .int) 2 45 [.int x0, .int x1] sg (oR sg post) := mt_of (plainFor_of_name (by decide)) (Nat.le_of_ble_eq_true rfl) (fun b X hR => w_X3_later_0 X hR x0 x1 hB)
def B_X4_timeAt_0 (post : Int32 → Prop) (x0 x1 : Int32) : Prop :=
  post ((8 * ((60 * (x0 / 8)) + x1)) + (jrem x0 8))
set_option maxRecDepth 100000 in
theorem w_X4_timeAt_0 {Sg : Type} {κ : KX Sg} {sg : Sg} {post : Int32 → Prop} (X : Cx κ cX4_timeAt RX4 2 0 0) (hR : Rx κ (some .int) (oR sg post)) (x0 x1 : Int32) (h : B_X4_timeAt_0 post x0 x1) : Gd κ 2 0 [(0, .int x0), (1, .int x1)] [] sg := by
  unfold B_X4_timeAt_0 at h
  refine gd_bipush (v := 8) X dX4_timeAt_0 (by decide) ?_
  refine gd_bipush (v := 60) X dX4_timeAt_2 (by decide) ?_
  refine gd_iload_n X dX4_timeAt_4 0 rfl ?_
  refine gd_bipush (v := 8) X dX4_timeAt_5 (by decide) ?_
  refine gd_idiv X dX4_timeAt_7 (by decide) ?_
  refine gd_imul X dX4_timeAt_8 ?_
  refine gd_iload_n X dX4_timeAt_9 1 rfl ?_
  refine gd_iadd X dX4_timeAt_10 ?_
  refine gd_imul X dX4_timeAt_11 ?_
  refine gd_iload_n X dX4_timeAt_12 0 rfl ?_
  refine gd_bipush (v := 8) X dX4_timeAt_13 (by decide) ?_
  refine gd_jrem X dX4_timeAt_15 (by decide) ?_
  refine gd_iadd X dX4_timeAt_16 ?_
  exact gd_iret X hR dX4_timeAt_17 ⟨_, rfl, rfl, h⟩
set_option maxRecDepth 100000 in
theorem c_X4_timeAt {Sg : Type} (l : Launch) (E : EX Sg) (sg : Sg) (post : Int32 → Prop) (x0 x1 : Int32) (hB : B_X4_timeAt_0 post x0 x1) : Mt l E yX4_timeAt cX4_timeAt 2 (some .int) 0 0 [.int x0, .int x1] sg (oR sg post) := mt_of (plainFor_of_name (by decide)) (Nat.le_of_ble_eq_true rfl) (fun b X hR => w_X4_timeAt_0 X hR x0 x1 hB)
def B_X5_symbolOfLength_37 (post : Int32 → Prop) (x0 y0 : Int32) : Prop :=
  post y0
set_option maxRecDepth 100000 in
theorem w_X5_symbolOfLength_37 {Sg : Type} {κ : KX Sg} {sg : Sg} {post : Int32 → Prop} (X : Cx κ cX5_symbolOfLength RX5 1 0 0) (hR : Rx κ (some .int) (oR sg post)) (x0 y0 : Int32) (h : B_X5_symbolOfLength_37 post x0 y0) : Gd κ 1 37 [(0, .int x0)] [.int y0] sg := by
  unfold B_X5_symbolOfLength_37 at h
  exact gd_iret X hR dX5_symbolOfLength_37 ⟨_, rfl, rfl, h⟩
def B_X5_symbolOfLength_36 (post : Int32 → Prop) (x0 : Int32) : Prop :=
  B_X5_symbolOfLength_37 post x0 2
set_option maxRecDepth 100000 in
theorem w_X5_symbolOfLength_36 {Sg : Type} {κ : KX Sg} {sg : Sg} {post : Int32 → Prop} (X : Cx κ cX5_symbolOfLength RX5 1 0 0) (hR : Rx κ (some .int) (oR sg post)) (x0 : Int32) (h : B_X5_symbolOfLength_36 post x0) : Gd κ 1 36 [(0, .int x0)] [] sg := by
  unfold B_X5_symbolOfLength_36 at h
  refine gd_iconst (v := 2) X dX5_symbolOfLength_36 (by decide) ?_
  exact w_X5_symbolOfLength_37 X hR _ _ h
def B_X5_symbolOfLength_20 (post : Int32 → Prop) (x0 : Int32) : Prop :=
  ((x0 < 18) → B_X5_symbolOfLength_36 post x0) ∧ ((¬ x0 < 18) → ((22 < x0) → B_X5_symbolOfLength_36 post x0) ∧ ((¬ 22 < x0) → B_X5_symbolOfLength_37 post x0 1))
set_option maxRecDepth 100000 in
theorem w_X5_symbolOfLength_20 {Sg : Type} {κ : KX Sg} {sg : Sg} {post : Int32 → Prop} (X : Cx κ cX5_symbolOfLength RX5 1 0 0) (hR : Rx κ (some .int) (oR sg post)) (x0 : Int32) (h : B_X5_symbolOfLength_20 post x0) : Gd κ 1 20 [(0, .int x0)] [] sg := by
  unfold B_X5_symbolOfLength_20 at h
  refine gd_iload_n X dX5_symbolOfLength_20 0 rfl ?_
  refine gd_bipush (v := 18) X dX5_symbolOfLength_21 (by decide) ?_
  refine gd_icmp_lt (tgt := 36) X dX5_symbolOfLength_23 (by decide) (fun c1 => ?_) (fun c1 => ?_)
  · have h := h.1 c1
    exact w_X5_symbolOfLength_36 X hR _ h
  · have h := h.2 c1
    refine gd_iload_n X dX5_symbolOfLength_26 0 rfl ?_
    refine gd_bipush (v := 22) X dX5_symbolOfLength_27 (by decide) ?_
    refine gd_icmp_gt (tgt := 36) X dX5_symbolOfLength_29 (by decide) (fun c2 => ?_) (fun c2 => ?_)
    · have h := h.1 c2
      exact w_X5_symbolOfLength_36 X hR _ h
    · have h := h.2 c2
      refine gd_iconst (v := 1) X dX5_symbolOfLength_32 (by decide) ?_
      refine gd_goto (tgt := 37) X dX5_symbolOfLength_33 (by decide) ?_
      exact w_X5_symbolOfLength_37 X hR _ _ h
def B_X5_symbolOfLength_0 (post : Int32 → Prop) (x0 : Int32) : Prop :=
  ((¬ x0 = 0) → ((x0 < 8) → B_X5_symbolOfLength_20 post x0) ∧ ((¬ x0 < 8) → ((12 < x0) → B_X5_symbolOfLength_20 post x0) ∧ ((¬ 12 < x0) → post 0))) ∧ ((x0 = 0) → post 3)
set_option maxRecDepth 100000 in
theorem w_X5_symbolOfLength_0 {Sg : Type} {κ : KX Sg} {sg : Sg} {post : Int32 → Prop} (X : Cx κ cX5_symbolOfLength RX5 1 0 0) (hR : Rx κ (some .int) (oR sg post)) (x0 : Int32) (h : B_X5_symbolOfLength_0 post x0) : Gd κ 1 0 [(0, .int x0)] [] sg := by
  unfold B_X5_symbolOfLength_0 at h
  refine gd_iload_n X dX5_symbolOfLength_0 0 rfl ?_
  refine gd_if_ne (tgt := 6) X dX5_symbolOfLength_1 (by decide) (fun c1 => ?_) (fun c1 => ?_)
  · have h := h.1 c1
    refine gd_iload_n X dX5_symbolOfLength_6 0 rfl ?_
    refine gd_bipush (v := 8) X dX5_symbolOfLength_7 (by decide) ?_
    refine gd_icmp_lt (tgt := 20) X dX5_symbolOfLength_9 (by decide) (fun c2 => ?_) (fun c2 => ?_)
    · have h := h.1 c2
      exact w_X5_symbolOfLength_20 X hR _ h
    · have h := h.2 c2
      refine gd_iload_n X dX5_symbolOfLength_12 0 rfl ?_
      refine gd_bipush (v := 12) X dX5_symbolOfLength_13 (by decide) ?_
      refine gd_icmp_gt (tgt := 20) X dX5_symbolOfLength_15 (by decide) (fun c3 => ?_) (fun c3 => ?_)
      · have h := h.1 c3
        exact w_X5_symbolOfLength_20 X hR _ h
      · have h := h.2 c3
        refine gd_iconst (v := 0) X dX5_symbolOfLength_18 (by decide) ?_
        exact gd_iret X hR dX5_symbolOfLength_19 ⟨_, rfl, rfl, h⟩
  · have h := h.2 c1
    refine gd_iconst (v := 3) X dX5_symbolOfLength_4 (by decide) ?_
    exact gd_iret X hR dX5_symbolOfLength_5 ⟨_, rfl, rfl, h⟩
set_option maxRecDepth 100000 in
theorem c_X5_symbolOfLength {Sg : Type} (l : Launch) (E : EX Sg) (sg : Sg) (post : Int32 → Prop) (x0 : Int32) (hB : B_X5_symbolOfLength_0 post x0) : Mt l E yX5_symbolOfLength cX5_symbolOfLength 1 (some .int) 0 0 [.int x0] sg (oR sg post) := mt_of (plainFor_of_name (by decide)) (Nat.le_of_ble_eq_true rfl) (fun b X hR => w_X5_symbolOfLength_0 X hR x0 hB)
def B_J9_floorMod_7cf53_18 (post : Int32 → Prop) (x0 x1 x2 : Int32) : Prop :=
  post x2
set_option maxRecDepth 100000 in
theorem w_J9_floorMod_7cf53_18 {Sg : Type} {κ : KX Sg} {sg : Sg} {post : Int32 → Prop} (X : Cx κ cJ9_floorMod_7cf53 RJ9 3 0 0) (hR : Rx κ (some .int) (oR sg post)) (x0 x1 x2 : Int32) (h : B_J9_floorMod_7cf53_18 post x0 x1 x2) : Gd κ 3 18 [(0, .int x0), (1, .int x1), (2, .int x2)] [] sg := by
  unfold B_J9_floorMod_7cf53_18 at h
  refine gd_iload_n X dJ9_floorMod_7cf53_18 2 rfl ?_
  exact gd_iret X hR dJ9_floorMod_7cf53_19 ⟨_, rfl, rfl, h⟩
def B_J9_floorMod_7cf53_0 (post : Int32 → Prop) (x0 x1 : Int32) : Prop :=
  (¬ x1 = 0) ∧ (∀ z1 : Int32, z1 = (jrem x0 x1) → ((0 ≤ (x0 ^^^ x1)) → B_J9_floorMod_7cf53_18 post x0 x1 z1) ∧ ((¬ 0 ≤ (x0 ^^^ x1)) → ((z1 = 0) → B_J9_floorMod_7cf53_18 post x0 x1 z1) ∧ ((¬ z1 = 0) → post (z1 + x1))))
set_option maxRecDepth 100000 in
theorem w_J9_floorMod_7cf53_0 {Sg : Type} {κ : KX Sg} {sg : Sg} {post : Int32 → Prop} (X : Cx κ cJ9_floorMod_7cf53 RJ9 3 0 0) (hR : Rx κ (some .int) (oR sg post)) (x0 x1 : Int32) (h : B_J9_floorMod_7cf53_0 post x0 x1) : Gd κ 3 0 [(0, .int x0), (1, .int x1)] [] sg := by
  unfold B_J9_floorMod_7cf53_0 at h
  refine gd_iload_n X dJ9_floorMod_7cf53_0 0 rfl ?_
  refine gd_iload_n X dJ9_floorMod_7cf53_1 1 rfl ?_
  refine gd_jrem X dJ9_floorMod_7cf53_2 h.1 ?_
  have h := h.2
  refine gd_topi (fun z1 ez1 => ?_)
  have h := h z1 ez1
  refine gd_istore_n (lv' := [(2, .int z1), (0, .int x0), (1, .int x1)]) X dJ9_floorMod_7cf53_3 (by decide) rfl ?_
  refine gd_iload_n X dJ9_floorMod_7cf53_4 1 rfl ?_
  refine gd_iload_n X dJ9_floorMod_7cf53_5 2 rfl ?_
  refine gd_ixor X dJ9_floorMod_7cf53_6 ?_
  refine gd_if_ge (tgt := 18) X dJ9_floorMod_7cf53_7 (by decide) (fun c2 => ?_) (fun c2 => ?_)
  · have h := h.1 c2
    refine gd_sub [1, 2, 0] rfl ?_
    exact w_J9_floorMod_7cf53_18 X hR _ _ _ h
  · have h := h.2 c2
    refine gd_iload_n X dJ9_floorMod_7cf53_10 0 rfl ?_
    refine gd_if_eq (tgt := 18) X dJ9_floorMod_7cf53_11 (by decide) (fun c3 => ?_) (fun c3 => ?_)
    · have h := h.1 c3
      refine gd_sub [1, 2, 0] rfl ?_
      exact w_J9_floorMod_7cf53_18 X hR _ _ _ h
    · have h := h.2 c3
      refine gd_iload_n X dJ9_floorMod_7cf53_14 0 rfl ?_
      refine gd_iload_n X dJ9_floorMod_7cf53_15 2 rfl ?_
      refine gd_iadd X dJ9_floorMod_7cf53_16 ?_
      exact gd_iret X hR dJ9_floorMod_7cf53_17 ⟨_, rfl, rfl, h⟩
set_option maxRecDepth 100000 in
theorem c_J9_floorMod_7cf53 {Sg : Type} (l : Launch) (E : EX Sg) (sg : Sg) (post : Int32 → Prop) (x0 x1 : Int32) (hB : B_J9_floorMod_7cf53_0 post x0 x1) : Mt l E yJ9_floorMod_7cf53 cJ9_floorMod_7cf53 3 (some .int) 0 0 [.int x0, .int x1] sg (oR sg post) := mt_of (by decide +kernel) (Nat.le_of_ble_eq_true rfl) (fun b X hR => w_J9_floorMod_7cf53_0 X hR x0 x1 hB)
def B_X6_in_15 (post : Int32 → Prop) (x0 x1 x2 y0 : Int32) : Prop :=
  (narrow .boolean (.int y0) = .int y0 ∧ post y0)
set_option maxRecDepth 100000 in
theorem w_X6_in_15 {Sg : Type} {κ : KX Sg} {sg : Sg} {post : Int32 → Prop} (X : Cx κ cX6_in RX6 3 0 0) (hR : Rx κ (some .boolean) (oR sg post)) (x0 x1 x2 y0 : Int32) (h : B_X6_in_15 post x0 x1 x2 y0) : Gd κ 3 15 [(0, .int x0), (1, .int x1), (2, .int x2)] [.int y0] sg := by
  unfold B_X6_in_15 at h
  exact gd_zret X hR dX6_in_15 h.1 ⟨_, rfl, rfl, h.2⟩
def B_X6_in_14 (post : Int32 → Prop) (x0 x1 x2 : Int32) : Prop :=
  B_X6_in_15 post x0 x1 x2 0
set_option maxRecDepth 100000 in
theorem w_X6_in_14 {Sg : Type} {κ : KX Sg} {sg : Sg} {post : Int32 → Prop} (X : Cx κ cX6_in RX6 3 0 0) (hR : Rx κ (some .boolean) (oR sg post)) (x0 x1 x2 : Int32) (h : B_X6_in_14 post x0 x1 x2) : Gd κ 3 14 [(0, .int x0), (1, .int x1), (2, .int x2)] [] sg := by
  unfold B_X6_in_14 at h
  refine gd_iconst (v := 0) X dX6_in_14 (by decide) ?_
  exact w_X6_in_15 X hR _ _ _ _ h
def B_X6_in_0 (post : Int32 → Prop) (x0 x1 x2 : Int32) : Prop :=
  ((x0 < x1) → B_X6_in_14 post x0 x1 x2) ∧ ((¬ x0 < x1) → ((x2 < x0) → B_X6_in_14 post x0 x1 x2) ∧ ((¬ x2 < x0) → B_X6_in_15 post x0 x1 x2 1))
set_option maxRecDepth 100000 in
theorem w_X6_in_0 {Sg : Type} {κ : KX Sg} {sg : Sg} {post : Int32 → Prop} (X : Cx κ cX6_in RX6 3 0 0) (hR : Rx κ (some .boolean) (oR sg post)) (x0 x1 x2 : Int32) (h : B_X6_in_0 post x0 x1 x2) : Gd κ 3 0 [(0, .int x0), (1, .int x1), (2, .int x2)] [] sg := by
  unfold B_X6_in_0 at h
  refine gd_iload_n X dX6_in_0 0 rfl ?_
  refine gd_iload_n X dX6_in_1 1 rfl ?_
  refine gd_icmp_lt (tgt := 14) X dX6_in_2 (by decide) (fun c1 => ?_) (fun c1 => ?_)
  · have h := h.1 c1
    exact w_X6_in_14 X hR _ _ _ h
  · have h := h.2 c1
    refine gd_iload_n X dX6_in_5 0 rfl ?_
    refine gd_iload_n X dX6_in_6 2 rfl ?_
    refine gd_icmp_gt (tgt := 14) X dX6_in_7 (by decide) (fun c2 => ?_) (fun c2 => ?_)
    · have h := h.1 c2
      exact w_X6_in_14 X hR _ _ _ h
    · have h := h.2 c2
      refine gd_iconst (v := 1) X dX6_in_10 (by decide) ?_
      refine gd_goto (tgt := 15) X dX6_in_11 (by decide) ?_
      exact w_X6_in_15 X hR _ _ _ _ h
set_option maxRecDepth 100000 in
theorem c_X6_in {Sg : Type} (l : Launch) (E : EX Sg) (sg : Sg) (post : Int32 → Prop) (x0 x1 x2 : Int32) (hB : B_X6_in_0 post x0 x1 x2) : Mt l E yX6_in cX6_in 3 (some .boolean) 0 0 [.int x0, .int x1, .int x2] sg (oR sg post) := mt_of (plainFor_of_name (by decide)) (Nat.le_of_ble_eq_true rfl) (fun b X hR => w_X6_in_0 X hR x0 x1 x2 hB)
def B_X6_has_14 (post : Int32 → Prop) (x0 x1 y0 : Int32) : Prop :=
  (narrow .boolean (.int y0) = .int y0 ∧ post y0)
set_option maxRecDepth 100000 in
theorem w_X6_has_14 {Sg : Type} {κ : KX Sg} {sg : Sg} {post : Int32 → Prop} (X : Cx κ cX6_has RX6 2 0 0) (hR : Rx κ (some .boolean) (oR sg post)) (x0 x1 y0 : Int32) (h : B_X6_has_14 post x0 x1 y0) : Gd κ 2 14 [(0, .int x0), (1, .int x1)] [.int y0] sg := by
  unfold B_X6_has_14 at h
  exact gd_zret X hR dX6_has_14 h.1 ⟨_, rfl, rfl, h.2⟩
def B_X6_has_0 (post : Int32 → Prop) (x0 x1 : Int32) : Prop :=
  ((¬ ((jshr x0 x1) &&& 1) = 1) → B_X6_has_14 post x0 x1 0) ∧ ((((jshr x0 x1) &&& 1) = 1) → B_X6_has_14 post x0 x1 1)
set_option maxRecDepth 100000 in
theorem w_X6_has_0 {Sg : Type} {κ : KX Sg} {sg : Sg} {post : Int32 → Prop} (X : Cx κ cX6_has RX6 2 0 0) (hR : Rx κ (some .boolean) (oR sg post)) (x0 x1 : Int32) (h : B_X6_has_0 post x0 x1) : Gd κ 2 0 [(0, .int x0), (1, .int x1)] [] sg := by
  unfold B_X6_has_0 at h
  refine gd_iload_n X dX6_has_0 0 rfl ?_
  refine gd_iload_n X dX6_has_1 1 rfl ?_
  refine gd_jshr X dX6_has_2 ?_
  refine gd_iconst (v := 1) X dX6_has_3 (by decide) ?_
  refine gd_iand X dX6_has_4 ?_
  refine gd_iconst (v := 1) X dX6_has_5 (by decide) ?_
  refine gd_icmp_ne (tgt := 13) X dX6_has_6 (by decide) (fun c1 => ?_) (fun c1 => ?_)
  · have h := h.1 c1
    refine gd_iconst (v := 0) X dX6_has_13 (by decide) ?_
    exact w_X6_has_14 X hR _ _ _ h
  · have h := h.2 c1
    refine gd_iconst (v := 1) X dX6_has_9 (by decide) ?_
    refine gd_goto (tgt := 14) X dX6_has_10 (by decide) ?_
    exact w_X6_has_14 X hR _ _ _ h
set_option maxRecDepth 100000 in
theorem c_X6_has {Sg : Type} (l : Launch) (E : EX Sg) (sg : Sg) (post : Int32 → Prop) (x0 x1 : Int32) (hB : B_X6_has_0 post x0 x1) : Mt l E yX6_has cX6_has 2 (some .boolean) 0 0 [.int x0, .int x1] sg (oR sg post) := mt_of (plainFor_of_name (by decide)) (Nat.le_of_ble_eq_true rfl) (fun b X hR => w_X6_has_0 X hR x0 x1 hB)
def B_X6_many_4 (post : Int32 → Prop) (k4 : Int32 → Int32 → Int32 → Prop) (x0 x1 x2 : Int32) : Prop :=
  ((x2 = 0) → post x1) ∧ ((¬ x2 = 0) → ∀ z2 : Int32, z2 = x1 + 1 → ∀ z3 : Int32, z3 = (x2 &&& (x2 - 1)) → k4 x0 z2 z3)
set_option maxRecDepth 100000 in
theorem w_X6_many_4 {Sg : Type} {κ : KX Sg} {sg : Sg} {post : Int32 → Prop} {k4 : Int32 → Int32 → Int32 → Prop} (X : Cx κ cX6_many RX6 3 0 0) (hR : Rx κ (some .int) (oR sg post)) (hk4 : ∀ (x0 x1 x2 : Int32), k4 x0 x1 x2 → Gd κ 3 4 [(0, .int x0), (1, .int x1), (2, .int x2)] [] sg) (x0 x1 x2 : Int32) (h : B_X6_many_4 post k4 x0 x1 x2) : Gd κ 3 4 [(0, .int x0), (1, .int x1), (2, .int x2)] [] sg := by
  unfold B_X6_many_4 at h
  refine gd_iload_n X dX6_many_4 2 rfl ?_
  refine gd_if_eq (tgt := 20) X dX6_many_5 (by decide) (fun c1 => ?_) (fun c1 => ?_)
  · have h := h.1 c1
    refine gd_iload_n X dX6_many_20 1 rfl ?_
    exact gd_iret X hR dX6_many_21 ⟨_, rfl, rfl, h⟩
  · have h := h.2 c1
    refine gd_incn X 1 1 dX6_many_8 rfl (by decide) (by decide) (fun z2 => [(1, .int z2), (0, .int x0), (2, .int x2)]) (fun _ => rfl) (fun z2 ez2 => ?_)
    have h := h z2 ez2
    refine gd_iload_n X dX6_many_11 2 rfl ?_
    refine gd_iload_n X dX6_many_12 2 rfl ?_
    refine gd_iconst (v := 1) X dX6_many_13 (by decide) ?_
    refine gd_isub X dX6_many_14 ?_
    refine gd_iand X dX6_many_15 ?_
    refine gd_topi (fun z3 ez3 => ?_)
    have h := h z3 ez3
    refine gd_istore_n (lv' := [(2, .int z3), (1, .int z2), (0, .int x0)]) X dX6_many_16 (by decide) rfl ?_
    refine gd_goto (tgt := 4) X dX6_many_17 (by decide) ?_
    refine gd_sub [2, 1, 0] rfl ?_
    exact hk4 _ _ _ h
def P_X6_many_4 (post : Int32 → Prop) (n : Nat) : Int32 → Int32 → Int32 → Prop := Nat.rec (motive := fun _ => Int32 → Int32 → Int32 → Prop) (fun _ _ _ => False) (fun _ kk x0 x1 x2 => B_X6_many_4 post kk x0 x1 x2) n
set_option maxRecDepth 100000 in
theorem wL_X6_many_4 {Sg : Type} {κ : KX Sg} {sg : Sg} {post : Int32 → Prop} (X : Cx κ cX6_many RX6 3 0 0) (hR : Rx κ (some .int) (oR sg post)) : ∀ (n : Nat) (x0 x1 x2 : Int32), P_X6_many_4 post n x0 x1 x2 → Gd κ 3 4 [(0, .int x0), (1, .int x1), (2, .int x2)] [] sg := by
  intro n
  induction n with
  | zero => intro x0 x1 x2 h; exact h.elim
  | succ n ih => intro x0 x1 x2 h; exact w_X6_many_4 X hR ih x0 x1 x2 h
def B_X6_many_0 (post : Int32 → Prop) (x0 : Int32) : Prop :=
  ∃ n : Nat, P_X6_many_4 post n x0 0 x0
set_option maxRecDepth 100000 in
theorem w_X6_many_0 {Sg : Type} {κ : KX Sg} {sg : Sg} {post : Int32 → Prop} (X : Cx κ cX6_many RX6 3 0 0) (hR : Rx κ (some .int) (oR sg post)) (x0 : Int32) (h : B_X6_many_0 post x0) : Gd κ 3 0 [(0, .int x0)] [] sg := by
  unfold B_X6_many_0 at h
  refine gd_iconst (v := 0) X dX6_many_0 (by decide) ?_
  refine gd_istore_n (lv' := [(1, .int 0), (0, .int x0)]) X dX6_many_1 (by decide) rfl ?_
  refine gd_iload_n X dX6_many_2 1 rfl ?_
  refine gd_istore_n (lv' := [(2, .int x0), (1, .int 0), (0, .int x0)]) X dX6_many_3 (by decide) rfl ?_
  refine gd_sub [2, 1, 0] rfl ?_
  obtain ⟨n, h⟩ := h
  exact wL_X6_many_4 X hR n _ _ _ h
set_option maxRecDepth 100000 in
theorem c_X6_many {Sg : Type} (l : Launch) (E : EX Sg) (sg : Sg) (post : Int32 → Prop) (x0 : Int32) (hB : B_X6_many_0 post x0) : Mt l E yX6_many cX6_many 3 (some .int) 0 0 [.int x0] sg (oR sg post) := mt_of (plainFor_of_name (by decide)) (Nat.le_of_ble_eq_true rfl) (fun b X hR => w_X6_many_0 X hR x0 hB)
def B_X6_figures_0 (post : Int32 → Prop) (x0 x1 : Int32) : Prop :=
  post ((jshl (jrem x0 10) x1) ||| (jshl (x0 / 10) (x1 + 4)))
set_option maxRecDepth 100000 in
theorem w_X6_figures_0 {Sg : Type} {κ : KX Sg} {sg : Sg} {post : Int32 → Prop} (X : Cx κ cX6_figures RX6 2 0 0) (hR : Rx κ (some .int) (oR sg post)) (x0 x1 : Int32) (h : B_X6_figures_0 post x0 x1) : Gd κ 2 0 [(0, .int x0), (1, .int x1)] [] sg := by
  unfold B_X6_figures_0 at h
  refine gd_iload_n X dX6_figures_0 0 rfl ?_
  refine gd_bipush (v := 10) X dX6_figures_1 (by decide) ?_
  refine gd_jrem X dX6_figures_3 (by decide) ?_
  refine gd_iload_n X dX6_figures_4 1 rfl ?_
  refine gd_jshl X dX6_figures_5 ?_
  refine gd_iload_n X dX6_figures_6 0 rfl ?_
  refine gd_bipush (v := 10) X dX6_figures_7 (by decide) ?_
  refine gd_idiv X dX6_figures_9 (by decide) ?_
  refine gd_iload_n X dX6_figures_10 1 rfl ?_
  refine gd_iconst (v := 4) X dX6_figures_11 (by decide) ?_
  refine gd_iadd X dX6_figures_12 ?_
  refine gd_jshl X dX6_figures_13 ?_
  refine gd_ior X dX6_figures_14 ?_
  exact gd_iret X hR dX6_figures_15 ⟨_, rfl, rfl, h⟩
set_option maxRecDepth 100000 in
theorem c_X6_figures {Sg : Type} (l : Launch) (E : EX Sg) (sg : Sg) (post : Int32 → Prop) (x0 x1 : Int32) (hB : B_X6_figures_0 post x0 x1) : Mt l E yX6_figures cX6_figures 2 (some .int) 0 0 [.int x0, .int x1] sg (oR sg post) := mt_of (plainFor_of_name (by decide)) (Nat.le_of_ble_eq_true rfl) (fun b X hR => w_X6_figures_0 X hR x0 x1 hB)
def B_X6_bitsOf_50 (post : Int32 → Prop) (x0 x1 x2 y0 y1 : Int32) : Prop :=
  ∀ z1 : Int32, z1 = (y1 ||| y0) → B_X6_figures_0 (fun r2 => B_X6_figures_0 (fun r3 => B_X6_many_0 (fun r4 => ∀ z5 : Int32, z5 = (r2 ||| (jshl (jrem r4 2) 11)) → B_X6_many_0 (fun r6 => ∀ z7 : Int32, z7 = (r3 ||| (jshl (jrem r6 2) 18)) → post ((z1 ||| z5) ||| z7)) r3) r2) (x1 / 60) 12) (jrem x1 60) 4
set_option maxRecDepth 100000 in
theorem w_X6_bitsOf_50 {Sg : Type} {κ : KX Sg} {sg : Sg} {post : Int32 → Prop} (X : Cx κ cX6_bitsOf RX6 5 1 22) (hR : Rx κ (some .int) (oR sg post)) (x0 x1 x2 y0 y1 : Int32) (h : B_X6_bitsOf_50 post x0 x1 x2 y0 y1) : Gd κ 5 50 [(0, .int x0), (1, .int x1), (2, .int x2)] [.int y0, .int y1] sg := by
  unfold B_X6_bitsOf_50 at h
  refine gd_ior X dX6_bitsOf_50 ?_
  refine gd_topi (fun z1 ez1 => ?_)
  have h := h z1 ez1
  refine gd_istore_n (lv' := [(2, .int z1), (0, .int x0), (1, .int x1)]) X dX6_bitsOf_51 (by decide) rfl ?_
  refine gd_iload_n X dX6_bitsOf_52 2 rfl ?_
  refine gd_bipush (v := 60) X dX6_bitsOf_53 (by decide) ?_
  refine gd_jrem X dX6_bitsOf_55 (by decide) ?_
  refine gd_iconst (v := 4) X dX6_bitsOf_56 (by decide) ?_
  refine gd_callSr (As := [.int ((jrem x1 60)), .int 4]) (rest := []) X lk_X6_36 (c_X6_figures _ _ _ _ _ _ h) ⟨by decide, by decide⟩ rfl rfl (Nat.le_of_ble_eq_true rfl) dX6_bitsOf_57 (fun r2 h => ?_)
  refine gd_istore_n (lv' := [(3, .int r2), (2, .int z1), (0, .int x0), (1, .int x1)]) X dX6_bitsOf_60 (by decide) rfl ?_
  refine gd_iload_n X dX6_bitsOf_61 3 rfl ?_
  refine gd_bipush (v := 60) X dX6_bitsOf_62 (by decide) ?_
  refine gd_idiv X dX6_bitsOf_64 (by decide) ?_
  refine gd_bipush (v := 12) X dX6_bitsOf_65 (by decide) ?_
  refine gd_callSr (As := [.int ((x1 / 60)), .int 12]) (rest := []) X lk_X6_36 (c_X6_figures _ _ _ _ _ _ h) ⟨by decide, by decide⟩ rfl rfl (Nat.le_of_ble_eq_true rfl) dX6_bitsOf_67 (fun r3 h => ?_)
  refine gd_istore (lv' := [(4, .int r3), (3, .int r2), (2, .int z1), (0, .int x0), (1, .int x1)]) X dX6_bitsOf_70 (by decide) rfl ?_
  refine gd_iload_n X dX6_bitsOf_72 1 rfl ?_
  refine gd_iload_n X dX6_bitsOf_73 1 rfl ?_
  refine gd_callSr (As := [.int r2]) (rest := [.int r2]) X lk_X6_40 (c_X6_many _ _ _ _ _ h) ⟨by decide, by decide⟩ rfl rfl (Nat.le_of_ble_eq_true rfl) dX6_bitsOf_74 (fun r4 h => ?_)
  refine gd_iconst (v := 2) X dX6_bitsOf_77 (by decide) ?_
  refine gd_jrem X dX6_bitsOf_78 (by decide) ?_
  refine gd_bipush (v := 11) X dX6_bitsOf_79 (by decide) ?_
  refine gd_jshl X dX6_bitsOf_81 ?_
  refine gd_ior X dX6_bitsOf_82 ?_
  refine gd_topi (fun z5 ez5 => ?_)
  have h := h z5 ez5
  refine gd_istore_n (lv' := [(3, .int z5), (4, .int r3), (2, .int z1), (0, .int x0), (1, .int x1)]) X dX6_bitsOf_83 (by decide) rfl ?_
  refine gd_iload X dX6_bitsOf_84 1 rfl ?_
  refine gd_iload X dX6_bitsOf_86 1 rfl ?_
  refine gd_callSr (As := [.int r3]) (rest := [.int r3]) X lk_X6_40 (c_X6_many _ _ _ _ _ h) ⟨by decide, by decide⟩ rfl rfl (Nat.le_of_ble_eq_true rfl) dX6_bitsOf_88 (fun r6 h => ?_)
  refine gd_iconst (v := 2) X dX6_bitsOf_91 (by decide) ?_
  refine gd_jrem X dX6_bitsOf_92 (by decide) ?_
  refine gd_bipush (v := 18) X dX6_bitsOf_93 (by decide) ?_
  refine gd_jshl X dX6_bitsOf_95 ?_
  refine gd_ior X dX6_bitsOf_96 ?_
  refine gd_topi (fun z7 ez7 => ?_)
  have h := h z7 ez7
  refine gd_istore (lv' := [(4, .int z7), (3, .int z5), (2, .int z1), (0, .int x0), (1, .int x1)]) X dX6_bitsOf_97 (by decide) rfl ?_
  refine gd_iload_n X dX6_bitsOf_99 2 rfl ?_
  refine gd_iload_n X dX6_bitsOf_100 1 rfl ?_
  refine gd_ior X dX6_bitsOf_101 ?_
  refine gd_iload X dX6_bitsOf_102 0 rfl ?_
  refine gd_ior X dX6_bitsOf_104 ?_
  exact gd_iret X hR dX6_bitsOf_105 ⟨_, rfl, rfl, h⟩
def B_X6_bitsOf_33 (post : Int32 → Prop) (x0 x1 x2 y0 y1 : Int32) : Prop :=
  ∀ z1 : Int32, z1 = (y1 ||| y0) → B_X6_has_0 (fun r2 => ((r2 = 0) → B_X6_bitsOf_50 post x0 x1 z1 0 z1) ∧ ((¬ r2 = 0) → B_X6_bitsOf_50 post x0 x1 z1 8 z1)) x0 2
set_option maxRecDepth 100000 in
theorem w_X6_bitsOf_33 {Sg : Type} {κ : KX Sg} {sg : Sg} {post : Int32 → Prop} (X : Cx κ cX6_bitsOf RX6 5 1 22) (hR : Rx κ (some .int) (oR sg post)) (x0 x1 x2 y0 y1 : Int32) (h : B_X6_bitsOf_33 post x0 x1 x2 y0 y1) : Gd κ 5 33 [(0, .int x0), (1, .int x1), (2, .int x2)] [.int y0, .int y1] sg := by
  unfold B_X6_bitsOf_33 at h
  refine gd_ior X dX6_bitsOf_33 ?_
  refine gd_topi (fun z1 ez1 => ?_)
  have h := h z1 ez1
  refine gd_istore_n (lv' := [(2, .int z1), (0, .int x0), (1, .int x1)]) X dX6_bitsOf_34 (by decide) rfl ?_
  refine gd_iload_n X dX6_bitsOf_35 0 rfl ?_
  refine gd_iload_n X dX6_bitsOf_36 1 rfl ?_
  refine gd_iconst (v := 2) X dX6_bitsOf_37 (by decide) ?_
  refine gd_callSr (As := [.int x0, .int 2]) (rest := [.int z1]) X lk_X6_32 (c_X6_has _ _ _ _ _ _ h) ⟨by decide, by decide⟩ rfl rfl (Nat.le_of_ble_eq_true rfl) dX6_bitsOf_38 (fun r2 h => ?_)
  refine gd_if_eq (tgt := 49) X dX6_bitsOf_41 (by decide) (fun c3 => ?_) (fun c3 => ?_)
  · have h := h.1 c3
    refine gd_iconst (v := 0) X dX6_bitsOf_49 (by decide) ?_
    refine gd_sub [1, 2, 0] rfl ?_
    exact w_X6_bitsOf_50 X hR _ _ _ _ _ h
  · have h := h.2 c3
    refine gd_bipush (v := 8) X dX6_bitsOf_44 (by decide) ?_
    refine gd_goto (tgt := 50) X dX6_bitsOf_46 (by decide) ?_
    refine gd_sub [1, 2, 0] rfl ?_
    exact w_X6_bitsOf_50 X hR _ _ _ _ _ h
def B_X6_bitsOf_18 (post : Int32 → Prop) (x0 x1 y0 : Int32) : Prop :=
  B_X6_has_0 (fun r1 => ((r1 = 0) → B_X6_bitsOf_33 post x0 x1 y0 0 y0) ∧ ((¬ r1 = 0) → B_X6_bitsOf_33 post x0 x1 y0 4 y0)) x0 0
set_option maxRecDepth 100000 in
theorem w_X6_bitsOf_18 {Sg : Type} {κ : KX Sg} {sg : Sg} {post : Int32 → Prop} (X : Cx κ cX6_bitsOf RX6 5 1 22) (hR : Rx κ (some .int) (oR sg post)) (x0 x1 y0 : Int32) (h : B_X6_bitsOf_18 post x0 x1 y0) : Gd κ 5 18 [(0, .int x0), (1, .int x1)] [.int y0] sg := by
  unfold B_X6_bitsOf_18 at h
  refine gd_istore_n (lv' := [(2, .int y0), (0, .int x0), (1, .int x1)]) X dX6_bitsOf_18 (by decide) rfl ?_
  refine gd_iload_n X dX6_bitsOf_19 0 rfl ?_
  refine gd_iload_n X dX6_bitsOf_20 1 rfl ?_
  refine gd_iconst (v := 0) X dX6_bitsOf_21 (by decide) ?_
  refine gd_callSr (As := [.int x0, .int 0]) (rest := [.int y0]) X lk_X6_32 (c_X6_has _ _ _ _ _ _ h) ⟨by decide, by decide⟩ rfl rfl (Nat.le_of_ble_eq_true rfl) dX6_bitsOf_22 (fun r1 h => ?_)
  refine gd_if_eq (tgt := 32) X dX6_bitsOf_25 (by decide) (fun c2 => ?_) (fun c2 => ?_)
  · have h := h.1 c2
    refine gd_iconst (v := 0) X dX6_bitsOf_32 (by decide) ?_
    refine gd_sub [1, 2, 0] rfl ?_
    exact w_X6_bitsOf_33 X hR _ _ _ _ _ h
  · have h := h.2 c2
    refine gd_iconst (v := 4) X dX6_bitsOf_28 (by decide) ?_
    refine gd_goto (tgt := 33) X dX6_bitsOf_29 (by decide) ?_
    refine gd_sub [1, 2, 0] rfl ?_
    exact w_X6_bitsOf_33 X hR _ _ _ _ _ h
def B_X6_bitsOf_0 (post : Int32 → Prop) (x0 : Int32) : Prop :=
  ∀ z1 : Int32, z1 = (x0 / 8) → B_X6_has_0 (fun r2 => ((r2 = 0) → B_X6_bitsOf_18 post x0 z1 0) ∧ ((¬ r2 = 0) → B_X6_bitsOf_18 post x0 z1 2)) x0 1
set_option maxRecDepth 100000 in
theorem w_X6_bitsOf_0 {Sg : Type} {κ : KX Sg} {sg : Sg} {post : Int32 → Prop} (X : Cx κ cX6_bitsOf RX6 5 1 22) (hR : Rx κ (some .int) (oR sg post)) (x0 : Int32) (h : B_X6_bitsOf_0 post x0) : Gd κ 5 0 [(0, .int x0)] [] sg := by
  unfold B_X6_bitsOf_0 at h
  refine gd_iload_n X dX6_bitsOf_0 0 rfl ?_
  refine gd_bipush (v := 8) X dX6_bitsOf_1 (by decide) ?_
  refine gd_idiv X dX6_bitsOf_3 (by decide) ?_
  refine gd_topi (fun z1 ez1 => ?_)
  have h := h z1 ez1
  refine gd_istore_n (lv' := [(1, .int z1), (0, .int x0)]) X dX6_bitsOf_4 (by decide) rfl ?_
  refine gd_iload_n X dX6_bitsOf_5 1 rfl ?_
  refine gd_iconst (v := 1) X dX6_bitsOf_6 (by decide) ?_
  refine gd_callSr (As := [.int x0, .int 1]) (rest := []) X lk_X6_32 (c_X6_has _ _ _ _ _ _ h) ⟨by decide, by decide⟩ rfl rfl (Nat.le_of_ble_eq_true rfl) dX6_bitsOf_7 (fun r2 h => ?_)
  refine gd_if_eq (tgt := 17) X dX6_bitsOf_10 (by decide) (fun c3 => ?_) (fun c3 => ?_)
  · have h := h.1 c3
    refine gd_iconst (v := 0) X dX6_bitsOf_17 (by decide) ?_
    refine gd_sub [1, 0] rfl ?_
    exact w_X6_bitsOf_18 X hR _ _ _ h
  · have h := h.2 c3
    refine gd_iconst (v := 2) X dX6_bitsOf_13 (by decide) ?_
    refine gd_goto (tgt := 18) X dX6_bitsOf_14 (by decide) ?_
    refine gd_sub [1, 0] rfl ?_
    exact w_X6_bitsOf_18 X hR _ _ _ h
set_option maxRecDepth 100000 in
theorem c_X6_bitsOf {Sg : Type} (l : Launch) (E : EX Sg) (sg : Sg) (post : Int32 → Prop) (x0 : Int32) (hB : B_X6_bitsOf_0 post x0) : Mt l E yX6_bitsOf cX6_bitsOf 5 (some .int) 1 22 [.int x0] sg (oR sg post) := mt_of (plainFor_of_name (by decide)) (Nat.le_of_ble_eq_true rfl) (fun b X hR => w_X6_bitsOf_0 X hR x0 hB)
def B_X6_nextOf_84 (post : Int32 → Prop) (x0 x1 x2 y0 y1 : Int32) : Prop :=
  post (y1 + y0)
set_option maxRecDepth 100000 in
theorem w_X6_nextOf_84 {Sg : Type} {κ : KX Sg} {sg : Sg} {post : Int32 → Prop} (X : Cx κ cX6_nextOf RX6 3 1 21) (hR : Rx κ (some .int) (oR sg post)) (x0 x1 x2 y0 y1 : Int32) (h : B_X6_nextOf_84 post x0 x1 x2 y0 y1) : Gd κ 3 84 [(0, .int x0), (1, .int x1), (2, .int x2)] [.int y0, .int y1] sg := by
  unfold B_X6_nextOf_84 at h
  refine gd_iadd X dX6_nextOf_84 ?_
  exact gd_iret X hR dX6_nextOf_85 ⟨_, rfl, rfl, h⟩
def B_X6_nextOf_71 (post : Int32 → Prop) (x0 x1 x2 : Int32) : Prop :=
  ((x2 = 0) → B_X6_nextOf_84 post x0 x1 x2 0 ((8 * x1))) ∧ ((¬ x2 = 0) → B_X6_nextOf_84 post x0 x1 x2 4 ((8 * x1)))
set_option maxRecDepth 100000 in
theorem w_X6_nextOf_71 {Sg : Type} {κ : KX Sg} {sg : Sg} {post : Int32 → Prop} (X : Cx κ cX6_nextOf RX6 3 1 21) (hR : Rx κ (some .int) (oR sg post)) (x0 x1 x2 : Int32) (h : B_X6_nextOf_71 post x0 x1 x2) : Gd κ 3 71 [(0, .int x0), (1, .int x1), (2, .int x2)] [] sg := by
  unfold B_X6_nextOf_71 at h
  refine gd_bipush (v := 8) X dX6_nextOf_71 (by decide) ?_
  refine gd_iload_n X dX6_nextOf_73 1 rfl ?_
  refine gd_imul X dX6_nextOf_74 ?_
  refine gd_iload_n X dX6_nextOf_75 2 rfl ?_
  refine gd_if_eq (tgt := 83) X dX6_nextOf_76 (by decide) (fun c1 => ?_) (fun c1 => ?_)
  · have h := h.1 c1
    refine gd_iconst (v := 0) X dX6_nextOf_83 (by decide) ?_
    exact w_X6_nextOf_84 X hR _ _ _ _ _ h
  · have h := h.2 c1
    refine gd_iconst (v := 4) X dX6_nextOf_79 (by decide) ?_
    refine gd_goto (tgt := 84) X dX6_nextOf_80 (by decide) ?_
    exact w_X6_nextOf_84 X hR _ _ _ _ _ h
def B_X6_nextOf_65 (post : Int32 → Prop) (x0 x1 x2 y0 y1 : Int32) : Prop :=
  ∀ z1 : Int32, z1 = (jrem (y1 + y0) 1440) → B_X6_nextOf_71 post x0 z1 x2
set_option maxRecDepth 100000 in
theorem w_X6_nextOf_65 {Sg : Type} {κ : KX Sg} {sg : Sg} {post : Int32 → Prop} (X : Cx κ cX6_nextOf RX6 3 1 21) (hR : Rx κ (some .int) (oR sg post)) (x0 x1 x2 y0 y1 : Int32) (h : B_X6_nextOf_65 post x0 x1 x2 y0 y1) : Gd κ 3 65 [(0, .int x0), (1, .int x1), (2, .int x2)] [.int y0, .int y1] sg := by
  unfold B_X6_nextOf_65 at h
  refine gd_iadd X dX6_nextOf_65 ?_
  refine gd_sipush (v := 1440) X dX6_nextOf_66 (by decide) ?_
  refine gd_jrem X dX6_nextOf_69 (by decide) ?_
  refine gd_topi (fun z1 ez1 => ?_)
  have h := h z1 ez1
  refine gd_istore_n (lv' := [(1, .int z1), (0, .int x0), (2, .int x2)]) X dX6_nextOf_70 (by decide) rfl ?_
  refine gd_sub [1, 0, 2] rfl ?_
  exact w_X6_nextOf_71 X hR _ _ _ h
def B_X6_nextOf_51 (post : Int32 → Prop) (x0 x1 x2 y0 : Int32) : Prop :=
  ((y0 = 0) → B_X6_nextOf_65 post x0 x1 y0 1380 x1) ∧ ((¬ y0 = 0) → B_X6_nextOf_65 post x0 x1 y0 60 x1)
set_option maxRecDepth 100000 in
theorem w_X6_nextOf_51 {Sg : Type} {κ : KX Sg} {sg : Sg} {post : Int32 → Prop} (X : Cx κ cX6_nextOf RX6 3 1 21) (hR : Rx κ (some .int) (oR sg post)) (x0 x1 x2 y0 : Int32) (h : B_X6_nextOf_51 post x0 x1 x2 y0) : Gd κ 3 51 [(0, .int x0), (1, .int x1), (2, .int x2)] [.int y0] sg := by
  unfold B_X6_nextOf_51 at h
  refine gd_istore_n (lv' := [(2, .int y0), (0, .int x0), (1, .int x1)]) X dX6_nextOf_51 (by decide) rfl ?_
  refine gd_iload_n X dX6_nextOf_52 2 rfl ?_
  refine gd_iload_n X dX6_nextOf_53 0 rfl ?_
  refine gd_if_eq (tgt := 62) X dX6_nextOf_54 (by decide) (fun c1 => ?_) (fun c1 => ?_)
  · have h := h.1 c1
    refine gd_sipush (v := 1380) X dX6_nextOf_62 (by decide) ?_
    refine gd_sub [1, 2, 0] rfl ?_
    exact w_X6_nextOf_65 X hR _ _ _ _ _ h
  · have h := h.2 c1
    refine gd_bipush (v := 60) X dX6_nextOf_57 (by decide) ?_
    refine gd_goto (tgt := 65) X dX6_nextOf_59 (by decide) ?_
    refine gd_sub [1, 2, 0] rfl ?_
    exact w_X6_nextOf_65 X hR _ _ _ _ _ h
def B_X6_nextOf_0 (post : Int32 → Prop) (x0 : Int32) : Prop :=
  ∀ z1 : Int32, z1 = (jrem ((x0 / 8) + 1) 1440) → (((jrem z1 60) = 0) → B_X6_has_0 (fun r3 => B_X6_has_0 (fun r4 => ((r4 = 0) → B_X6_nextOf_71 post x0 z1 r3) ∧ ((¬ r4 = 0) → ((¬ r3 = 0) → B_X6_nextOf_51 post x0 z1 r3 0) ∧ ((r3 = 0) → B_X6_nextOf_51 post x0 z1 r3 1))) x0 1) x0 2) ∧ ((¬ (jrem z1 60) = 0) → post ((8 * z1) + (jrem x0 8)))
set_option maxRecDepth 100000 in
theorem w_X6_nextOf_0 {Sg : Type} {κ : KX Sg} {sg : Sg} {post : Int32 → Prop} (X : Cx κ cX6_nextOf RX6 3 1 21) (hR : Rx κ (some .int) (oR sg post)) (x0 : Int32) (h : B_X6_nextOf_0 post x0) : Gd κ 3 0 [(0, .int x0)] [] sg := by
  unfold B_X6_nextOf_0 at h
  refine gd_iload_n X dX6_nextOf_0 0 rfl ?_
  refine gd_bipush (v := 8) X dX6_nextOf_1 (by decide) ?_
  refine gd_idiv X dX6_nextOf_3 (by decide) ?_
  refine gd_iconst (v := 1) X dX6_nextOf_4 (by decide) ?_
  refine gd_iadd X dX6_nextOf_5 ?_
  refine gd_sipush (v := 1440) X dX6_nextOf_6 (by decide) ?_
  refine gd_jrem X dX6_nextOf_9 (by decide) ?_
  refine gd_topi (fun z1 ez1 => ?_)
  have h := h z1 ez1
  refine gd_istore_n (lv' := [(1, .int z1), (0, .int x0)]) X dX6_nextOf_10 (by decide) rfl ?_
  refine gd_iload_n X dX6_nextOf_11 0 rfl ?_
  refine gd_bipush (v := 60) X dX6_nextOf_12 (by decide) ?_
  refine gd_jrem X dX6_nextOf_14 (by decide) ?_
  refine gd_if_eq (tgt := 28) X dX6_nextOf_15 (by decide) (fun c2 => ?_) (fun c2 => ?_)
  · have h := h.1 c2
    refine gd_iload_n X dX6_nextOf_28 1 rfl ?_
    refine gd_iconst (v := 2) X dX6_nextOf_29 (by decide) ?_
    refine gd_callSr (As := [.int x0, .int 2]) (rest := []) X lk_X6_32 (c_X6_has _ _ _ _ _ _ h) ⟨by decide, by decide⟩ rfl rfl (Nat.le_of_ble_eq_true rfl) dX6_nextOf_30 (fun r3 h => ?_)
    refine gd_istore_n (lv' := [(2, .int r3), (1, .int z1), (0, .int x0)]) X dX6_nextOf_33 (by decide) rfl ?_
    refine gd_iload_n X dX6_nextOf_34 2 rfl ?_
    refine gd_iconst (v := 1) X dX6_nextOf_35 (by decide) ?_
    refine gd_callSr (As := [.int x0, .int 1]) (rest := []) X lk_X6_32 (c_X6_has _ _ _ _ _ _ h) ⟨by decide, by decide⟩ rfl rfl (Nat.le_of_ble_eq_true rfl) dX6_nextOf_36 (fun r4 h => ?_)
    refine gd_if_eq (tgt := 71) X dX6_nextOf_39 (by decide) (fun c5 => ?_) (fun c5 => ?_)
    · have h := h.1 c5
      refine gd_sub [2, 1, 0] rfl ?_
      exact w_X6_nextOf_71 X hR _ _ _ h
    · have h := h.2 c5
      refine gd_iload_n X dX6_nextOf_42 0 rfl ?_
      refine gd_if_ne (tgt := 50) X dX6_nextOf_43 (by decide) (fun c6 => ?_) (fun c6 => ?_)
      · have h := h.1 c6
        refine gd_iconst (v := 0) X dX6_nextOf_50 (by decide) ?_
        refine gd_sub [2, 1, 0] rfl ?_
        exact w_X6_nextOf_51 X hR _ _ _ _ h
      · have h := h.2 c6
        refine gd_iconst (v := 1) X dX6_nextOf_46 (by decide) ?_
        refine gd_goto (tgt := 51) X dX6_nextOf_47 (by decide) ?_
        refine gd_sub [2, 1, 0] rfl ?_
        exact w_X6_nextOf_51 X hR _ _ _ _ h
  · have h := h.2 c2
    refine gd_bipush (v := 8) X dX6_nextOf_18 (by decide) ?_
    refine gd_iload_n X dX6_nextOf_20 0 rfl ?_
    refine gd_imul X dX6_nextOf_21 ?_
    refine gd_iload_n X dX6_nextOf_22 1 rfl ?_
    refine gd_bipush (v := 8) X dX6_nextOf_23 (by decide) ?_
    refine gd_jrem X dX6_nextOf_25 (by decide) ?_
    refine gd_iadd X dX6_nextOf_26 ?_
    exact gd_iret X hR dX6_nextOf_27 ⟨_, rfl, rfl, h⟩
set_option maxRecDepth 100000 in
theorem c_X6_nextOf {Sg : Type} (l : Launch) (E : EX Sg) (sg : Sg) (post : Int32 → Prop) (x0 : Int32) (hB : B_X6_nextOf_0 post x0) : Mt l E yX6_nextOf cX6_nextOf 3 (some .int) 1 21 [.int x0] sg (oR sg post) := mt_of (plainFor_of_name (by decide)) (Nat.le_of_ble_eq_true rfl) (fun b X hR => w_X6_nextOf_0 X hR x0 hB)
def B_X6_later_4 (post : Int32 → Prop) (k4 : Int32 → Int32 → Int32 → Int32 → Prop) (x0 x1 x2 x3 : Int32) : Prop :=
  ((x1 ≤ x3) → post x2) ∧ ((¬ x1 ≤ x3) → B_X6_nextOf_0 (fun r2 => ∀ z3 : Int32, z3 = x3 + 1 → k4 x0 x1 r2 z3) x2)
set_option maxRecDepth 100000 in
theorem w_X6_later_4 {Sg : Type} {κ : KX Sg} {sg : Sg} {post : Int32 → Prop} {k4 : Int32 → Int32 → Int32 → Int32 → Prop} (X : Cx κ cX6_later RX6 4 2 43) (hR : Rx κ (some .int) (oR sg post)) (hk4 : ∀ (x0 x1 x2 x3 : Int32), k4 x0 x1 x2 x3 → Gd κ 4 4 [(0, .int x0), (1, .int x1), (2, .int x2), (3, .int x3)] [] sg) (x0 x1 x2 x3 : Int32) (h : B_X6_later_4 post k4 x0 x1 x2 x3) : Gd κ 4 4 [(0, .int x0), (1, .int x1), (2, .int x2), (3, .int x3)] [] sg := by
  unfold B_X6_later_4 at h
  refine gd_iload_n X dX6_later_4 3 rfl ?_
  refine gd_iload_n X dX6_later_5 1 rfl ?_
  refine gd_icmp_ge (tgt := 20) X dX6_later_6 (by decide) (fun c1 => ?_) (fun c1 => ?_)
  · have h := h.1 c1
    refine gd_iload_n X dX6_later_20 2 rfl ?_
    exact gd_iret X hR dX6_later_21 ⟨_, rfl, rfl, h⟩
  · have h := h.2 c1
    refine gd_iload_n X dX6_later_9 2 rfl ?_
    refine gd_callSr (As := [.int x2]) (rest := []) X lk_X6_44 (c_X6_nextOf _ _ _ _ _ h) ⟨by decide, by decide⟩ rfl rfl (Nat.le_of_ble_eq_true rfl) dX6_later_10 (fun r2 h => ?_)
    refine gd_istore_n (lv' := [(2, .int r2), (0, .int x0), (1, .int x1), (3, .int x3)]) X dX6_later_13 (by decide) rfl ?_
    refine gd_incn X 3 1 dX6_later_14 rfl (by decide) (by decide) (fun z3 => [(3, .int z3), (2, .int r2), (0, .int x0), (1, .int x1)]) (fun _ => rfl) (fun z3 ez3 => ?_)
    have h := h z3 ez3
    refine gd_goto (tgt := 4) X dX6_later_17 (by decide) ?_
    refine gd_sub [2, 3, 1, 0] rfl ?_
    exact hk4 _ _ _ _ h
def P_X6_later_4 (post : Int32 → Prop) (n : Nat) : Int32 → Int32 → Int32 → Int32 → Prop := Nat.rec (motive := fun _ => Int32 → Int32 → Int32 → Int32 → Prop) (fun _ _ _ _ => False) (fun _ kk x0 x1 x2 x3 => B_X6_later_4 post kk x0 x1 x2 x3) n
set_option maxRecDepth 100000 in
theorem wL_X6_later_4 {Sg : Type} {κ : KX Sg} {sg : Sg} {post : Int32 → Prop} (X : Cx κ cX6_later RX6 4 2 43) (hR : Rx κ (some .int) (oR sg post)) : ∀ (n : Nat) (x0 x1 x2 x3 : Int32), P_X6_later_4 post n x0 x1 x2 x3 → Gd κ 4 4 [(0, .int x0), (1, .int x1), (2, .int x2), (3, .int x3)] [] sg := by
  intro n
  induction n with
  | zero => intro x0 x1 x2 x3 h; exact h.elim
  | succ n ih => intro x0 x1 x2 x3 h; exact w_X6_later_4 X hR ih x0 x1 x2 x3 h
def B_X6_later_0 (post : Int32 → Prop) (x0 x1 : Int32) : Prop :=
  ∃ n : Nat, P_X6_later_4 post n x0 x1 x0 0
set_option maxRecDepth 100000 in
theorem w_X6_later_0 {Sg : Type} {κ : KX Sg} {sg : Sg} {post : Int32 → Prop} (X : Cx κ cX6_later RX6 4 2 43) (hR : Rx κ (some .int) (oR sg post)) (x0 x1 : Int32) (h : B_X6_later_0 post x0 x1) : Gd κ 4 0 [(0, .int x0), (1, .int x1)] [] sg := by
  unfold B_X6_later_0 at h
  refine gd_iload_n X dX6_later_0 0 rfl ?_
  refine gd_istore_n (lv' := [(2, .int x0), (0, .int x0), (1, .int x1)]) X dX6_later_1 (by decide) rfl ?_
  refine gd_iconst (v := 0) X dX6_later_2 (by decide) ?_
  refine gd_istore_n (lv' := [(3, .int 0), (2, .int x0), (0, .int x0), (1, .int x1)]) X dX6_later_3 (by decide) rfl ?_
  refine gd_sub [2, 3, 1, 0] rfl ?_
  obtain ⟨n, h⟩ := h
  exact wL_X6_later_4 X hR n _ _ _ _ h
set_option maxRecDepth 100000 in
theorem c_X6_later {Sg : Type} (l : Launch) (E : EX Sg) (sg : Sg) (post : Int32 → Prop) (x0 x1 : Int32) (hB : B_X6_later_0 post x0 x1) : Mt l E yX6_later cX6_later 4 (some .int) 2 43 [.int x0, .int x1] sg (oR sg post) := mt_of (plainFor_of_name (by decide)) (Nat.le_of_ble_eq_true rfl) (fun b X hR => w_X6_later_0 X hR x0 x1 hB)
def B_X6_isTime_43 (post : Int32 → Prop) (x0 x1 x2 x3 y0 : Int32) : Prop :=
  (narrow .boolean (.int y0) = .int y0 ∧ post y0)
set_option maxRecDepth 100000 in
theorem w_X6_isTime_43 {Sg : Type} {κ : KX Sg} {sg : Sg} {post : Int32 → Prop} (X : Cx κ cX6_isTime RX6 4 1 22) (hR : Rx κ (some .boolean) (oR sg post)) (x0 x1 x2 x3 y0 : Int32) (h : B_X6_isTime_43 post x0 x1 x2 x3 y0) : Gd κ 4 43 [(0, .int x0), (1, .int x1), (2, .int x2), (3, .int x3)] [.int y0] sg := by
  unfold B_X6_isTime_43 at h
  exact gd_zret X hR dX6_isTime_43 h.1 ⟨_, rfl, rfl, h.2⟩
def B_X6_isTime_42 (post : Int32 → Prop) (x0 x1 x2 x3 : Int32) : Prop :=
  B_X6_isTime_43 post x0 x1 x2 x3 0
set_option maxRecDepth 100000 in
theorem w_X6_isTime_42 {Sg : Type} {κ : KX Sg} {sg : Sg} {post : Int32 → Prop} (X : Cx κ cX6_isTime RX6 4 1 22) (hR : Rx κ (some .boolean) (oR sg post)) (x0 x1 x2 x3 : Int32) (h : B_X6_isTime_42 post x0 x1 x2 x3) : Gd κ 4 42 [(0, .int x0), (1, .int x1), (2, .int x2), (3, .int x3)] [] sg := by
  unfold B_X6_isTime_42 at h
  refine gd_iconst (v := 0) X dX6_isTime_42 (by decide) ?_
  exact w_X6_isTime_43 X hR _ _ _ _ _ h
def B_X6_isTime_0 (post : Int32 → Prop) (x0 x1 x2 x3 : Int32) : Prop :=
  B_X6_in_0 (fun r1 => ((r1 = 0) → B_X6_isTime_42 post x0 x1 x2 x3) ∧ ((¬ r1 = 0) → B_X6_in_0 (fun r3 => ((r3 = 0) → B_X6_isTime_42 post x0 x1 x2 x3) ∧ ((¬ r3 = 0) → B_X6_in_0 (fun r5 => ((r5 = 0) → B_X6_isTime_42 post x0 x1 x2 x3) ∧ ((¬ r5 = 0) → B_X6_in_0 (fun r7 => ((r7 = 0) → B_X6_isTime_42 post x0 x1 x2 x3) ∧ ((¬ r7 = 0) → B_X6_isTime_43 post x0 x1 x2 x3 1)) x3 0 1)) x2 0 1)) x1 0 1)) x0 0 1439
set_option maxRecDepth 100000 in
theorem w_X6_isTime_0 {Sg : Type} {κ : KX Sg} {sg : Sg} {post : Int32 → Prop} (X : Cx κ cX6_isTime RX6 4 1 22) (hR : Rx κ (some .boolean) (oR sg post)) (x0 x1 x2 x3 : Int32) (h : B_X6_isTime_0 post x0 x1 x2 x3) : Gd κ 4 0 [(0, .int x0), (1, .int x1), (2, .int x2), (3, .int x3)] [] sg := by
  unfold B_X6_isTime_0 at h
  refine gd_iload_n X dX6_isTime_0 0 rfl ?_
  refine gd_iconst (v := 0) X dX6_isTime_1 (by decide) ?_
  refine gd_sipush (v := 1439) X dX6_isTime_2 (by decide) ?_
  refine gd_callSr (As := [.int x0, .int 0, .int 1439]) (rest := []) X lk_X6_47 (c_X6_in _ _ _ _ _ _ _ h) ⟨by decide, by decide⟩ rfl rfl (Nat.le_of_ble_eq_true rfl) dX6_isTime_5 (fun r1 h => ?_)
  refine gd_if_eq (tgt := 42) X dX6_isTime_8 (by decide) (fun c2 => ?_) (fun c2 => ?_)
  · have h := h.1 c2
    exact w_X6_isTime_42 X hR _ _ _ _ h
  · have h := h.2 c2
    refine gd_iload_n X dX6_isTime_11 1 rfl ?_
    refine gd_iconst (v := 0) X dX6_isTime_12 (by decide) ?_
    refine gd_iconst (v := 1) X dX6_isTime_13 (by decide) ?_
    refine gd_callSr (As := [.int x1, .int 0, .int 1]) (rest := []) X lk_X6_47 (c_X6_in _ _ _ _ _ _ _ h) ⟨by decide, by decide⟩ rfl rfl (Nat.le_of_ble_eq_true rfl) dX6_isTime_14 (fun r3 h => ?_)
    refine gd_if_eq (tgt := 42) X dX6_isTime_17 (by decide) (fun c4 => ?_) (fun c4 => ?_)
    · have h := h.1 c4
      exact w_X6_isTime_42 X hR _ _ _ _ h
    · have h := h.2 c4
      refine gd_iload_n X dX6_isTime_20 2 rfl ?_
      refine gd_iconst (v := 0) X dX6_isTime_21 (by decide) ?_
      refine gd_iconst (v := 1) X dX6_isTime_22 (by decide) ?_
      refine gd_callSr (As := [.int x2, .int 0, .int 1]) (rest := []) X lk_X6_47 (c_X6_in _ _ _ _ _ _ _ h) ⟨by decide, by decide⟩ rfl rfl (Nat.le_of_ble_eq_true rfl) dX6_isTime_23 (fun r5 h => ?_)
      refine gd_if_eq (tgt := 42) X dX6_isTime_26 (by decide) (fun c6 => ?_) (fun c6 => ?_)
      · have h := h.1 c6
        exact w_X6_isTime_42 X hR _ _ _ _ h
      · have h := h.2 c6
        refine gd_iload_n X dX6_isTime_29 3 rfl ?_
        refine gd_iconst (v := 0) X dX6_isTime_30 (by decide) ?_
        refine gd_iconst (v := 1) X dX6_isTime_31 (by decide) ?_
        refine gd_callSr (As := [.int x3, .int 0, .int 1]) (rest := []) X lk_X6_47 (c_X6_in _ _ _ _ _ _ _ h) ⟨by decide, by decide⟩ rfl rfl (Nat.le_of_ble_eq_true rfl) dX6_isTime_32 (fun r7 h => ?_)
        refine gd_if_eq (tgt := 42) X dX6_isTime_35 (by decide) (fun c8 => ?_) (fun c8 => ?_)
        · have h := h.1 c8
          exact w_X6_isTime_42 X hR _ _ _ _ h
        · have h := h.2 c8
          refine gd_iconst (v := 1) X dX6_isTime_38 (by decide) ?_
          refine gd_goto (tgt := 43) X dX6_isTime_39 (by decide) ?_
          exact w_X6_isTime_43 X hR _ _ _ _ _ h
set_option maxRecDepth 100000 in
theorem c_X6_isTime {Sg : Type} (l : Launch) (E : EX Sg) (sg : Sg) (post : Int32 → Prop) (x0 x1 x2 x3 : Int32) (hB : B_X6_isTime_0 post x0 x1 x2 x3) : Mt l E yX6_isTime cX6_isTime 4 (some .boolean) 1 22 [.int x0, .int x1, .int x2, .int x3] sg (oR sg post) := mt_of (plainFor_of_name (by decide)) (Nat.le_of_ble_eq_true rfl) (fun b X hR => w_X6_isTime_0 X hR x0 x1 x2 x3 hB)
def B_X6_codeOf_0 (post : Int32 → Prop) (x0 x1 x2 x3 : Int32) : Prop :=
  post ((((8 * x0) + (4 * x1)) + (2 * x2)) + x3)
set_option maxRecDepth 100000 in
theorem w_X6_codeOf_0 {Sg : Type} {κ : KX Sg} {sg : Sg} {post : Int32 → Prop} (X : Cx κ cX6_codeOf RX6 4 0 0) (hR : Rx κ (some .int) (oR sg post)) (x0 x1 x2 x3 : Int32) (h : B_X6_codeOf_0 post x0 x1 x2 x3) : Gd κ 4 0 [(0, .int x0), (1, .int x1), (2, .int x2), (3, .int x3)] [] sg := by
  unfold B_X6_codeOf_0 at h
  refine gd_bipush (v := 8) X dX6_codeOf_0 (by decide) ?_
  refine gd_iload_n X dX6_codeOf_2 0 rfl ?_
  refine gd_imul X dX6_codeOf_3 ?_
  refine gd_iconst (v := 4) X dX6_codeOf_4 (by decide) ?_
  refine gd_iload_n X dX6_codeOf_5 1 rfl ?_
  refine gd_imul X dX6_codeOf_6 ?_
  refine gd_iadd X dX6_codeOf_7 ?_
  refine gd_iconst (v := 2) X dX6_codeOf_8 (by decide) ?_
  refine gd_iload_n X dX6_codeOf_9 2 rfl ?_
  refine gd_imul X dX6_codeOf_10 ?_
  refine gd_iadd X dX6_codeOf_11 ?_
  refine gd_iload_n X dX6_codeOf_12 3 rfl ?_
  refine gd_iadd X dX6_codeOf_13 ?_
  exact gd_iret X hR dX6_codeOf_14 ⟨_, rfl, rfl, h⟩
set_option maxRecDepth 100000 in
theorem c_X6_codeOf {Sg : Type} (l : Launch) (E : EX Sg) (sg : Sg) (post : Int32 → Prop) (x0 x1 x2 x3 : Int32) (hB : B_X6_codeOf_0 post x0 x1 x2 x3) : Mt l E yX6_codeOf cX6_codeOf 4 (some .int) 0 0 [.int x0, .int x1, .int x2, .int x3] sg (oR sg post) := mt_of (plainFor_of_name (by decide)) (Nat.le_of_ble_eq_true rfl) (fun b X hR => w_X6_codeOf_0 X hR x0 x1 x2 x3 hB)
def B_X6_partOf_40 (post : Int32 → Prop) (x0 x1 y0 : Int32) : Prop :=
  post y0
set_option maxRecDepth 100000 in
theorem w_X6_partOf_40 {Sg : Type} {κ : KX Sg} {sg : Sg} {post : Int32 → Prop} (X : Cx κ cX6_partOf RX6 2 0 0) (hR : Rx κ (some .int) (oR sg post)) (x0 x1 y0 : Int32) (h : B_X6_partOf_40 post x0 x1 y0) : Gd κ 2 40 [(0, .int x0), (1, .int x1)] [.int y0] sg := by
  unfold B_X6_partOf_40 at h
  exact gd_iret X hR dX6_partOf_40 ⟨_, rfl, rfl, h⟩
def B_X6_partOf_0 (post : Int32 → Prop) (x0 x1 : Int32) : Prop :=
  ((¬ x1 = 0) → ((¬ x1 = 1) → ((¬ x1 = 2) → B_X6_partOf_40 post x0 x1 ((jrem x0 2))) ∧ ((x1 = 2) → B_X6_partOf_40 post x0 x1 ((jrem (x0 / 2) 2)))) ∧ ((x1 = 1) → B_X6_partOf_40 post x0 x1 ((jrem (x0 / 4) 2)))) ∧ ((x1 = 0) → B_X6_partOf_40 post x0 x1 ((x0 / 8)))
set_option maxRecDepth 100000 in
theorem w_X6_partOf_0 {Sg : Type} {κ : KX Sg} {sg : Sg} {post : Int32 → Prop} (X : Cx κ cX6_partOf RX6 2 0 0) (hR : Rx κ (some .int) (oR sg post)) (x0 x1 : Int32) (h : B_X6_partOf_0 post x0 x1) : Gd κ 2 0 [(0, .int x0), (1, .int x1)] [] sg := by
  unfold B_X6_partOf_0 at h
  refine gd_iload_n X dX6_partOf_0 1 rfl ?_
  refine gd_if_ne (tgt := 11) X dX6_partOf_1 (by decide) (fun c1 => ?_) (fun c1 => ?_)
  · have h := h.1 c1
    refine gd_iload_n X dX6_partOf_11 1 rfl ?_
    refine gd_iconst (v := 1) X dX6_partOf_12 (by decide) ?_
    refine gd_icmp_ne (tgt := 24) X dX6_partOf_13 (by decide) (fun c2 => ?_) (fun c2 => ?_)
    · have h := h.1 c2
      refine gd_iload_n X dX6_partOf_24 1 rfl ?_
      refine gd_iconst (v := 2) X dX6_partOf_25 (by decide) ?_
      refine gd_icmp_ne (tgt := 37) X dX6_partOf_26 (by decide) (fun c3 => ?_) (fun c3 => ?_)
      · have h := h.1 c3
        refine gd_iload_n X dX6_partOf_37 0 rfl ?_
        refine gd_iconst (v := 2) X dX6_partOf_38 (by decide) ?_
        refine gd_jrem X dX6_partOf_39 (by decide) ?_
        exact w_X6_partOf_40 X hR _ _ _ h
      · have h := h.2 c3
        refine gd_iload_n X dX6_partOf_29 0 rfl ?_
        refine gd_iconst (v := 2) X dX6_partOf_30 (by decide) ?_
        refine gd_idiv X dX6_partOf_31 (by decide) ?_
        refine gd_iconst (v := 2) X dX6_partOf_32 (by decide) ?_
        refine gd_jrem X dX6_partOf_33 (by decide) ?_
        refine gd_goto (tgt := 40) X dX6_partOf_34 (by decide) ?_
        exact w_X6_partOf_40 X hR _ _ _ h
    · have h := h.2 c2
      refine gd_iload_n X dX6_partOf_16 0 rfl ?_
      refine gd_iconst (v := 4) X dX6_partOf_17 (by decide) ?_
      refine gd_idiv X dX6_partOf_18 (by decide) ?_
      refine gd_iconst (v := 2) X dX6_partOf_19 (by decide) ?_
      refine gd_jrem X dX6_partOf_20 (by decide) ?_
      refine gd_goto (tgt := 40) X dX6_partOf_21 (by decide) ?_
      exact w_X6_partOf_40 X hR _ _ _ h
  · have h := h.2 c1
    refine gd_iload_n X dX6_partOf_4 0 rfl ?_
    refine gd_bipush (v := 8) X dX6_partOf_5 (by decide) ?_
    refine gd_idiv X dX6_partOf_7 (by decide) ?_
    refine gd_goto (tgt := 40) X dX6_partOf_8 (by decide) ?_
    exact w_X6_partOf_40 X hR _ _ _ h
set_option maxRecDepth 100000 in
theorem c_X6_partOf {Sg : Type} (l : Launch) (E : EX Sg) (sg : Sg) (post : Int32 → Prop) (x0 x1 : Int32) (hB : B_X6_partOf_0 post x0 x1) : Mt l E yX6_partOf cX6_partOf 2 (some .int) 0 0 [.int x0, .int x1] sg (oR sg post) := mt_of (plainFor_of_name (by decide)) (Nat.le_of_ble_eq_true rfl) (fun b X hR => w_X6_partOf_0 X hR x0 x1 hB)
