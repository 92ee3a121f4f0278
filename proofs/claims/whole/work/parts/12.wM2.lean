def B_X6_hears_70 (post : Int32 → SG → Prop) (x1 y0 : Int32) (g : SG) : Prop :=
  B_X6_comes_0 (fun g1 => post (g1 1 0) g1) y0 g
set_option maxRecDepth 100000 in
theorem w_X6_hears_70 {b : BX} {D : va_G} {A : Nat → Prop} {cy : Nat → ClassId} {ad : Nat → Nat} {post : Int32 → SG → Prop} (X : Cx (kM b D A cy ad) cX6_hears RX6 2 1 22) (hR : Rx (kM b D A cy ad) (some .int) (oI post)) (x1 y0 : Int32) (g : SG) (h : B_X6_hears_70 post x1 y0 g) : Gd (kM b D A cy ad) 2 70 [(0, .ref (ad 0)), (1, .int x1)] [.int y0, .ref (ad 0)] g := by
  unfold B_X6_hears_70 at h
  refine gd_callVv (As := [.int y0]) (rest := []) X lk_X6_65 (c_X6_comes _ _ _ _ _ _ _ _ h) 0 rfl rfl ⟨by decide, by decide⟩ rfl rfl (Nat.le_of_ble_eq_true rfl) dX6_hears_70 (fun g1 h => ?_)
  refine gd_aload_n X dX6_hears_73 0 rfl ?_
  refine gX6_7 X dX6_hears_74 ?_
  refine gd_iconst (v := 0) X dX6_hears_77 (by decide) ?_
  refine al_M1 X vi_0_126 0 tc_0 dX6_hears_78 ?_
  exact gd_iret X hR dX6_hears_79 ⟨_, rfl, h⟩
def B_X6_hears_0 (post : Int32 → SG → Prop) (x1 : Int32) (g : SG) : Prop :=
  B_X6_in_0 (fun r1 => ((¬ r1 = 0) → ((¬ (g 1 0) = 120) → B_X6_remember_0 (fun g4 => ((¬ x1 = 0) → B_X6_in_0 (fun r6 => ((r6 = 0) → B_X6_in_0 (fun r8 => ((r8 = 0) → B_X6_hears_70 post x1 2 g4) ∧ ((¬ r8 = 0) → B_X6_hears_70 post x1 1 g4)) x1 18 22) ∧ ((¬ r6 = 0) → B_X6_hears_70 post x1 0 g4)) x1 8 12) ∧ ((x1 = 0) → B_X6_hears_70 post x1 3 g4)) g) ∧ (((g 1 0) = 120) → post (-3) g)) ∧ ((r1 = 0) → post (-1) g)) x1 0 30
set_option maxRecDepth 100000 in
theorem w_X6_hears_0 {b : BX} {D : va_G} {A : Nat → Prop} {cy : Nat → ClassId} {ad : Nat → Nat} {post : Int32 → SG → Prop} (X : Cx (kM b D A cy ad) cX6_hears RX6 2 1 22) (hR : Rx (kM b D A cy ad) (some .int) (oI post)) (x1 : Int32) (g : SG) (h : B_X6_hears_0 post x1 g) : Gd (kM b D A cy ad) 2 0 [(0, .ref (ad 0)), (1, .int x1)] [] g := by
  unfold B_X6_hears_0 at h
  refine gd_iload_n X dX6_hears_0 1 rfl ?_
  refine gd_iconst (v := 0) X dX6_hears_1 (by decide) ?_
  refine gd_bipush (v := 30) X dX6_hears_2 (by decide) ?_
  refine gd_callSr (As := [.int x1, .int 0, .int 30]) (rest := []) X lk_X6_47 (c_X6_in _ _ _ _ _ _ _ h) ⟨by decide, by decide⟩ rfl rfl (Nat.le_of_ble_eq_true rfl) dX6_hears_4 (fun r1 h => ?_)
  refine gd_if_ne (tgt := 12) X dX6_hears_7 (by decide) (fun c2 => ?_) (fun c2 => ?_)
  · have h := h.1 c2
    refine gd_aload_n X dX6_hears_12 0 rfl ?_
    refine gX6_7 X dX6_hears_13 ?_
    refine gd_iconst (v := 0) X dX6_hears_16 (by decide) ?_
    refine al_M1 X vi_0_126 0 tc_0 dX6_hears_17 ?_
    refine gd_bipush (v := 120) X dX6_hears_18 (by decide) ?_
    refine gd_icmp_ne (tgt := 26) X dX6_hears_20 (by decide) (fun c3 => ?_) (fun c3 => ?_)
    · have h := h.1 c3
      refine gd_aload_n X dX6_hears_26 0 rfl ?_
      refine gd_callVv (As := []) (rest := []) X lk_X6_62 (c_X6_remember _ _ _ _ _ _ _ h) 0 rfl rfl ⟨by decide, by decide⟩ rfl rfl (Nat.le_of_ble_eq_true rfl) dX6_hears_27 (fun g4 h => ?_)
      refine gd_aload_n X dX6_hears_30 0 rfl ?_
      refine gd_iload_n X dX6_hears_31 1 rfl ?_
      refine gd_if_ne (tgt := 39) X dX6_hears_32 (by decide) (fun c5 => ?_) (fun c5 => ?_)
      · have h := h.1 c5
        refine gd_iload_n X dX6_hears_39 1 rfl ?_
        refine gd_bipush (v := 8) X dX6_hears_40 (by decide) ?_
        refine gd_bipush (v := 12) X dX6_hears_42 (by decide) ?_
        refine gd_callSr (As := [.int x1, .int 8, .int 12]) (rest := [.ref (ad 0)]) X lk_X6_47 (c_X6_in _ _ _ _ _ _ _ h) ⟨by decide, by decide⟩ rfl rfl (Nat.le_of_ble_eq_true rfl) dX6_hears_44 (fun r6 h => ?_)
        refine gd_if_eq (tgt := 54) X dX6_hears_47 (by decide) (fun c7 => ?_) (fun c7 => ?_)
        · have h := h.1 c7
          refine gd_iload_n X dX6_hears_54 1 rfl ?_
          refine gd_bipush (v := 18) X dX6_hears_55 (by decide) ?_
          refine gd_bipush (v := 22) X dX6_hears_57 (by decide) ?_
          refine gd_callSr (As := [.int x1, .int 18, .int 22]) (rest := [.ref (ad 0)]) X lk_X6_47 (c_X6_in _ _ _ _ _ _ _ h) ⟨by decide, by decide⟩ rfl rfl (Nat.le_of_ble_eq_true rfl) dX6_hears_59 (fun r8 h => ?_)
          refine gd_if_eq (tgt := 69) X dX6_hears_62 (by decide) (fun c9 => ?_) (fun c9 => ?_)
          · have h := h.1 c9
            refine gd_iconst (v := 2) X dX6_hears_69 (by decide) ?_
            exact w_X6_hears_70 X hR _ _ _ h
          · have h := h.2 c9
            refine gd_iconst (v := 1) X dX6_hears_65 (by decide) ?_
            refine gd_goto (tgt := 70) X dX6_hears_66 (by decide) ?_
            exact w_X6_hears_70 X hR _ _ _ h
        · have h := h.2 c7
          refine gd_iconst (v := 0) X dX6_hears_50 (by decide) ?_
          refine gd_goto (tgt := 70) X dX6_hears_51 (by decide) ?_
          exact w_X6_hears_70 X hR _ _ _ h
      · have h := h.2 c5
        refine gd_iconst (v := 3) X dX6_hears_35 (by decide) ?_
        refine gd_goto (tgt := 70) X dX6_hears_36 (by decide) ?_
        exact w_X6_hears_70 X hR _ _ _ h
    · have h := h.2 c3
      refine gd_bipush (v := (-3)) X dX6_hears_23 (by decide) ?_
      exact gd_iret X hR dX6_hears_25 ⟨_, rfl, h⟩
  · have h := h.2 c2
    refine gd_iconst (v := (-1)) X dX6_hears_10 (by decide) ?_
    exact gd_iret X hR dX6_hears_11 ⟨_, rfl, h⟩
set_option maxRecDepth 100000 in
theorem c_X6_hears (l : Launch) (D : va_G) (A : Nat → Prop) (cy : Nat → ClassId) (ad : Nat → Nat) (post : Int32 → SG → Prop) (x1 : Int32) (g : SG) (hB : B_X6_hears_0 post x1 g) : Mt l (eM D A cy ad) yX6_hears cX6_hears 2 (some .int) 1 22 [.ref (ad 0), .int x1] g (oI post) := mt_of (plainFor_of_name (by decide)) (Nat.le_of_ble_eq_true rfl) (fun b X hR => w_X6_hears_0 X hR x1 g hB)
def B_X6_frames_20 (post : Int32 → SG → Prop) (x1 x2 : Int32) (g : SG) : Prop :=
  post (-1) g
set_option maxRecDepth 100000 in
theorem w_X6_frames_20 {b : BX} {D : va_G} {A : Nat → Prop} {cy : Nat → ClassId} {ad : Nat → Nat} {post : Int32 → SG → Prop} (X : Cx (kM b D A cy ad) cX6_frames RX6 4 1 22) (hR : Rx (kM b D A cy ad) (some .int) (oI post)) (x1 x2 : Int32) (g : SG) (h : B_X6_frames_20 post x1 x2 g) : Gd (kM b D A cy ad) 4 20 [(0, .ref (ad 0)), (1, .int x1), (2, .int x2)] [] g := by
  unfold B_X6_frames_20 at h
  refine gd_iconst (v := (-1)) X dX6_frames_20 (by decide) ?_
  exact gd_iret X hR dX6_frames_21 ⟨_, rfl, h⟩
def B_X6_frames_79 (post : Int32 → SG → Prop) (k47 : Int32 → Int32 → Int32 → SG → Prop) (x1 x2 x3 y0 : Int32) (g : SG) : Prop :=
  B_X6_comes_0 (fun g1 => ∀ z2 : Int32, z2 = x3 + 1 → k47 x1 x2 z2 g1) y0 g
set_option maxRecDepth 100000 in
theorem w_X6_frames_79 {b : BX} {D : va_G} {A : Nat → Prop} {cy : Nat → ClassId} {ad : Nat → Nat} {post : Int32 → SG → Prop} {k47 : Int32 → Int32 → Int32 → SG → Prop} (X : Cx (kM b D A cy ad) cX6_frames RX6 4 1 22) (hR : Rx (kM b D A cy ad) (some .int) (oI post)) (hk47 : ∀ (x1 x2 x3 : Int32) (g : SG), k47 x1 x2 x3 g → Gd (kM b D A cy ad) 4 47 [(0, .ref (ad 0)), (1, .int x1), (2, .int x2), (3, .int x3)] [] g) (x1 x2 x3 y0 : Int32) (g : SG) (h : B_X6_frames_79 post k47 x1 x2 x3 y0 g) : Gd (kM b D A cy ad) 4 79 [(0, .ref (ad 0)), (1, .int x1), (2, .int x2), (3, .int x3)] [.int y0, .ref (ad 0)] g := by
  unfold B_X6_frames_79 at h
  refine gd_callVv (As := [.int y0]) (rest := []) X lk_X6_65 (c_X6_comes _ _ _ _ _ _ _ _ h) 0 rfl rfl ⟨by decide, by decide⟩ rfl rfl (Nat.le_of_ble_eq_true rfl) dX6_frames_79 (fun g1 h => ?_)
  refine gd_incn X 3 1 dX6_frames_82 rfl (by decide) (by decide) (fun z2 => [(3, .int z2), (0, .ref (ad 0)), (1, .int x1), (2, .int x2)]) (fun _ => rfl) (fun z2 ez2 => ?_)
  have h := h z2 ez2
  refine gd_goto (tgt := 47) X dX6_frames_85 (by decide) ?_
  refine gd_sub [1, 2, 3, 0] rfl ?_
  exact hk47 _ _ _ _ h
def B_X6_frames_47 (post : Int32 → SG → Prop) (k47 : Int32 → Int32 → Int32 → SG → Prop) (x1 x2 x3 : Int32) (g : SG) : Prop :=
  ((19 ≤ x3) → B_X6_comes_0 (fun g2 => post (g2 1 0) g2) 3 g) ∧ ((¬ 19 ≤ x3) → B_X6_has_0 (fun r3 => ((r3 = 0) → B_X6_has_0 (fun r5 => ((r5 = 0) → B_X6_frames_79 post k47 x1 x2 x3 0 g) ∧ ((¬ r5 = 0) → B_X6_frames_79 post k47 x1 x2 x3 1 g)) x1 x3) ∧ ((¬ r3 = 0) → B_X6_frames_79 post k47 x1 x2 x3 2 g)) x2 x3)
set_option maxRecDepth 100000 in
theorem w_X6_frames_47 {b : BX} {D : va_G} {A : Nat → Prop} {cy : Nat → ClassId} {ad : Nat → Nat} {post : Int32 → SG → Prop} {k47 : Int32 → Int32 → Int32 → SG → Prop} (X : Cx (kM b D A cy ad) cX6_frames RX6 4 1 22) (hR : Rx (kM b D A cy ad) (some .int) (oI post)) (hk47 : ∀ (x1 x2 x3 : Int32) (g : SG), k47 x1 x2 x3 g → Gd (kM b D A cy ad) 4 47 [(0, .ref (ad 0)), (1, .int x1), (2, .int x2), (3, .int x3)] [] g) (x1 x2 x3 : Int32) (g : SG) (h : B_X6_frames_47 post k47 x1 x2 x3 g) : Gd (kM b D A cy ad) 4 47 [(0, .ref (ad 0)), (1, .int x1), (2, .int x2), (3, .int x3)] [] g := by
  unfold B_X6_frames_47 at h
  refine gd_iload_n X dX6_frames_47 3 rfl ?_
  refine gd_bipush (v := 19) X dX6_frames_48 (by decide) ?_
  refine gd_icmp_ge (tgt := 88) X dX6_frames_50 (by decide) (fun c1 => ?_) (fun c1 => ?_)
  · have h := h.1 c1
    refine gd_aload_n X dX6_frames_88 0 rfl ?_
    refine gd_iconst (v := 3) X dX6_frames_89 (by decide) ?_
    refine gd_callVv (As := [.int 3]) (rest := []) X lk_X6_65 (c_X6_comes _ _ _ _ _ _ _ _ h) 0 rfl rfl ⟨by decide, by decide⟩ rfl rfl (Nat.le_of_ble_eq_true rfl) dX6_frames_90 (fun g2 h => ?_)
    refine gd_aload_n X dX6_frames_93 0 rfl ?_
    refine gX6_7 X dX6_frames_94 ?_
    refine gd_iconst (v := 0) X dX6_frames_97 (by decide) ?_
    refine al_M1 X vi_0_126 0 tc_0 dX6_frames_98 ?_
    exact gd_iret X hR dX6_frames_99 ⟨_, rfl, h⟩
  · have h := h.2 c1
    refine gd_aload_n X dX6_frames_53 0 rfl ?_
    refine gd_iload_n X dX6_frames_54 2 rfl ?_
    refine gd_iload_n X dX6_frames_55 3 rfl ?_
    refine gd_callSr (As := [.int x2, .int x3]) (rest := [.ref (ad 0)]) X lk_X6_32 (c_X6_has _ _ _ _ _ _ h) ⟨by decide, by decide⟩ rfl rfl (Nat.le_of_ble_eq_true rfl) dX6_frames_56 (fun r3 h => ?_)
    refine gd_if_eq (tgt := 66) X dX6_frames_59 (by decide) (fun c4 => ?_) (fun c4 => ?_)
    · have h := h.1 c4
      refine gd_iload_n X dX6_frames_66 1 rfl ?_
      refine gd_iload_n X dX6_frames_67 3 rfl ?_
      refine gd_callSr (As := [.int x1, .int x3]) (rest := [.ref (ad 0)]) X lk_X6_32 (c_X6_has _ _ _ _ _ _ h) ⟨by decide, by decide⟩ rfl rfl (Nat.le_of_ble_eq_true rfl) dX6_frames_68 (fun r5 h => ?_)
      refine gd_if_eq (tgt := 78) X dX6_frames_71 (by decide) (fun c6 => ?_) (fun c6 => ?_)
      · have h := h.1 c6
        refine gd_iconst (v := 0) X dX6_frames_78 (by decide) ?_
        exact w_X6_frames_79 X hR hk47 _ _ _ _ _ h
      · have h := h.2 c6
        refine gd_iconst (v := 1) X dX6_frames_74 (by decide) ?_
        refine gd_goto (tgt := 79) X dX6_frames_75 (by decide) ?_
        exact w_X6_frames_79 X hR hk47 _ _ _ _ _ h
    · have h := h.2 c4
      refine gd_iconst (v := 2) X dX6_frames_62 (by decide) ?_
      refine gd_goto (tgt := 79) X dX6_frames_63 (by decide) ?_
      exact w_X6_frames_79 X hR hk47 _ _ _ _ _ h
def P_X6_frames_47 (post : Int32 → SG → Prop) (n : Nat) : Int32 → Int32 → Int32 → SG → Prop := Nat.rec (motive := fun _ => Int32 → Int32 → Int32 → SG → Prop) (fun _ _ _ _ => False) (fun _ kk x1 x2 x3 g => B_X6_frames_47 post kk x1 x2 x3 g) n
set_option maxRecDepth 100000 in
theorem wL_X6_frames_47 {b : BX} {D : va_G} {A : Nat → Prop} {cy : Nat → ClassId} {ad : Nat → Nat} {post : Int32 → SG → Prop} (X : Cx (kM b D A cy ad) cX6_frames RX6 4 1 22) (hR : Rx (kM b D A cy ad) (some .int) (oI post)) : ∀ (n : Nat) (x1 x2 x3 : Int32) (g : SG), P_X6_frames_47 post n x1 x2 x3 g → Gd (kM b D A cy ad) 4 47 [(0, .ref (ad 0)), (1, .int x1), (2, .int x2), (3, .int x3)] [] g := by
  intro n
  induction n with
  | zero => intro x1 x2 x3 g h; exact h.elim
  | succ n ih => intro x1 x2 x3 g h; exact w_X6_frames_47 X hR ih x1 x2 x3 g h
def B_X6_frames_0 (post : Int32 → SG → Prop) (x1 x2 : Int32) (g : SG) : Prop :=
  B_X6_in_0 (fun r1 => ((r1 = 0) → B_X6_frames_20 post x1 x2 g) ∧ ((¬ r1 = 0) → B_X6_in_0 (fun r3 => ((¬ r3 = 0) → (((((g 1 0) + 19) + 1) ≤ 120) → B_X6_remember_0 (fun g6 => ∃ n : Nat, P_X6_frames_47 post n x1 x2 0 g6) g) ∧ ((¬ (((g 1 0) + 19) + 1) ≤ 120) → post (-3) g)) ∧ ((r3 = 0) → B_X6_frames_20 post x1 x2 g)) x2 0 524287)) x1 0 524287
set_option maxRecDepth 100000 in
theorem w_X6_frames_0 {b : BX} {D : va_G} {A : Nat → Prop} {cy : Nat → ClassId} {ad : Nat → Nat} {post : Int32 → SG → Prop} (X : Cx (kM b D A cy ad) cX6_frames RX6 4 1 22) (hR : Rx (kM b D A cy ad) (some .int) (oI post)) (x1 x2 : Int32) (g : SG) (h : B_X6_frames_0 post x1 x2 g) : Gd (kM b D A cy ad) 4 0 [(0, .ref (ad 0)), (1, .int x1), (2, .int x2)] [] g := by
  unfold B_X6_frames_0 at h
  refine gd_iload_n X dX6_frames_0 1 rfl ?_
  refine gd_iconst (v := 0) X dX6_frames_1 (by decide) ?_
  refine gd_ldc (v := 524287) X q_516 dX6_frames_2 ?_
  refine gd_callSr (As := [.int x1, .int 0, .int 524287]) (rest := []) X lk_X6_47 (c_X6_in _ _ _ _ _ _ _ h) ⟨by decide, by decide⟩ rfl rfl (Nat.le_of_ble_eq_true rfl) dX6_frames_4 (fun r1 h => ?_)
  refine gd_if_eq (tgt := 20) X dX6_frames_7 (by decide) (fun c2 => ?_) (fun c2 => ?_)
  · have h := h.1 c2
    exact w_X6_frames_20 X hR _ _ _ h
  · have h := h.2 c2
    refine gd_iload_n X dX6_frames_10 2 rfl ?_
    refine gd_iconst (v := 0) X dX6_frames_11 (by decide) ?_
    refine gd_ldc (v := 524287) X q_516 dX6_frames_12 ?_
    refine gd_callSr (As := [.int x2, .int 0, .int 524287]) (rest := []) X lk_X6_47 (c_X6_in _ _ _ _ _ _ _ h) ⟨by decide, by decide⟩ rfl rfl (Nat.le_of_ble_eq_true rfl) dX6_frames_14 (fun r3 h => ?_)
    refine gd_if_ne (tgt := 22) X dX6_frames_17 (by decide) (fun c4 => ?_) (fun c4 => ?_)
    · have h := h.1 c4
      refine gd_aload_n X dX6_frames_22 0 rfl ?_
      refine gX6_7 X dX6_frames_23 ?_
      refine gd_iconst (v := 0) X dX6_frames_26 (by decide) ?_
      refine al_M1 X vi_0_126 0 tc_0 dX6_frames_27 ?_
      refine gd_bipush (v := 19) X dX6_frames_28 (by decide) ?_
      refine gd_iadd X dX6_frames_30 ?_
      refine gd_iconst (v := 1) X dX6_frames_31 (by decide) ?_
      refine gd_iadd X dX6_frames_32 ?_
      refine gd_bipush (v := 120) X dX6_frames_33 (by decide) ?_
      refine gd_icmp_le (tgt := 41) X dX6_frames_35 (by decide) (fun c5 => ?_) (fun c5 => ?_)
      · have h := h.1 c5
        refine gd_aload_n X dX6_frames_41 0 rfl ?_
        refine gd_callVv (As := []) (rest := []) X lk_X6_62 (c_X6_remember _ _ _ _ _ _ _ h) 0 rfl rfl ⟨by decide, by decide⟩ rfl rfl (Nat.le_of_ble_eq_true rfl) dX6_frames_42 (fun g6 h => ?_)
        refine gd_iconst (v := 0) X dX6_frames_45 (by decide) ?_
        refine gd_istore_n (lv' := [(3, .int 0), (0, .ref (ad 0)), (1, .int x1), (2, .int x2)]) X dX6_frames_46 (by decide) rfl ?_
        refine gd_sub [1, 2, 3, 0] rfl ?_
        obtain ⟨n, h⟩ := h
        exact wL_X6_frames_47 X hR n _ _ _ _ h
      · have h := h.2 c5
        refine gd_bipush (v := (-3)) X dX6_frames_38 (by decide) ?_
        exact gd_iret X hR dX6_frames_40 ⟨_, rfl, h⟩
    · have h := h.2 c4
      exact w_X6_frames_20 X hR _ _ _ h
set_option maxRecDepth 100000 in
theorem c_X6_frames (l : Launch) (D : va_G) (A : Nat → Prop) (cy : Nat → ClassId) (ad : Nat → Nat) (post : Int32 → SG → Prop) (x1 x2 : Int32) (g : SG) (hB : B_X6_frames_0 post x1 x2 g) : Mt l (eM D A cy ad) yX6_frames cX6_frames 4 (some .int) 1 22 [.ref (ad 0), .int x1, .int x2] g (oI post) := mt_of (plainFor_of_name (by decide)) (Nat.le_of_ble_eq_true rfl) (fun b X hR => w_X6_frames_0 X hR x1 x2 g hB)
def B_X6_loses_32 (post : Int32 → SG → Prop) (k32 : Int32 → Int32 → SG → Prop) (x1 x2 : Int32) (g : SG) : Prop :=
  (((g 1 0) ≤ x2) → post (g 1 0) g) ∧ ((¬ (g 1 0) ≤ x2) → vp_in ((6 + x2) + x1) 126 ∧ (vp_in (6 + x2) 126 ∧ (∀ g2 : SG, g2 = sput g 1 (6 + x2).toNatClampNeg (g 1 ((6 + x2) + x1).toNatClampNeg) → ∀ z3 : Int32, z3 = x2 + 1 → k32 x1 z3 g2)))
set_option maxRecDepth 100000 in
theorem w_X6_loses_32 {b : BX} {D : va_G} {A : Nat → Prop} {cy : Nat → ClassId} {ad : Nat → Nat} {post : Int32 → SG → Prop} {k32 : Int32 → Int32 → SG → Prop} (X : Cx (kM b D A cy ad) cX6_loses RX6 3 1 22) (hR : Rx (kM b D A cy ad) (some .int) (oI post)) (hk32 : ∀ (x1 x2 : Int32) (g : SG), k32 x1 x2 g → Gd (kM b D A cy ad) 3 32 [(0, .ref (ad 0)), (1, .int x1), (2, .int x2)] [] g) (x1 x2 : Int32) (g : SG) (h : B_X6_loses_32 post k32 x1 x2 g) : Gd (kM b D A cy ad) 3 32 [(0, .ref (ad 0)), (1, .int x1), (2, .int x2)] [] g := by
  unfold B_X6_loses_32 at h
  refine gd_iload_n X dX6_loses_32 2 rfl ?_
  refine gd_aload_n X dX6_loses_33 0 rfl ?_
  refine gX6_7 X dX6_loses_34 ?_
  refine gd_iconst (v := 0) X dX6_loses_37 (by decide) ?_
  refine al_M1 X vi_0_126 0 tc_0 dX6_loses_38 ?_
  refine gd_icmp_ge (tgt := 68) X dX6_loses_39 (by decide) (fun c1 => ?_) (fun c1 => ?_)
  · have h := h.1 c1
    refine gd_aload_n X dX6_loses_68 0 rfl ?_
    refine gX6_7 X dX6_loses_69 ?_
    refine gd_iconst (v := 0) X dX6_loses_72 (by decide) ?_
    refine al_M1 X vi_0_126 0 tc_0 dX6_loses_73 ?_
    exact gd_iret X hR dX6_loses_74 ⟨_, rfl, h⟩
  · have h := h.2 c1
    refine gd_aload_n X dX6_loses_42 0 rfl ?_
    refine gX6_7 X dX6_loses_43 ?_
    refine gd_bipush (v := 6) X dX6_loses_46 (by decide) ?_
    refine gd_iload_n X dX6_loses_48 2 rfl ?_
    refine gd_iadd X dX6_loses_49 ?_
    refine gd_aload_n X dX6_loses_50 0 rfl ?_
    refine gX6_7 X dX6_loses_51 ?_
    refine gd_bipush (v := 6) X dX6_loses_54 (by decide) ?_
    refine gd_iload_n X dX6_loses_56 2 rfl ?_
    refine gd_iadd X dX6_loses_57 ?_
    refine gd_iload_n X dX6_loses_58 1 rfl ?_
    refine gd_iadd X dX6_loses_59 ?_
    refine al_M1 X h.1 _ rfl dX6_loses_60 ?_
    have h := h.2
    refine as_M1 X h.1 _ rfl dX6_loses_61 (fun g2 eg2 => ?_)
    have h := h.2 g2 eg2
    refine gd_incn X 2 1 dX6_loses_62 rfl (by decide) (by decide) (fun z3 => [(2, .int z3), (0, .ref (ad 0)), (1, .int x1)]) (fun _ => rfl) (fun z3 ez3 => ?_)
    have h := h z3 ez3
    refine gd_goto (tgt := 32) X dX6_loses_65 (by decide) ?_
    refine gd_sub [1, 2, 0] rfl ?_
    exact hk32 _ _ _ h
def P_X6_loses_32 (post : Int32 → SG → Prop) (n : Nat) : Int32 → Int32 → SG → Prop := Nat.rec (motive := fun _ => Int32 → Int32 → SG → Prop) (fun _ _ _ => False) (fun _ kk x1 x2 g => B_X6_loses_32 post kk x1 x2 g) n
set_option maxRecDepth 100000 in
theorem wL_X6_loses_32 {b : BX} {D : va_G} {A : Nat → Prop} {cy : Nat → ClassId} {ad : Nat → Nat} {post : Int32 → SG → Prop} (X : Cx (kM b D A cy ad) cX6_loses RX6 3 1 22) (hR : Rx (kM b D A cy ad) (some .int) (oI post)) : ∀ (n : Nat) (x1 x2 : Int32) (g : SG), P_X6_loses_32 post n x1 x2 g → Gd (kM b D A cy ad) 3 32 [(0, .ref (ad 0)), (1, .int x1), (2, .int x2)] [] g := by
  intro n
  induction n with
  | zero => intro x1 x2 g h; exact h.elim
  | succ n ih => intro x1 x2 g h; exact w_X6_loses_32 X hR ih x1 x2 g h
def B_X6_loses_0 (post : Int32 → SG → Prop) (x1 : Int32) (g : SG) : Prop :=
  B_X6_in_0 (fun r1 => ((¬ r1 = 0) → B_X6_remember_0 (fun g3 => ∀ g4 : SG, g4 = sput g3 1 0 ((g3 1 0) - x1) → ∃ n : Nat, P_X6_loses_32 post n x1 0 g4) g) ∧ ((r1 = 0) → post (-1) g)) x1 1 (g 1 0)
set_option maxRecDepth 100000 in
theorem w_X6_loses_0 {b : BX} {D : va_G} {A : Nat → Prop} {cy : Nat → ClassId} {ad : Nat → Nat} {post : Int32 → SG → Prop} (X : Cx (kM b D A cy ad) cX6_loses RX6 3 1 22) (hR : Rx (kM b D A cy ad) (some .int) (oI post)) (x1 : Int32) (g : SG) (h : B_X6_loses_0 post x1 g) : Gd (kM b D A cy ad) 3 0 [(0, .ref (ad 0)), (1, .int x1)] [] g := by
  unfold B_X6_loses_0 at h
  refine gd_iload_n X dX6_loses_0 1 rfl ?_
  refine gd_iconst (v := 1) X dX6_loses_1 (by decide) ?_
  refine gd_aload_n X dX6_loses_2 0 rfl ?_
  refine gX6_7 X dX6_loses_3 ?_
  refine gd_iconst (v := 0) X dX6_loses_6 (by decide) ?_
  refine al_M1 X vi_0_126 0 tc_0 dX6_loses_7 ?_
  refine gd_callSr (As := [.int x1, .int 1, .int ((g 1 0))]) (rest := []) X lk_X6_47 (c_X6_in _ _ _ _ _ _ _ h) ⟨by decide, by decide⟩ rfl rfl (Nat.le_of_ble_eq_true rfl) dX6_loses_8 (fun r1 h => ?_)
  refine gd_if_ne (tgt := 16) X dX6_loses_11 (by decide) (fun c2 => ?_) (fun c2 => ?_)
  · have h := h.1 c2
    refine gd_aload_n X dX6_loses_16 0 rfl ?_
    refine gd_callVv (As := []) (rest := []) X lk_X6_62 (c_X6_remember _ _ _ _ _ _ _ h) 0 rfl rfl ⟨by decide, by decide⟩ rfl rfl (Nat.le_of_ble_eq_true rfl) dX6_loses_17 (fun g3 h => ?_)
    refine gd_aload_n X dX6_loses_20 0 rfl ?_
    refine gX6_7 X dX6_loses_21 ?_
    refine gd_iconst (v := 0) X dX6_loses_24 (by decide) ?_
    refine gd_dup2 X dX6_loses_25 rfl rfl ?_
    refine al_M1 X vi_0_126 0 tc_0 dX6_loses_26 ?_
    refine gd_iload_n X dX6_loses_27 1 rfl ?_
    refine gd_isub X dX6_loses_28 ?_
    refine as_M1 X vi_0_126 0 tc_0 dX6_loses_29 (fun g4 eg4 => ?_)
    have h := h g4 eg4
    refine gd_iconst (v := 0) X dX6_loses_30 (by decide) ?_
    refine gd_istore_n (lv' := [(2, .int 0), (0, .ref (ad 0)), (1, .int x1)]) X dX6_loses_31 (by decide) rfl ?_
    refine gd_sub [1, 2, 0] rfl ?_
    obtain ⟨n, h⟩ := h
    exact wL_X6_loses_32 X hR n _ _ _ h
  · have h := h.2 c2
    refine gd_iconst (v := (-1)) X dX6_loses_14 (by decide) ?_
    exact gd_iret X hR dX6_loses_15 ⟨_, rfl, h⟩
set_option maxRecDepth 100000 in
theorem c_X6_loses (l : Launch) (D : va_G) (A : Nat → Prop) (cy : Nat → ClassId) (ad : Nat → Nat) (post : Int32 → SG → Prop) (x1 : Int32) (g : SG) (hB : B_X6_loses_0 post x1 g) : Mt l (eM D A cy ad) yX6_loses cX6_loses 3 (some .int) 1 22 [.ref (ad 0), .int x1] g (oI post) := mt_of (plainFor_of_name (by decide)) (Nat.le_of_ble_eq_true rfl) (fun b X hR => w_X6_loses_0 X hR x1 g hB)
def B_X6_needs_20 (post : Int32 → SG → Prop) (x1 y0 : Int32) (g : SG) : Prop :=
  post y0 g
set_option maxRecDepth 100000 in
theorem w_X6_needs_20 {b : BX} {D : va_G} {A : Nat → Prop} {cy : Nat → ClassId} {ad : Nat → Nat} {post : Int32 → SG → Prop} (X : Cx (kM b D A cy ad) cX6_needs RX6 2 2 44) (hR : Rx (kM b D A cy ad) (some .int) (oI post)) (x1 y0 : Int32) (g : SG) (h : B_X6_needs_20 post x1 y0 g) : Gd (kM b D A cy ad) 2 20 [(0, .ref (ad 0)), (1, .int x1)] [.int y0] g := by
  unfold B_X6_needs_20 at h
  exact gd_iret X hR dX6_needs_20 ⟨_, rfl, h⟩
def B_X6_needs_0 (post : Int32 → SG → Prop) (x1 : Int32) (g : SG) : Prop :=
  B_X6_in_0 (fun r1 => ((r1 = 0) → B_X6_needs_20 post x1 (-1) g) ∧ ((¬ r1 = 0) → B_X6_becomes_0 (fun r3 g4 => B_X6_needs_20 post x1 r3 g4) 1 x1 g)) x1 1 9
set_option maxRecDepth 100000 in
theorem w_X6_needs_0 {b : BX} {D : va_G} {A : Nat → Prop} {cy : Nat → ClassId} {ad : Nat → Nat} {post : Int32 → SG → Prop} (X : Cx (kM b D A cy ad) cX6_needs RX6 2 2 44) (hR : Rx (kM b D A cy ad) (some .int) (oI post)) (x1 : Int32) (g : SG) (h : B_X6_needs_0 post x1 g) : Gd (kM b D A cy ad) 2 0 [(0, .ref (ad 0)), (1, .int x1)] [] g := by
  unfold B_X6_needs_0 at h
  refine gd_iload_n X dX6_needs_0 1 rfl ?_
  refine gd_iconst (v := 1) X dX6_needs_1 (by decide) ?_
  refine gd_bipush (v := 9) X dX6_needs_2 (by decide) ?_
  refine gd_callSr (As := [.int x1, .int 1, .int 9]) (rest := []) X lk_X6_47 (c_X6_in _ _ _ _ _ _ _ h) ⟨by decide, by decide⟩ rfl rfl (Nat.le_of_ble_eq_true rfl) dX6_needs_4 (fun r1 h => ?_)
  refine gd_if_eq (tgt := 19) X dX6_needs_7 (by decide) (fun c2 => ?_) (fun c2 => ?_)
  · have h := h.1 c2
    refine gd_iconst (v := (-1)) X dX6_needs_19 (by decide) ?_
    exact w_X6_needs_20 X hR _ _ _ h
  · have h := h.2 c2
    refine gd_aload_n X dX6_needs_10 0 rfl ?_
    refine gd_iconst (v := 1) X dX6_needs_11 (by decide) ?_
    refine gd_iload_n X dX6_needs_12 1 rfl ?_
    refine gd_callVi (As := [.int 1, .int x1]) (rest := []) X lk_X6_70 (c_X6_becomes _ _ _ _ _ _ _ _ _ h) 0 rfl rfl ⟨by decide, by decide⟩ rfl rfl (Nat.le_of_ble_eq_true rfl) dX6_needs_13 (fun r3 g4 h => ?_)
    refine gd_goto (tgt := 20) X dX6_needs_16 (by decide) ?_
    exact w_X6_needs_20 X hR _ _ _ h
set_option maxRecDepth 100000 in
theorem c_X6_needs (l : Launch) (D : va_G) (A : Nat → Prop) (cy : Nat → ClassId) (ad : Nat → Nat) (post : Int32 → SG → Prop) (x1 : Int32) (g : SG) (hB : B_X6_needs_0 post x1 g) : Mt l (eM D A cy ad) yX6_needs cX6_needs 2 (some .int) 2 44 [.ref (ad 0), .int x1] g (oI post) := mt_of (plainFor_of_name (by decide)) (Nat.le_of_ble_eq_true rfl) (fun b X hR => w_X6_needs_0 X hR x1 g hB)
def B_X6_drifts_20 (post : Int32 → SG → Prop) (x1 y0 : Int32) (g : SG) : Prop :=
  post y0 g
set_option maxRecDepth 100000 in
theorem w_X6_drifts_20 {b : BX} {D : va_G} {A : Nat → Prop} {cy : Nat → ClassId} {ad : Nat → Nat} {post : Int32 → SG → Prop} (X : Cx (kM b D A cy ad) cX6_drifts RX6 2 2 44) (hR : Rx (kM b D A cy ad) (some .int) (oI post)) (x1 y0 : Int32) (g : SG) (h : B_X6_drifts_20 post x1 y0 g) : Gd (kM b D A cy ad) 2 20 [(0, .ref (ad 0)), (1, .int x1)] [.int y0] g := by
  unfold B_X6_drifts_20 at h
  exact gd_iret X hR dX6_drifts_20 ⟨_, rfl, h⟩
def B_X6_drifts_0 (post : Int32 → SG → Prop) (x1 : Int32) (g : SG) : Prop :=
  B_X6_in_0 (fun r1 => ((r1 = 0) → B_X6_drifts_20 post x1 (-1) g) ∧ ((¬ r1 = 0) → B_X6_becomes_0 (fun r3 g4 => B_X6_drifts_20 post x1 r3 g4) 2 x1 g)) x1 0 50
set_option maxRecDepth 100000 in
theorem w_X6_drifts_0 {b : BX} {D : va_G} {A : Nat → Prop} {cy : Nat → ClassId} {ad : Nat → Nat} {post : Int32 → SG → Prop} (X : Cx (kM b D A cy ad) cX6_drifts RX6 2 2 44) (hR : Rx (kM b D A cy ad) (some .int) (oI post)) (x1 : Int32) (g : SG) (h : B_X6_drifts_0 post x1 g) : Gd (kM b D A cy ad) 2 0 [(0, .ref (ad 0)), (1, .int x1)] [] g := by
  unfold B_X6_drifts_0 at h
  refine gd_iload_n X dX6_drifts_0 1 rfl ?_
  refine gd_iconst (v := 0) X dX6_drifts_1 (by decide) ?_
  refine gd_bipush (v := 50) X dX6_drifts_2 (by decide) ?_
  refine gd_callSr (As := [.int x1, .int 0, .int 50]) (rest := []) X lk_X6_47 (c_X6_in _ _ _ _ _ _ _ h) ⟨by decide, by decide⟩ rfl rfl (Nat.le_of_ble_eq_true rfl) dX6_drifts_4 (fun r1 h => ?_)
  refine gd_if_eq (tgt := 19) X dX6_drifts_7 (by decide) (fun c2 => ?_) (fun c2 => ?_)
  · have h := h.1 c2
    refine gd_iconst (v := (-1)) X dX6_drifts_19 (by decide) ?_
    exact w_X6_drifts_20 X hR _ _ _ h
  · have h := h.2 c2
    refine gd_aload_n X dX6_drifts_10 0 rfl ?_
    refine gd_iconst (v := 2) X dX6_drifts_11 (by decide) ?_
    refine gd_iload_n X dX6_drifts_12 1 rfl ?_
    refine gd_callVi (As := [.int 2, .int x1]) (rest := []) X lk_X6_70 (c_X6_becomes _ _ _ _ _ _ _ _ _ h) 0 rfl rfl ⟨by decide, by decide⟩ rfl rfl (Nat.le_of_ble_eq_true rfl) dX6_drifts_13 (fun r3 g4 h => ?_)
    refine gd_goto (tgt := 20) X dX6_drifts_16 (by decide) ?_
    exact w_X6_drifts_20 X hR _ _ _ h
set_option maxRecDepth 100000 in
theorem c_X6_drifts (l : Launch) (D : va_G) (A : Nat → Prop) (cy : Nat → ClassId) (ad : Nat → Nat) (post : Int32 → SG → Prop) (x1 : Int32) (g : SG) (hB : B_X6_drifts_0 post x1 g) : Mt l (eM D A cy ad) yX6_drifts cX6_drifts 2 (some .int) 2 44 [.ref (ad 0), .int x1] g (oI post) := mt_of (plainFor_of_name (by decide)) (Nat.le_of_ble_eq_true rfl) (fun b X hR => w_X6_drifts_0 X hR x1 g hB)
def B_X6_sets_0 (post : Int32 → SG → Prop) (g : SG) : Prop :=
  B_X6_tells_0 (fun g1 => B_X6_isShown_0 (fun r2 => ((¬ r2 = 0) → B_X6_lastTime_0 (fun r4 => B_X6_remember_0 (fun g5 => ∀ g6 : SG, g6 = sput g5 1 3 r4 → ∀ g7 : SG, g7 = sput g6 1 4 0 → post (r4 / 8) g7) g1) g1) ∧ ((r2 = 0) → post (-2) g1)) g1) g
set_option maxRecDepth 100000 in
theorem w_X6_sets_0 {b : BX} {D : va_G} {A : Nat → Prop} {cy : Nat → ClassId} {ad : Nat → Nat} {post : Int32 → SG → Prop} (X : Cx (kM b D A cy ad) cX6_sets RX6 2 5 114) (hR : Rx (kM b D A cy ad) (some .int) (oI post)) (g : SG) (h : B_X6_sets_0 post g) : Gd (kM b D A cy ad) 2 0 [(0, .ref (ad 0))] [] g := by
  unfold B_X6_sets_0 at h
  refine gd_aload_n X dX6_sets_0 0 rfl ?_
  refine gd_callVv (As := []) (rest := []) X lk_X6_109 (c_X6_tells _ _ _ _ _ _ _ h) 0 rfl rfl ⟨by decide, by decide⟩ rfl rfl (Nat.le_of_ble_eq_true rfl) dX6_sets_1 (fun g1 h => ?_)
  refine gd_aload_n X dX6_sets_4 0 rfl ?_
  refine gd_callVr (As := []) (rest := []) X lk_X6_112 (c_X6_isShown _ _ _ _ _ _ _ h) 0 rfl rfl ⟨by decide, by decide⟩ rfl rfl (Nat.le_of_ble_eq_true rfl) dX6_sets_5 (fun r2 h => ?_)
  refine gd_if_ne (tgt := 14) X dX6_sets_8 (by decide) (fun c3 => ?_) (fun c3 => ?_)
  · have h := h.1 c3
    refine gd_aload_n X dX6_sets_14 0 rfl ?_
    refine gd_callVr (As := []) (rest := []) X lk_X6_116 (c_X6_lastTime _ _ _ _ _ _ _ h) 0 rfl rfl ⟨by decide, by decide⟩ rfl rfl (Nat.le_of_ble_eq_true rfl) dX6_sets_15 (fun r4 h => ?_)
    refine gd_istore_n (lv' := [(1, .int r4), (0, .ref (ad 0))]) X dX6_sets_18 (by decide) rfl ?_
    refine gd_aload_n X dX6_sets_19 1 rfl ?_
    refine gd_callVv (As := []) (rest := []) X lk_X6_62 (c_X6_remember _ _ _ _ _ _ _ h) 0 rfl rfl ⟨by decide, by decide⟩ rfl rfl (Nat.le_of_ble_eq_true rfl) dX6_sets_20 (fun g5 h => ?_)
    refine gd_aload_n X dX6_sets_23 1 rfl ?_
    refine gX6_7 X dX6_sets_24 ?_
    refine gd_iconst (v := 3) X dX6_sets_27 (by decide) ?_
    refine gd_iload_n X dX6_sets_28 0 rfl ?_
    refine as_M1 X vi_3_126 3 tc_3 dX6_sets_29 (fun g6 eg6 => ?_)
    have h := h g6 eg6
    refine gd_aload_n X dX6_sets_30 1 rfl ?_
    refine gX6_7 X dX6_sets_31 ?_
    refine gd_iconst (v := 4) X dX6_sets_34 (by decide) ?_
    refine gd_iconst (v := 0) X dX6_sets_35 (by decide) ?_
    refine as_M1 X vi_4_126 4 tc_4 dX6_sets_36 (fun g7 eg7 => ?_)
    have h := h g7 eg7
    refine gd_iload_n X dX6_sets_37 0 rfl ?_
    refine gd_bipush (v := 8) X dX6_sets_38 (by decide) ?_
    refine gd_idiv X dX6_sets_40 (by decide) ?_
    exact gd_iret X hR dX6_sets_41 ⟨_, rfl, h⟩
  · have h := h.2 c3
    refine gd_bipush (v := (-2)) X dX6_sets_11 (by decide) ?_
    exact gd_iret X hR dX6_sets_13 ⟨_, rfl, h⟩
set_option maxRecDepth 100000 in
theorem c_X6_sets (l : Launch) (D : va_G) (A : Nat → Prop) (cy : Nat → ClassId) (ad : Nat → Nat) (post : Int32 → SG → Prop) (g : SG) (hB : B_X6_sets_0 post g) : Mt l (eM D A cy ad) yX6_sets cX6_sets 2 (some .int) 5 114 [.ref (ad 0)] g (oI post) := mt_of (plainFor_of_name (by decide)) (Nat.le_of_ble_eq_true rfl) (fun b X hR => w_X6_sets_0 X hR g hB)
def B_X6_goes_80 (post : Int32 → SG → Prop) (x1 y0 y1 : Int32) (g : SG) : Prop :=
  vp_in y1 126 ∧ (∀ g1 : SG, g1 = sput g 1 y1.toNatClampNeg y0 → post ((g1 1 3) / 8) g1)
set_option maxRecDepth 100000 in
theorem w_X6_goes_80 {b : BX} {D : va_G} {A : Nat → Prop} {cy : Nat → ClassId} {ad : Nat → Nat} {post : Int32 → SG → Prop} (X : Cx (kM b D A cy ad) cX6_goes RX6 2 3 66) (hR : Rx (kM b D A cy ad) (some .int) (oI post)) (x1 y0 y1 : Int32) (g : SG) (h : B_X6_goes_80 post x1 y0 y1 g) : Gd (kM b D A cy ad) 2 80 [(0, .ref (ad 0)), (1, .int x1)] [.int y0, .int y1, .ref (ad 1)] g := by
  unfold B_X6_goes_80 at h
  refine as_M1 X h.1 _ rfl dX6_goes_80 (fun g1 eg1 => ?_)
  have h := h.2 g1 eg1
  refine gd_aload_n X dX6_goes_81 0 rfl ?_
  refine gX6_7 X dX6_goes_82 ?_
  refine gd_iconst (v := 3) X dX6_goes_85 (by decide) ?_
  refine al_M1 X vi_3_126 3 tc_3 dX6_goes_86 ?_
  refine gd_bipush (v := 8) X dX6_goes_87 (by decide) ?_
  refine gd_idiv X dX6_goes_89 (by decide) ?_
  exact gd_iret X hR dX6_goes_90 ⟨_, rfl, h⟩
def B_X6_goes_0 (post : Int32 → SG → Prop) (x1 : Int32) (g : SG) : Prop :=
  B_X6_in_0 (fun r1 => ((¬ r1 = 0) → ((¬ (g 1 3) = (-9)) → B_X6_remember_0 (fun g4 => B_X6_later_0 (fun r5 => ∀ g6 : SG, g6 = sput g4 1 3 r5 → ((((g6 1 4) + x1) ≤ 9999) → B_X6_goes_80 post x1 (((g6 1 4) + x1)) 4 g6) ∧ ((¬ ((g6 1 4) + x1) ≤ 9999) → B_X6_goes_80 post x1 9999 4 g6)) (g4 1 3) x1) g) ∧ (((g 1 3) = (-9)) → post (-2) g)) ∧ ((r1 = 0) → post (-1) g)) x1 1 999
set_option maxRecDepth 100000 in
theorem w_X6_goes_0 {b : BX} {D : va_G} {A : Nat → Prop} {cy : Nat → ClassId} {ad : Nat → Nat} {post : Int32 → SG → Prop} (X : Cx (kM b D A cy ad) cX6_goes RX6 2 3 66) (hR : Rx (kM b D A cy ad) (some .int) (oI post)) (x1 : Int32) (g : SG) (h : B_X6_goes_0 post x1 g) : Gd (kM b D A cy ad) 2 0 [(0, .ref (ad 0)), (1, .int x1)] [] g := by
  unfold B_X6_goes_0 at h
  refine gd_iload_n X dX6_goes_0 1 rfl ?_
  refine gd_iconst (v := 1) X dX6_goes_1 (by decide) ?_
  refine gd_sipush (v := 999) X dX6_goes_2 (by decide) ?_
  refine gd_callSr (As := [.int x1, .int 1, .int 999]) (rest := []) X lk_X6_47 (c_X6_in _ _ _ _ _ _ _ h) ⟨by decide, by decide⟩ rfl rfl (Nat.le_of_ble_eq_true rfl) dX6_goes_5 (fun r1 h => ?_)
  refine gd_if_ne (tgt := 13) X dX6_goes_8 (by decide) (fun c2 => ?_) (fun c2 => ?_)
  · have h := h.1 c2
    refine gd_aload_n X dX6_goes_13 0 rfl ?_
    refine gX6_7 X dX6_goes_14 ?_
    refine gd_iconst (v := 3) X dX6_goes_17 (by decide) ?_
    refine al_M1 X vi_3_126 3 tc_3 dX6_goes_18 ?_
    refine gd_bipush (v := (-9)) X dX6_goes_19 (by decide) ?_
    refine gd_icmp_ne (tgt := 27) X dX6_goes_21 (by decide) (fun c3 => ?_) (fun c3 => ?_)
    · have h := h.1 c3
      refine gd_aload_n X dX6_goes_27 0 rfl ?_
      refine gd_callVv (As := []) (rest := []) X lk_X6_62 (c_X6_remember _ _ _ _ _ _ _ h) 0 rfl rfl ⟨by decide, by decide⟩ rfl rfl (Nat.le_of_ble_eq_true rfl) dX6_goes_28 (fun g4 h => ?_)
      refine gd_aload_n X dX6_goes_31 0 rfl ?_
      refine gX6_7 X dX6_goes_32 ?_
      refine gd_iconst (v := 3) X dX6_goes_35 (by decide) ?_
      refine gd_aload_n X dX6_goes_36 0 rfl ?_
      refine gX6_7 X dX6_goes_37 ?_
      refine gd_iconst (v := 3) X dX6_goes_40 (by decide) ?_
      refine al_M1 X vi_3_126 3 tc_3 dX6_goes_41 ?_
      refine gd_iload_n X dX6_goes_42 1 rfl ?_
      refine gd_callSr (As := [.int ((g4 1 3)), .int x1]) (rest := [.int 3, .ref (ad 1)]) X lk_X6_106 (c_X6_later _ _ _ _ _ _ h) ⟨by decide, by decide⟩ rfl rfl (Nat.le_of_ble_eq_true rfl) dX6_goes_43 (fun r5 h => ?_)
      refine as_M1 X vi_3_126 3 tc_3 dX6_goes_46 (fun g6 eg6 => ?_)
      have h := h g6 eg6
      refine gd_aload_n X dX6_goes_47 0 rfl ?_
      refine gX6_7 X dX6_goes_48 ?_
      refine gd_iconst (v := 4) X dX6_goes_51 (by decide) ?_
      refine gd_aload_n X dX6_goes_52 0 rfl ?_
      refine gX6_7 X dX6_goes_53 ?_
      refine gd_iconst (v := 4) X dX6_goes_56 (by decide) ?_
      refine al_M1 X vi_4_126 4 tc_4 dX6_goes_57 ?_
      refine gd_iload_n X dX6_goes_58 1 rfl ?_
      refine gd_iadd X dX6_goes_59 ?_
      refine gd_sipush (v := 9999) X dX6_goes_60 (by decide) ?_
      refine gd_icmp_le (tgt := 72) X dX6_goes_63 (by decide) (fun c7 => ?_) (fun c7 => ?_)
      · have h := h.1 c7
        refine gd_aload_n X dX6_goes_72 0 rfl ?_
        refine gX6_7 X dX6_goes_73 ?_
        refine gd_iconst (v := 4) X dX6_goes_76 (by decide) ?_
        refine al_M1 X vi_4_126 4 tc_4 dX6_goes_77 ?_
        refine gd_iload_n X dX6_goes_78 1 rfl ?_
        refine gd_iadd X dX6_goes_79 ?_
        exact w_X6_goes_80 X hR _ _ _ _ h
      · have h := h.2 c7
        refine gd_sipush (v := 9999) X dX6_goes_66 (by decide) ?_
        refine gd_goto (tgt := 80) X dX6_goes_69 (by decide) ?_
        exact w_X6_goes_80 X hR _ _ _ _ h
    · have h := h.2 c3
      refine gd_bipush (v := (-2)) X dX6_goes_24 (by decide) ?_
      exact gd_iret X hR dX6_goes_26 ⟨_, rfl, h⟩
  · have h := h.2 c2
    refine gd_iconst (v := (-1)) X dX6_goes_11 (by decide) ?_
    exact gd_iret X hR dX6_goes_12 ⟨_, rfl, h⟩
set_option maxRecDepth 100000 in
theorem c_X6_goes (l : Launch) (D : va_G) (A : Nat → Prop) (cy : Nat → ClassId) (ad : Nat → Nat) (post : Int32 → SG → Prop) (x1 : Int32) (g : SG) (hB : B_X6_goes_0 post x1 g) : Mt l (eM D A cy ad) yX6_goes cX6_goes 2 (some .int) 3 66 [.ref (ad 0), .int x1] g (oI post) := mt_of (plainFor_of_name (by decide)) (Nat.le_of_ble_eq_true rfl) (fun b X hR => w_X6_goes_0 X hR x1 g hB)
def B_X6_undo_38 (post : Int32 → SG → Prop) (k38 : Int32 → SG → Prop) (x1 : Int32) (g : SG) : Prop :=
  ((126 ≤ x1) → ∀ g2 : SG, g2 = sput g 0 2 0 → post (g2 0 0) g2) ∧ ((¬ 126 ≤ x1) → vp_in ((126 * (g 0 1)) + x1) 1260 ∧ (vp_in x1 126 ∧ (∀ g3 : SG, g3 = sput g 1 x1.toNatClampNeg (g 2 ((126 * (g 0 1)) + x1).toNatClampNeg) → ∀ z4 : Int32, z4 = x1 + 1 → k38 z4 g3)))
set_option maxRecDepth 100000 in
theorem w_X6_undo_38 {b : BX} {D : va_G} {A : Nat → Prop} {cy : Nat → ClassId} {ad : Nat → Nat} {post : Int32 → SG → Prop} {k38 : Int32 → SG → Prop} (X : Cx (kM b D A cy ad) cX6_undo RX6 2 0 0) (hR : Rx (kM b D A cy ad) (some .int) (oI post)) (hk38 : ∀ (x1 : Int32) (g : SG), k38 x1 g → Gd (kM b D A cy ad) 2 38 [(0, .ref (ad 0)), (1, .int x1)] [] g) (x1 : Int32) (g : SG) (h : B_X6_undo_38 post k38 x1 g) : Gd (kM b D A cy ad) 2 38 [(0, .ref (ad 0)), (1, .int x1)] [] g := by
  unfold B_X6_undo_38 at h
  refine gd_iload_n X dX6_undo_38 1 rfl ?_
  refine gd_bipush (v := 126) X dX6_undo_39 (by decide) ?_
  refine gd_icmp_ge (tgt := 70) X dX6_undo_41 (by decide) (fun c1 => ?_) (fun c1 => ?_)
  · have h := h.1 c1
    refine gd_aload_n X dX6_undo_70 0 rfl ?_
    refine gd_iconst (v := 0) X dX6_undo_71 (by decide) ?_
    refine pX6_58 X rfl rfl dX6_undo_72 (fun g2 eg2 => ?_)
    have h := h g2 eg2
    refine gd_aload_n X dX6_undo_75 0 rfl ?_
    refine gX6_55 X dX6_undo_76 ?_
    exact gd_iret X hR dX6_undo_79 ⟨_, rfl, h⟩
  · have h := h.2 c1
    refine gd_aload_n X dX6_undo_44 0 rfl ?_
    refine gX6_7 X dX6_undo_45 ?_
    refine gd_iload_n X dX6_undo_48 1 rfl ?_
    refine gd_aload_n X dX6_undo_49 0 rfl ?_
    refine gX6_13 X dX6_undo_50 ?_
    refine gd_bipush (v := 126) X dX6_undo_53 (by decide) ?_
    refine gd_aload_n X dX6_undo_55 0 rfl ?_
    refine gX6_51 X dX6_undo_56 ?_
    refine gd_imul X dX6_undo_59 ?_
    refine gd_iload_n X dX6_undo_60 1 rfl ?_
    refine gd_iadd X dX6_undo_61 ?_
    refine al_M2 X h.1 _ rfl dX6_undo_62 ?_
    have h := h.2
    refine as_M1 X h.1 _ rfl dX6_undo_63 (fun g3 eg3 => ?_)
    have h := h.2 g3 eg3
    refine gd_incn X 1 1 dX6_undo_64 rfl (by decide) (by decide) (fun z4 => [(1, .int z4), (0, .ref (ad 0))]) (fun _ => rfl) (fun z4 ez4 => ?_)
    have h := h z4 ez4
    refine gd_goto (tgt := 38) X dX6_undo_67 (by decide) ?_
    refine gd_sub [1, 0] rfl ?_
    exact hk38 _ _ h
def P_X6_undo_38 (post : Int32 → SG → Prop) (n : Nat) : Int32 → SG → Prop := Nat.rec (motive := fun _ => Int32 → SG → Prop) (fun _ _ => False) (fun _ kk x1 g => B_X6_undo_38 post kk x1 g) n
set_option maxRecDepth 100000 in
theorem wL_X6_undo_38 {b : BX} {D : va_G} {A : Nat → Prop} {cy : Nat → ClassId} {ad : Nat → Nat} {post : Int32 → SG → Prop} (X : Cx (kM b D A cy ad) cX6_undo RX6 2 0 0) (hR : Rx (kM b D A cy ad) (some .int) (oI post)) : ∀ (n : Nat) (x1 : Int32) (g : SG), P_X6_undo_38 post n x1 g → Gd (kM b D A cy ad) 2 38 [(0, .ref (ad 0)), (1, .int x1)] [] g := by
  intro n
  induction n with
  | zero => intro x1 g h; exact h.elim
  | succ n ih => intro x1 g h; exact w_X6_undo_38 X hR ih x1 g h
def B_X6_undo_0 (post : Int32 → SG → Prop) (g : SG) : Prop :=
  ((¬ (g 0 0) = 0) → ∀ g2 : SG, g2 = sput g 0 1 (jrem (((g 0 1) + 10) - 1) 10) → ∀ g3 : SG, g3 = sput g2 0 0 ((g2 0 0) - 1) → ∃ n : Nat, P_X6_undo_38 post n 0 g3) ∧ (((g 0 0) = 0) → post (-2) g)
set_option maxRecDepth 100000 in
theorem w_X6_undo_0 {b : BX} {D : va_G} {A : Nat → Prop} {cy : Nat → ClassId} {ad : Nat → Nat} {post : Int32 → SG → Prop} (X : Cx (kM b D A cy ad) cX6_undo RX6 2 0 0) (hR : Rx (kM b D A cy ad) (some .int) (oI post)) (g : SG) (h : B_X6_undo_0 post g) : Gd (kM b D A cy ad) 2 0 [(0, .ref (ad 0))] [] g := by
  unfold B_X6_undo_0 at h
  refine gd_aload_n X dX6_undo_0 0 rfl ?_
  refine gX6_55 X dX6_undo_1 ?_
  refine gd_if_ne (tgt := 10) X dX6_undo_4 (by decide) (fun c1 => ?_) (fun c1 => ?_)
  · have h := h.1 c1
    refine gd_aload_n X dX6_undo_10 0 rfl ?_
    refine gd_aload_n X dX6_undo_11 0 rfl ?_
    refine gX6_51 X dX6_undo_12 ?_
    refine gd_bipush (v := 10) X dX6_undo_15 (by decide) ?_
    refine gd_iadd X dX6_undo_17 ?_
    refine gd_iconst (v := 1) X dX6_undo_18 (by decide) ?_
    refine gd_isub X dX6_undo_19 ?_
    refine gd_bipush (v := 10) X dX6_undo_20 (by decide) ?_
    refine gd_jrem X dX6_undo_22 (by decide) ?_
    refine pX6_51 X dX6_undo_23 (fun g2 eg2 => ?_)
    have h := h g2 eg2
    refine gd_aload_n X dX6_undo_26 0 rfl ?_
    refine gd_dup X dX6_undo_27 rfl ?_
    refine gX6_55 X dX6_undo_28 ?_
    refine gd_iconst (v := 1) X dX6_undo_31 (by decide) ?_
    refine gd_isub X dX6_undo_32 ?_
    refine pX6_55 X dX6_undo_33 (fun g3 eg3 => ?_)
    have h := h g3 eg3
    refine gd_iconst (v := 0) X dX6_undo_36 (by decide) ?_
    refine gd_istore_n (lv' := [(1, .int 0), (0, .ref (ad 0))]) X dX6_undo_37 (by decide) rfl ?_
    refine gd_sub [1, 0] rfl ?_
    obtain ⟨n, h⟩ := h
    exact wL_X6_undo_38 X hR n _ _ h
  · have h := h.2 c1
    refine gd_bipush (v := (-2)) X dX6_undo_7 (by decide) ?_
    exact gd_iret X hR dX6_undo_9 ⟨_, rfl, h⟩
set_option maxRecDepth 100000 in
theorem c_X6_undo (l : Launch) (D : va_G) (A : Nat → Prop) (cy : Nat → ClassId) (ad : Nat → Nat) (post : Int32 → SG → Prop) (g : SG) (hB : B_X6_undo_0 post g) : Mt l (eM D A cy ad) yX6_undo cX6_undo 2 (some .int) 0 0 [.ref (ad 0)] g (oI post) := mt_of (plainFor_of_name (by decide)) (Nat.le_of_ble_eq_true rfl) (fun b X hR => w_X6_undo_0 X hR g hB)
def B_X6_read_28 (post : Int32 → SG → Prop) (x1 x2 : Int32) (g : SG) : Prop :=
  post (-1) g
set_option maxRecDepth 100000 in
theorem w_X6_read_28 {b : BX} {D : va_G} {A : Nat → Prop} {cy : Nat → ClassId} {ad : Nat → Nat} {post : Int32 → SG → Prop} (X : Cx (kM b D A cy ad) cX6_read RX6 3 5 114) (hR : Rx (kM b D A cy ad) (some .int) (oI post)) (x1 x2 : Int32) (g : SG) (h : B_X6_read_28 post x1 x2 g) : Gd (kM b D A cy ad) 3 28 [(0, .ref (ad 0)), (1, .int x1), (2, .int x2)] [] g := by
  unfold B_X6_read_28 at h
  refine gd_iconst (v := (-1)) X dX6_read_28 (by decide) ?_
  exact gd_iret X hR dX6_read_29 ⟨_, rfl, h⟩
def B_X6_read_142 (post : Int32 → SG → Prop) (x1 x2 : Int32) (g : SG) : Prop :=
  B_X6_firstOf_0 (fun r1 => B_X6_symbolAt_0 (fun r2 => post r2 g) ((r1 + x2) - 4) g) x1 g
set_option maxRecDepth 100000 in
theorem w_X6_read_142 {b : BX} {D : va_G} {A : Nat → Prop} {cy : Nat → ClassId} {ad : Nat → Nat} {post : Int32 → SG → Prop} (X : Cx (kM b D A cy ad) cX6_read RX6 3 5 114) (hR : Rx (kM b D A cy ad) (some .int) (oI post)) (x1 x2 : Int32) (g : SG) (h : B_X6_read_142 post x1 x2 g) : Gd (kM b D A cy ad) 3 142 [(0, .ref (ad 0)), (1, .int x1), (2, .int x2)] [] g := by
  unfold B_X6_read_142 at h
  refine gd_aload_n X dX6_read_142 0 rfl ?_
  refine gd_aload_n X dX6_read_143 0 rfl ?_
  refine gd_iload_n X dX6_read_144 1 rfl ?_
  refine gd_callVr (As := [.int x1]) (rest := [.ref (ad 0)]) X lk_X6_82 (c_X6_firstOf _ _ _ _ _ _ _ _ h) 0 rfl rfl ⟨by decide, by decide⟩ rfl rfl (Nat.le_of_ble_eq_true rfl) dX6_read_145 (fun r1 h => ?_)
  refine gd_iload_n X dX6_read_148 2 rfl ?_
  refine gd_iadd X dX6_read_149 ?_
  refine gd_iconst (v := 4) X dX6_read_150 (by decide) ?_
  refine gd_isub X dX6_read_151 ?_
  refine gd_callVr (As := [.int (((r1 + x2) - 4))]) (rest := []) X lk_X6_73 (c_X6_symbolAt _ _ _ _ _ _ _ _ h) 0 rfl rfl ⟨by decide, by decide⟩ rfl rfl (Nat.le_of_ble_eq_true rfl) dX6_read_152 (fun r2 h => ?_)
  exact gd_iret X hR dX6_read_155 ⟨_, rfl, h⟩
def B_X6_read_0 (post : Int32 → SG → Prop) (x1 x2 : Int32) (g : SG) : Prop :=
  B_X6_tells_0 (fun g1 => B_X6_in_0 (fun r2 => ((r2 = 0) → B_X6_read_28 post x1 x2 g1) ∧ ((¬ r2 = 0) → B_X6_in_0 (fun r4 => ((¬ r4 = 0) → ((x2.toInt < 0 ∨ 8 < x2.toInt) → B_X6_read_142 post x1 x2 g1) ∧ (x2.toInt = 0 → B_X6_firstOf_0 (fun r6 => post r6 g1) x1 g1) ∧ (x2.toInt = 1 → B_X6_parity_0 (fun r7 => post r7 g1) x1 4 11 g1) ∧ (x2.toInt = 2 → B_X6_parity_0 (fun r8 => post r8 g1) x1 12 18 g1) ∧ (x2.toInt = 3 → B_X6_twoFigures_0 (fun r9 => post r9 g1) x1 4 10 59 g1) ∧ (x2.toInt = 4 → B_X6_twoFigures_0 (fun r10 => post r10 g1) x1 12 17 23 g1) ∧ (x2.toInt = 5 → B_X6_read_142 post x1 x2 g1) ∧ (x2.toInt = 6 → B_X6_read_142 post x1 x2 g1) ∧ (x2.toInt = 7 → B_X6_read_142 post x1 x2 g1) ∧ (x2.toInt = 8 → B_X6_later_0 (fun r11 => B_X6_wrongOf_0 (fun r12 => post r12 g1) r11 x1 g1) (g1 0 5) x1)) ∧ ((r4 = 0) → B_X6_read_28 post x1 x2 g1)) x2 0 8)) x1 0 ((g1 0 4) - 1)) g
set_option maxRecDepth 100000 in
theorem w_X6_read_0 {b : BX} {D : va_G} {A : Nat → Prop} {cy : Nat → ClassId} {ad : Nat → Nat} {post : Int32 → SG → Prop} (X : Cx (kM b D A cy ad) cX6_read RX6 3 5 114) (hR : Rx (kM b D A cy ad) (some .int) (oI post)) (x1 x2 : Int32) (g : SG) (h : B_X6_read_0 post x1 x2 g) : Gd (kM b D A cy ad) 3 0 [(0, .ref (ad 0)), (1, .int x1), (2, .int x2)] [] g := by
  unfold B_X6_read_0 at h
  refine gd_aload_n X dX6_read_0 0 rfl ?_
  refine gd_callVv (As := []) (rest := []) X lk_X6_109 (c_X6_tells _ _ _ _ _ _ _ h) 0 rfl rfl ⟨by decide, by decide⟩ rfl rfl (Nat.le_of_ble_eq_true rfl) dX6_read_1 (fun g1 h => ?_)
  refine gd_iload_n X dX6_read_4 1 rfl ?_
  refine gd_iconst (v := 0) X dX6_read_5 (by decide) ?_
  refine gd_aload_n X dX6_read_6 0 rfl ?_
  refine gX6_79 X dX6_read_7 ?_
  refine gd_iconst (v := 1) X dX6_read_10 (by decide) ?_
  refine gd_isub X dX6_read_11 ?_
  refine gd_callSr (As := [.int x1, .int 0, .int (((g1 0 4) - 1))]) (rest := []) X lk_X6_47 (c_X6_in _ _ _ _ _ _ _ h) ⟨by decide, by decide⟩ rfl rfl (Nat.le_of_ble_eq_true rfl) dX6_read_12 (fun r2 h => ?_)
  refine gd_if_eq (tgt := 28) X dX6_read_15 (by decide) (fun c3 => ?_) (fun c3 => ?_)
  · have h := h.1 c3
    exact w_X6_read_28 X hR _ _ _ h
  · have h := h.2 c3
    refine gd_iload_n X dX6_read_18 2 rfl ?_
    refine gd_iconst (v := 0) X dX6_read_19 (by decide) ?_
    refine gd_bipush (v := 8) X dX6_read_20 (by decide) ?_
    refine gd_callSr (As := [.int x2, .int 0, .int 8]) (rest := []) X lk_X6_47 (c_X6_in _ _ _ _ _ _ _ h) ⟨by decide, by decide⟩ rfl rfl (Nat.le_of_ble_eq_true rfl) dX6_read_22 (fun r4 h => ?_)
    refine gd_if_ne (tgt := 30) X dX6_read_25 (by decide) (fun c5 => ?_) (fun c5 => ?_)
    · have h := h.1 c5
      refine gd_iload_n X dX6_read_30 2 rfl ?_
      refine gd_table (tgt := 142) X dX6_read_31 (by decide) [80, 86, 95, 105, 116, 142, 142, 142, 128] (by decide) (by decide) (fun c13 => ?_) ⟨fun c13 => ?_, fun c13 => ?_, fun c13 => ?_, fun c13 => ?_, fun c13 => ?_, fun c13 => ?_, fun c13 => ?_, fun c13 => ?_, fun c13 => ?_, trivial⟩
      · have h := h.1 (by omega)
        exact w_X6_read_142 X hR _ _ _ h
      · have h := h.2.1 (by omega)
        refine gd_aload_n X dX6_read_80 0 rfl ?_
        refine gd_iload_n X dX6_read_81 1 rfl ?_
        refine gd_callVr (As := [.int x1]) (rest := []) X lk_X6_82 (c_X6_firstOf _ _ _ _ _ _ _ _ h) 0 rfl rfl ⟨by decide, by decide⟩ rfl rfl (Nat.le_of_ble_eq_true rfl) dX6_read_82 (fun r6 h => ?_)
        exact gd_iret X hR dX6_read_85 ⟨_, rfl, h⟩
      · have h := h.2.2.1 (by omega)
        refine gd_aload_n X dX6_read_86 0 rfl ?_
        refine gd_iload_n X dX6_read_87 1 rfl ?_
        refine gd_iconst (v := 4) X dX6_read_88 (by decide) ?_
        refine gd_bipush (v := 11) X dX6_read_89 (by decide) ?_
        refine gd_callVr (As := [.int x1, .int 4, .int 11]) (rest := []) X lk_X6_127 (c_X6_parity _ _ _ _ _ _ _ _ _ _ h) 0 rfl rfl ⟨by decide, by decide⟩ rfl rfl (Nat.le_of_ble_eq_true rfl) dX6_read_91 (fun r7 h => ?_)
        exact gd_iret X hR dX6_read_94 ⟨_, rfl, h⟩
      · have h := h.2.2.2.1 (by omega)
        refine gd_aload_n X dX6_read_95 0 rfl ?_
        refine gd_iload_n X dX6_read_96 1 rfl ?_
        refine gd_bipush (v := 12) X dX6_read_97 (by decide) ?_
        refine gd_bipush (v := 18) X dX6_read_99 (by decide) ?_
        refine gd_callVr (As := [.int x1, .int 12, .int 18]) (rest := []) X lk_X6_127 (c_X6_parity _ _ _ _ _ _ _ _ _ _ h) 0 rfl rfl ⟨by decide, by decide⟩ rfl rfl (Nat.le_of_ble_eq_true rfl) dX6_read_101 (fun r8 h => ?_)
        exact gd_iret X hR dX6_read_104 ⟨_, rfl, h⟩
      · have h := h.2.2.2.2.1 (by omega)
        refine gd_aload_n X dX6_read_105 0 rfl ?_
        refine gd_iload_n X dX6_read_106 1 rfl ?_
        refine gd_iconst (v := 4) X dX6_read_107 (by decide) ?_
        refine gd_bipush (v := 10) X dX6_read_108 (by decide) ?_
        refine gd_bipush (v := 59) X dX6_read_110 (by decide) ?_
        refine gd_callVr (As := [.int x1, .int 4, .int 10, .int 59]) (rest := []) X lk_X6_130 (c_X6_twoFigures _ _ _ _ _ _ _ _ _ _ _ h) 0 rfl rfl ⟨by decide, by decide⟩ rfl rfl (Nat.le_of_ble_eq_true rfl) dX6_read_112 (fun r9 h => ?_)
        exact gd_iret X hR dX6_read_115 ⟨_, rfl, h⟩
      · have h := h.2.2.2.2.2.1 (by omega)
        refine gd_aload_n X dX6_read_116 0 rfl ?_
        refine gd_iload_n X dX6_read_117 1 rfl ?_
        refine gd_bipush (v := 12) X dX6_read_118 (by decide) ?_
        refine gd_bipush (v := 17) X dX6_read_120 (by decide) ?_
        refine gd_bipush (v := 23) X dX6_read_122 (by decide) ?_
        refine gd_callVr (As := [.int x1, .int 12, .int 17, .int 23]) (rest := []) X lk_X6_130 (c_X6_twoFigures _ _ _ _ _ _ _ _ _ _ _ h) 0 rfl rfl ⟨by decide, by decide⟩ rfl rfl (Nat.le_of_ble_eq_true rfl) dX6_read_124 (fun r10 h => ?_)
        exact gd_iret X hR dX6_read_127 ⟨_, rfl, h⟩
      · have h := h.2.2.2.2.2.2.1 (by omega)
        exact w_X6_read_142 X hR _ _ _ h
      · have h := h.2.2.2.2.2.2.2.1 (by omega)
        exact w_X6_read_142 X hR _ _ _ h
      · have h := h.2.2.2.2.2.2.2.2.1 (by omega)
        exact w_X6_read_142 X hR _ _ _ h
      · have h := h.2.2.2.2.2.2.2.2.2 (by omega)
        refine gd_aload_n X dX6_read_128 0 rfl ?_
        refine gd_aload_n X dX6_read_129 0 rfl ?_
        refine gX6_97 X dX6_read_130 ?_
        refine gd_iload_n X dX6_read_133 1 rfl ?_
        refine gd_callSr (As := [.int ((g1 0 5)), .int x1]) (rest := [.ref (ad 0)]) X lk_X6_106 (c_X6_later _ _ _ _ _ _ h) ⟨by decide, by decide⟩ rfl rfl (Nat.le_of_ble_eq_true rfl) dX6_read_134 (fun r11 h => ?_)
        refine gd_iload_n X dX6_read_137 1 rfl ?_
        refine gd_callVr (As := [.int r11, .int x1]) (rest := []) X lk_X6_88 (c_X6_wrongOf _ _ _ _ _ _ _ _ _ h) 0 rfl rfl ⟨by decide, by decide⟩ rfl rfl (Nat.le_of_ble_eq_true rfl) dX6_read_138 (fun r12 h => ?_)
        exact gd_iret X hR dX6_read_141 ⟨_, rfl, h⟩
    · have h := h.2 c5
      exact w_X6_read_28 X hR _ _ _ h
set_option maxRecDepth 100000 in
theorem c_X6_read (l : Launch) (D : va_G) (A : Nat → Prop) (cy : Nat → ClassId) (ad : Nat → Nat) (post : Int32 → SG → Prop) (x1 x2 : Int32) (g : SG) (hB : B_X6_read_0 post x1 x2 g) : Mt l (eM D A cy ad) yX6_read cX6_read 3 (some .int) 5 114 [.ref (ad 0), .int x1, .int x2] g (oI post) := mt_of (plainFor_of_name (by decide)) (Nat.le_of_ble_eq_true rfl) (fun b X hR => w_X6_read_0 X hR x1 x2 g hB)
def B_X6_vote_79 (post : Int32 → SG → Prop) (x1 y0 : Int32) (g : SG) : Prop :=
  post y0 g
set_option maxRecDepth 100000 in
theorem w_X6_vote_79 {b : BX} {D : va_G} {A : Nat → Prop} {cy : Nat → ClassId} {ad : Nat → Nat} {post : Int32 → SG → Prop} (X : Cx (kM b D A cy ad) cX6_vote RX6 2 5 114) (hR : Rx (kM b D A cy ad) (some .int) (oI post)) (x1 y0 : Int32) (g : SG) (h : B_X6_vote_79 post x1 y0 g) : Gd (kM b D A cy ad) 2 79 [(0, .ref (ad 0)), (1, .int x1)] [.int y0] g := by
  unfold B_X6_vote_79 at h
  exact gd_iret X hR dX6_vote_79 ⟨_, rfl, h⟩
def B_X6_vote_107 (post : Int32 → SG → Prop) (x1 y0 : Int32) (g : SG) : Prop :=
  post y0 g
set_option maxRecDepth 100000 in
theorem w_X6_vote_107 {b : BX} {D : va_G} {A : Nat → Prop} {cy : Nat → ClassId} {ad : Nat → Nat} {post : Int32 → SG → Prop} (X : Cx (kM b D A cy ad) cX6_vote RX6 2 5 114) (hR : Rx (kM b D A cy ad) (some .int) (oI post)) (x1 y0 : Int32) (g : SG) (h : B_X6_vote_107 post x1 y0 g) : Gd (kM b D A cy ad) 2 107 [(0, .ref (ad 0)), (1, .int x1)] [.int y0] g := by
  unfold B_X6_vote_107 at h
  exact gd_iret X hR dX6_vote_107 ⟨_, rfl, h⟩
def B_X6_vote_0 (post : Int32 → SG → Prop) (x1 : Int32) (g : SG) : Prop :=
  B_X6_in_0 (fun r1 => ((¬ r1 = 0) → B_X6_tells_0 (fun g3 => ((¬ (g3 0 4) = 0) → ((x1.toInt < 4 ∨ 6 < x1.toInt) → ((4 ≤ x1) → B_X6_lastTime_0 (fun r6 => B_X6_partOf_0 (fun r7 => B_X6_vote_107 post x1 r7 g3) r6 (x1 - 7)) g3) ∧ ((¬ 4 ≤ x1) → B_X6_partOf_0 (fun r8 => B_X6_vote_107 post x1 r8 g3) (g3 0 5) x1)) ∧ (x1.toInt = 4 → vp_in (g3 0 5) 11520 ∧ (post (g3 7 (g3 0 5).toNatClampNeg) g3)) ∧ (x1.toInt = 5 → post (g3 0 6) g3) ∧ (x1.toInt = 6 → B_X6_isShown_0 (fun r9 => ((r9 = 0) → B_X6_vote_79 post x1 0 g3) ∧ ((¬ r9 = 0) → B_X6_vote_79 post x1 1 g3)) g3)) ∧ (((g3 0 4) = 0) → post (-9) g3)) g) ∧ ((r1 = 0) → post (-1) g)) x1 0 10
set_option maxRecDepth 100000 in
theorem w_X6_vote_0 {b : BX} {D : va_G} {A : Nat → Prop} {cy : Nat → ClassId} {ad : Nat → Nat} {post : Int32 → SG → Prop} (X : Cx (kM b D A cy ad) cX6_vote RX6 2 5 114) (hR : Rx (kM b D A cy ad) (some .int) (oI post)) (x1 : Int32) (g : SG) (h : B_X6_vote_0 post x1 g) : Gd (kM b D A cy ad) 2 0 [(0, .ref (ad 0)), (1, .int x1)] [] g := by
  unfold B_X6_vote_0 at h
  refine gd_iload_n X dX6_vote_0 1 rfl ?_
  refine gd_iconst (v := 0) X dX6_vote_1 (by decide) ?_
  refine gd_bipush (v := 10) X dX6_vote_2 (by decide) ?_
  refine gd_callSr (As := [.int x1, .int 0, .int 10]) (rest := []) X lk_X6_47 (c_X6_in _ _ _ _ _ _ _ h) ⟨by decide, by decide⟩ rfl rfl (Nat.le_of_ble_eq_true rfl) dX6_vote_4 (fun r1 h => ?_)
  refine gd_if_ne (tgt := 12) X dX6_vote_7 (by decide) (fun c2 => ?_) (fun c2 => ?_)
  · have h := h.1 c2
    refine gd_aload_n X dX6_vote_12 0 rfl ?_
    refine gd_callVv (As := []) (rest := []) X lk_X6_109 (c_X6_tells _ _ _ _ _ _ _ h) 0 rfl rfl ⟨by decide, by decide⟩ rfl rfl (Nat.le_of_ble_eq_true rfl) dX6_vote_13 (fun g3 h => ?_)
    refine gd_aload_n X dX6_vote_16 0 rfl ?_
    refine gX6_79 X dX6_vote_17 ?_
    refine gd_if_ne (tgt := 26) X dX6_vote_20 (by decide) (fun c4 => ?_) (fun c4 => ?_)
    · have h := h.1 c4
      refine gd_iload_n X dX6_vote_26 1 rfl ?_
      refine gd_table (tgt := 80) X dX6_vote_27 (by decide) [52, 62, 67] (by decide) (by decide) (fun c11 => ?_) ⟨fun c11 => ?_, fun c11 => ?_, fun c11 => ?_, trivial⟩
      · have h := h.1 (by omega)
        refine gd_iload_n X dX6_vote_80 1 rfl ?_
        refine gd_iconst (v := 4) X dX6_vote_81 (by decide) ?_
        refine gd_icmp_ge (tgt := 96) X dX6_vote_82 (by decide) (fun c5 => ?_) (fun c5 => ?_)
        · have h := h.1 c5
          refine gd_aload_n X dX6_vote_96 0 rfl ?_
          refine gd_callVr (As := []) (rest := []) X lk_X6_116 (c_X6_lastTime _ _ _ _ _ _ _ h) 0 rfl rfl ⟨by decide, by decide⟩ rfl rfl (Nat.le_of_ble_eq_true rfl) dX6_vote_97 (fun r6 h => ?_)
          refine gd_iload_n X dX6_vote_100 1 rfl ?_
          refine gd_bipush (v := 7) X dX6_vote_101 (by decide) ?_
          refine gd_isub X dX6_vote_103 ?_
          refine gd_callSr (As := [.int r6, .int ((x1 - 7))]) (rest := []) X lk_X6_134 (c_X6_partOf _ _ _ _ _ _ h) ⟨by decide, by decide⟩ rfl rfl (Nat.le_of_ble_eq_true rfl) dX6_vote_104 (fun r7 h => ?_)
          exact w_X6_vote_107 X hR _ _ _ h
        · have h := h.2 c5
          refine gd_aload_n X dX6_vote_85 0 rfl ?_
          refine gX6_97 X dX6_vote_86 ?_
          refine gd_iload_n X dX6_vote_89 1 rfl ?_
          refine gd_callSr (As := [.int ((g3 0 5)), .int x1]) (rest := []) X lk_X6_134 (c_X6_partOf _ _ _ _ _ _ h) ⟨by decide, by decide⟩ rfl rfl (Nat.le_of_ble_eq_true rfl) dX6_vote_90 (fun r8 h => ?_)
          refine gd_goto (tgt := 107) X dX6_vote_93 (by decide) ?_
          exact w_X6_vote_107 X hR _ _ _ h
      · have h := h.2.1 (by omega)
        refine gd_aload_n X dX6_vote_52 0 rfl ?_
        refine gX6_29 X dX6_vote_53 ?_
        refine gd_aload_n X dX6_vote_56 0 rfl ?_
        refine gX6_97 X dX6_vote_57 ?_
        refine al_M7 X h.1 _ rfl dX6_vote_60 ?_
        have h := h.2
        exact gd_iret X hR dX6_vote_61 ⟨_, rfl, h⟩
      · have h := h.2.2.1 (by omega)
        refine gd_aload_n X dX6_vote_62 0 rfl ?_
        refine gX6_103 X dX6_vote_63 ?_
        exact gd_iret X hR dX6_vote_66 ⟨_, rfl, h⟩
      · have h := h.2.2.2 (by omega)
        refine gd_aload_n X dX6_vote_67 0 rfl ?_
        refine gd_callVr (As := []) (rest := []) X lk_X6_112 (c_X6_isShown _ _ _ _ _ _ _ h) 0 rfl rfl ⟨by decide, by decide⟩ rfl rfl (Nat.le_of_ble_eq_true rfl) dX6_vote_68 (fun r9 h => ?_)
        refine gd_if_eq (tgt := 78) X dX6_vote_71 (by decide) (fun c10 => ?_) (fun c10 => ?_)
        · have h := h.1 c10
          refine gd_iconst (v := 0) X dX6_vote_78 (by decide) ?_
          exact w_X6_vote_79 X hR _ _ _ h
        · have h := h.2 c10
          refine gd_iconst (v := 1) X dX6_vote_74 (by decide) ?_
          refine gd_goto (tgt := 79) X dX6_vote_75 (by decide) ?_
          exact w_X6_vote_79 X hR _ _ _ h
    · have h := h.2 c4
      refine gd_bipush (v := (-9)) X dX6_vote_23 (by decide) ?_
      exact gd_iret X hR dX6_vote_25 ⟨_, rfl, h⟩
  · have h := h.2 c2
    refine gd_iconst (v := (-1)) X dX6_vote_10 (by decide) ?_
    exact gd_iret X hR dX6_vote_11 ⟨_, rfl, h⟩
set_option maxRecDepth 100000 in
theorem c_X6_vote (l : Launch) (D : va_G) (A : Nat → Prop) (cy : Nat → ClassId) (ad : Nat → Nat) (post : Int32 → SG → Prop) (x1 : Int32) (g : SG) (hB : B_X6_vote_0 post x1 g) : Mt l (eM D A cy ad) yX6_vote cX6_vote 2 (some .int) 5 114 [.ref (ad 0), .int x1] g (oI post) := mt_of (plainFor_of_name (by decide)) (Nat.le_of_ble_eq_true rfl) (fun b X hR => w_X6_vote_0 X hR x1 g hB)
def B_X6_misses_0 (post : Int32 → SG → Prop) (x1 x2 x3 x4 : Int32) (g : SG) : Prop :=
  B_X6_isTime_0 (fun r1 => ((¬ r1 = 0) → B_X6_tells_0 (fun g3 => B_X6_codeOf_0 (fun r4 => vp_in r4 11520 ∧ (post (g3 7 r4.toNatClampNeg) g3)) x1 x2 x3 x4) g) ∧ ((r1 = 0) → post (-1) g)) x1 x2 x3 x4
set_option maxRecDepth 100000 in
theorem w_X6_misses_0 {b : BX} {D : va_G} {A : Nat → Prop} {cy : Nat → ClassId} {ad : Nat → Nat} {post : Int32 → SG → Prop} (X : Cx (kM b D A cy ad) cX6_misses RX6 5 5 114) (hR : Rx (kM b D A cy ad) (some .int) (oI post)) (x1 x2 x3 x4 : Int32) (g : SG) (h : B_X6_misses_0 post x1 x2 x3 x4 g) : Gd (kM b D A cy ad) 5 0 [(0, .ref (ad 0)), (1, .int x1), (2, .int x2), (3, .int x3), (4, .int x4)] [] g := by
  unfold B_X6_misses_0 at h
  refine gd_iload_n X dX6_misses_0 1 rfl ?_
  refine gd_iload_n X dX6_misses_1 2 rfl ?_
  refine gd_iload_n X dX6_misses_2 3 rfl ?_
  refine gd_iload X dX6_misses_3 4 rfl ?_
  refine gd_callSr (As := [.int x1, .int x2, .int x3, .int x4]) (rest := []) X lk_X6_137 (c_X6_isTime _ _ _ _ _ _ _ _ h) ⟨by decide, by decide⟩ rfl rfl (Nat.le_of_ble_eq_true rfl) dX6_misses_5 (fun r1 h => ?_)
  refine gd_if_ne (tgt := 13) X dX6_misses_8 (by decide) (fun c2 => ?_) (fun c2 => ?_)
  · have h := h.1 c2
    refine gd_aload_n X dX6_misses_13 0 rfl ?_
    refine gd_callVv (As := []) (rest := []) X lk_X6_109 (c_X6_tells _ _ _ _ _ _ _ h) 0 rfl rfl ⟨by decide, by decide⟩ rfl rfl (Nat.le_of_ble_eq_true rfl) dX6_misses_14 (fun g3 h => ?_)
    refine gd_aload_n X dX6_misses_17 0 rfl ?_
    refine gX6_29 X dX6_misses_18 ?_
    refine gd_iload_n X dX6_misses_21 1 rfl ?_
    refine gd_iload_n X dX6_misses_22 2 rfl ?_
    refine gd_iload_n X dX6_misses_23 3 rfl ?_
    refine gd_iload X dX6_misses_24 4 rfl ?_
    refine gd_callSr (As := [.int x1, .int x2, .int x3, .int x4]) (rest := [.ref (ad 7)]) X lk_X6_141 (c_X6_codeOf _ _ _ _ _ _ _ _ h) ⟨by decide, by decide⟩ rfl rfl (Nat.le_of_ble_eq_true rfl) dX6_misses_26 (fun r4 h => ?_)
    refine al_M7 X h.1 _ rfl dX6_misses_29 ?_
    have h := h.2
    exact gd_iret X hR dX6_misses_30 ⟨_, rfl, h⟩
  · have h := h.2 c2
    refine gd_iconst (v := (-1)) X dX6_misses_11 (by decide) ?_
    exact gd_iret X hR dX6_misses_12 ⟨_, rfl, h⟩
set_option maxRecDepth 100000 in
theorem c_X6_misses (l : Launch) (D : va_G) (A : Nat → Prop) (cy : Nat → ClassId) (ad : Nat → Nat) (post : Int32 → SG → Prop) (x1 x2 x3 x4 : Int32) (g : SG) (hB : B_X6_misses_0 post x1 x2 x3 x4 g) : Mt l (eM D A cy ad) yX6_misses cX6_misses 5 (some .int) 5 114 [.ref (ad 0), .int x1, .int x2, .int x3, .int x4] g (oI post) := mt_of (plainFor_of_name (by decide)) (Nat.le_of_ble_eq_true rfl) (fun b X hR => w_X6_misses_0 X hR x1 x2 x3 x4 g hB)
def B_X6_close_15 (post : Int32 → SG → Prop) (x1 x2 : Int32) (g : SG) : Prop :=
  post (-1) g
set_option maxRecDepth 100000 in
theorem w_X6_close_15 {b : BX} {D : va_G} {A : Nat → Prop} {cy : Nat → ClassId} {ad : Nat → Nat} {post : Int32 → SG → Prop} (X : Cx (kM b D A cy ad) cX6_close RX6 5 5 114) (hR : Rx (kM b D A cy ad) (some .int) (oI post)) (x1 x2 : Int32) (g : SG) (h : B_X6_close_15 post x1 x2 g) : Gd (kM b D A cy ad) 5 15 [(0, .ref (ad 0)), (1, .int x1), (2, .int x2)] [] g := by
  unfold B_X6_close_15 at h
  refine gd_iconst (v := (-1)) X dX6_close_15 (by decide) ?_
  exact gd_iret X hR dX6_close_16 ⟨_, rfl, h⟩
def B_X6_close_56 (post : Int32 → SG → Prop) (k26 : Int32 → Int32 → Int32 → Int32 → SG → Prop) (x1 x2 x3 x4 : Int32) (g : SG) : Prop :=
  ∀ z1 : Int32, z1 = x4 + 1 → k26 x1 x2 x3 z1 g
set_option maxRecDepth 100000 in
theorem w_X6_close_56 {b : BX} {D : va_G} {A : Nat → Prop} {cy : Nat → ClassId} {ad : Nat → Nat} {post : Int32 → SG → Prop} {k26 : Int32 → Int32 → Int32 → Int32 → SG → Prop} (X : Cx (kM b D A cy ad) cX6_close RX6 5 5 114) (hR : Rx (kM b D A cy ad) (some .int) (oI post)) (hk26 : ∀ (x1 x2 x3 x4 : Int32) (g : SG), k26 x1 x2 x3 x4 g → Gd (kM b D A cy ad) 5 26 [(0, .ref (ad 0)), (1, .int x1), (2, .int x2), (3, .int x3), (4, .int x4)] [] g) (x1 x2 x3 x4 : Int32) (g : SG) (h : B_X6_close_56 post k26 x1 x2 x3 x4 g) : Gd (kM b D A cy ad) 5 56 [(0, .ref (ad 0)), (1, .int x1), (2, .int x2), (3, .int x3), (4, .int x4)] [] g := by
  unfold B_X6_close_56 at h
  refine gd_incn X 4 1 dX6_close_56 rfl (by decide) (by decide) (fun z1 => [(4, .int z1), (0, .ref (ad 0)), (1, .int x1), (2, .int x2), (3, .int x3)]) (fun _ => rfl) (fun z1 ez1 => ?_)
  have h := h z1 ez1
  refine gd_goto (tgt := 26) X dX6_close_59 (by decide) ?_
  refine gd_sub [1, 2, 3, 4, 0] rfl ?_
  exact hk26 _ _ _ _ _ h
def B_X6_close_72 (post : Int32 → SG → Prop) (x1 x2 x3 x4 y0 : Int32) (g : SG) : Prop :=
  post y0 g
set_option maxRecDepth 100000 in
theorem w_X6_close_72 {b : BX} {D : va_G} {A : Nat → Prop} {cy : Nat → ClassId} {ad : Nat → Nat} {post : Int32 → SG → Prop} (X : Cx (kM b D A cy ad) cX6_close RX6 5 5 114) (hR : Rx (kM b D A cy ad) (some .int) (oI post)) (x1 x2 x3 x4 y0 : Int32) (g : SG) (h : B_X6_close_72 post x1 x2 x3 x4 y0 g) : Gd (kM b D A cy ad) 5 72 [(0, .ref (ad 0)), (1, .int x1), (2, .int x2), (3, .int x3), (4, .int x4)] [.int y0] g := by
  unfold B_X6_close_72 at h
  exact gd_iret X hR dX6_close_72 ⟨_, rfl, h⟩
def B_X6_close_26 (post : Int32 → SG → Prop) (k26 : Int32 → Int32 → Int32 → Int32 → SG → Prop) (x1 x2 x3 x4 : Int32) (g : SG) : Prop :=
  ((11520 ≤ x4) → ((0 ≤ x2) → B_X6_close_72 post x1 x2 x3 x4 (-9) g) ∧ ((¬ 0 ≤ x2) → B_X6_close_72 post x1 x2 x3 x4 x3 g)) ∧ ((¬ 11520 ≤ x4) → vp_in x4 11520 ∧ (((x1 < (g 7 x4.toNatClampNeg)) → B_X6_close_56 post k26 x1 x2 x3 x4 g) ∧ ((¬ x1 < (g 7 x4.toNatClampNeg)) → ((¬ x3 = x2) → ∀ z5 : Int32, z5 = x3 + 1 → B_X6_close_56 post k26 x1 x2 z5 x4 g) ∧ ((x3 = x2) → post x4 g))))
set_option maxRecDepth 100000 in
theorem w_X6_close_26 {b : BX} {D : va_G} {A : Nat → Prop} {cy : Nat → ClassId} {ad : Nat → Nat} {post : Int32 → SG → Prop} {k26 : Int32 → Int32 → Int32 → Int32 → SG → Prop} (X : Cx (kM b D A cy ad) cX6_close RX6 5 5 114) (hR : Rx (kM b D A cy ad) (some .int) (oI post)) (hk26 : ∀ (x1 x2 x3 x4 : Int32) (g : SG), k26 x1 x2 x3 x4 g → Gd (kM b D A cy ad) 5 26 [(0, .ref (ad 0)), (1, .int x1), (2, .int x2), (3, .int x3), (4, .int x4)] [] g) (x1 x2 x3 x4 : Int32) (g : SG) (h : B_X6_close_26 post k26 x1 x2 x3 x4 g) : Gd (kM b D A cy ad) 5 26 [(0, .ref (ad 0)), (1, .int x1), (2, .int x2), (3, .int x3), (4, .int x4)] [] g := by
  unfold B_X6_close_26 at h
  refine gd_iload X dX6_close_26 4 rfl ?_
  refine gd_sipush (v := 11520) X dX6_close_28 (by decide) ?_
  refine gd_icmp_ge (tgt := 62) X dX6_close_31 (by decide) (fun c1 => ?_) (fun c1 => ?_)
  · have h := h.1 c1
    refine gd_iload_n X dX6_close_62 2 rfl ?_
    refine gd_if_ge (tgt := 70) X dX6_close_63 (by decide) (fun c2 => ?_) (fun c2 => ?_)
    · have h := h.1 c2
      refine gd_bipush (v := (-9)) X dX6_close_70 (by decide) ?_
      exact w_X6_close_72 X hR _ _ _ _ _ _ h
    · have h := h.2 c2
      refine gd_iload_n X dX6_close_66 3 rfl ?_
      refine gd_goto (tgt := 72) X dX6_close_67 (by decide) ?_
      exact w_X6_close_72 X hR _ _ _ _ _ _ h
  · have h := h.2 c1
    refine gd_aload_n X dX6_close_34 0 rfl ?_
    refine gX6_29 X dX6_close_35 ?_
    refine gd_iload X dX6_close_38 4 rfl ?_
    refine al_M7 X h.1 _ rfl dX6_close_40 ?_
    have h := h.2
    refine gd_iload_n X dX6_close_41 1 rfl ?_
    refine gd_icmp_gt (tgt := 56) X dX6_close_42 (by decide) (fun c3 => ?_) (fun c3 => ?_)
    · have h := h.1 c3
      exact w_X6_close_56 X hR hk26 _ _ _ _ _ h
    · have h := h.2 c3
      refine gd_iload_n X dX6_close_45 3 rfl ?_
      refine gd_iload_n X dX6_close_46 2 rfl ?_
      refine gd_icmp_ne (tgt := 53) X dX6_close_47 (by decide) (fun c4 => ?_) (fun c4 => ?_)
      · have h := h.1 c4
        refine gd_incn X 3 1 dX6_close_53 rfl (by decide) (by decide) (fun z5 => [(3, .int z5), (0, .ref (ad 0)), (1, .int x1), (2, .int x2), (4, .int x4)]) (fun _ => rfl) (fun z5 ez5 => ?_)
        have h := h z5 ez5
        refine gd_sub [1, 2, 3, 0, 4] rfl ?_
        exact w_X6_close_56 X hR hk26 _ _ _ _ _ h
      · have h := h.2 c4
        refine gd_iload X dX6_close_50 4 rfl ?_
        exact gd_iret X hR dX6_close_52 ⟨_, rfl, h⟩
def P_X6_close_26 (post : Int32 → SG → Prop) (n : Nat) : Int32 → Int32 → Int32 → Int32 → SG → Prop := Nat.rec (motive := fun _ => Int32 → Int32 → Int32 → Int32 → SG → Prop) (fun _ _ _ _ _ => False) (fun _ kk x1 x2 x3 x4 g => B_X6_close_26 post kk x1 x2 x3 x4 g) n
set_option maxRecDepth 100000 in
theorem wL_X6_close_26 {b : BX} {D : va_G} {A : Nat → Prop} {cy : Nat → ClassId} {ad : Nat → Nat} {post : Int32 → SG → Prop} (X : Cx (kM b D A cy ad) cX6_close RX6 5 5 114) (hR : Rx (kM b D A cy ad) (some .int) (oI post)) : ∀ (n : Nat) (x1 x2 x3 x4 : Int32) (g : SG), P_X6_close_26 post n x1 x2 x3 x4 g → Gd (kM b D A cy ad) 5 26 [(0, .ref (ad 0)), (1, .int x1), (2, .int x2), (3, .int x3), (4, .int x4)] [] g := by
  intro n
  induction n with
  | zero => intro x1 x2 x3 x4 g h; exact h.elim
  | succ n ih => intro x1 x2 x3 x4 g h; exact w_X6_close_26 X hR ih x1 x2 x3 x4 g h
def B_X6_close_0 (post : Int32 → SG → Prop) (x1 x2 : Int32) (g : SG) : Prop :=
  B_X6_in_0 (fun r1 => ((r1 = 0) → B_X6_close_15 post x1 x2 g) ∧ ((¬ r1 = 0) → (((-1) ≤ x2) → B_X6_tells_0 (fun g4 => ∃ n : Nat, P_X6_close_26 post n x1 x2 0 0 g4) g) ∧ ((¬ (-1) ≤ x2) → B_X6_close_15 post x1 x2 g))) x1 0 120
set_option maxRecDepth 100000 in
theorem w_X6_close_0 {b : BX} {D : va_G} {A : Nat → Prop} {cy : Nat → ClassId} {ad : Nat → Nat} {post : Int32 → SG → Prop} (X : Cx (kM b D A cy ad) cX6_close RX6 5 5 114) (hR : Rx (kM b D A cy ad) (some .int) (oI post)) (x1 x2 : Int32) (g : SG) (h : B_X6_close_0 post x1 x2 g) : Gd (kM b D A cy ad) 5 0 [(0, .ref (ad 0)), (1, .int x1), (2, .int x2)] [] g := by
  unfold B_X6_close_0 at h
  refine gd_iload_n X dX6_close_0 1 rfl ?_
  refine gd_iconst (v := 0) X dX6_close_1 (by decide) ?_
  refine gd_bipush (v := 120) X dX6_close_2 (by decide) ?_
  refine gd_callSr (As := [.int x1, .int 0, .int 120]) (rest := []) X lk_X6_47 (c_X6_in _ _ _ _ _ _ _ h) ⟨by decide, by decide⟩ rfl rfl (Nat.le_of_ble_eq_true rfl) dX6_close_4 (fun r1 h => ?_)
  refine gd_if_eq (tgt := 15) X dX6_close_7 (by decide) (fun c2 => ?_) (fun c2 => ?_)
  · have h := h.1 c2
    exact w_X6_close_15 X hR _ _ _ h
  · have h := h.2 c2
    refine gd_iload_n X dX6_close_10 2 rfl ?_
    refine gd_iconst (v := (-1)) X dX6_close_11 (by decide) ?_
    refine gd_icmp_ge (tgt := 17) X dX6_close_12 (by decide) (fun c3 => ?_) (fun c3 => ?_)
    · have h := h.1 c3
      refine gd_aload_n X dX6_close_17 0 rfl ?_
      refine gd_callVv (As := []) (rest := []) X lk_X6_109 (c_X6_tells _ _ _ _ _ _ _ h) 0 rfl rfl ⟨by decide, by decide⟩ rfl rfl (Nat.le_of_ble_eq_true rfl) dX6_close_18 (fun g4 h => ?_)
      refine gd_iconst (v := 0) X dX6_close_21 (by decide) ?_
      refine gd_istore_n (lv' := [(3, .int 0), (0, .ref (ad 0)), (1, .int x1), (2, .int x2)]) X dX6_close_22 (by decide) rfl ?_
      refine gd_iconst (v := 0) X dX6_close_23 (by decide) ?_
      refine gd_istore (lv' := [(4, .int 0), (3, .int 0), (0, .ref (ad 0)), (1, .int x1), (2, .int x2)]) X dX6_close_24 (by decide) rfl ?_
      refine gd_sub [2, 3, 4, 1, 0] rfl ?_
      obtain ⟨n, h⟩ := h
      exact wL_X6_close_26 X hR n _ _ _ _ _ h
    · have h := h.2 c3
      exact w_X6_close_15 X hR _ _ _ h
set_option maxRecDepth 100000 in
theorem c_X6_close (l : Launch) (D : va_G) (A : Nat → Prop) (cy : Nat → ClassId) (ad : Nat → Nat) (post : Int32 → SG → Prop) (x1 x2 : Int32) (g : SG) (hB : B_X6_close_0 post x1 x2 g) : Mt l (eM D A cy ad) yX6_close cX6_close 5 (some .int) 5 114 [.ref (ad 0), .int x1, .int x2] g (oI post) := mt_of (plainFor_of_name (by decide)) (Nat.le_of_ble_eq_true rfl) (fun b X hR => w_X6_close_0 X hR x1 x2 g hB)
def B_X6_apart_56 (post : Int32 → SG → Prop) (x1 y0 : Int32) (g : SG) : Prop :=
  post y0 g
set_option maxRecDepth 100000 in
theorem w_X6_apart_56 {b : BX} {D : va_G} {A : Nat → Prop} {cy : Nat → ClassId} {ad : Nat → Nat} {post : Int32 → SG → Prop} (X : Cx (kM b D A cy ad) cX6_apart RX6 2 5 114) (hR : Rx (kM b D A cy ad) (some .int) (oI post)) (x1 y0 : Int32) (g : SG) (h : B_X6_apart_56 post x1 y0 g) : Gd (kM b D A cy ad) 2 56 [(0, .ref (ad 0)), (1, .int x1)] [.int y0] g := by
  unfold B_X6_apart_56 at h
  exact gd_iret X hR dX6_apart_56 ⟨_, rfl, h⟩
def B_X6_apart_0 (post : Int32 → SG → Prop) (g : SG) : Prop :=
  B_X6_tells_0 (fun g1 => ((¬ (g1 0 4) = 0) → B_X6_lastTime_0 (fun r3 => ∀ z4 : Int32, z4 = (jrem ((((g1 1 3) / 8) - (r3 / 8)) + 1440) 1440) → ((z4 ≤ 720) → B_X6_apart_56 post z4 z4 g1) ∧ ((¬ z4 ≤ 720) → B_X6_apart_56 post z4 ((z4 - 1440)) g1)) g1) ∧ (((g1 0 4) = 0) → post (-1000000) g1)) g
set_option maxRecDepth 100000 in
theorem w_X6_apart_0 {b : BX} {D : va_G} {A : Nat → Prop} {cy : Nat → ClassId} {ad : Nat → Nat} {post : Int32 → SG → Prop} (X : Cx (kM b D A cy ad) cX6_apart RX6 2 5 114) (hR : Rx (kM b D A cy ad) (some .int) (oI post)) (g : SG) (h : B_X6_apart_0 post g) : Gd (kM b D A cy ad) 2 0 [(0, .ref (ad 0))] [] g := by
  unfold B_X6_apart_0 at h
  refine gd_aload_n X dX6_apart_0 0 rfl ?_
  refine gd_callVv (As := []) (rest := []) X lk_X6_109 (c_X6_tells _ _ _ _ _ _ _ h) 0 rfl rfl ⟨by decide, by decide⟩ rfl rfl (Nat.le_of_ble_eq_true rfl) dX6_apart_1 (fun g1 h => ?_)
  refine gd_aload_n X dX6_apart_4 0 rfl ?_
  refine gX6_79 X dX6_apart_5 ?_
  refine gd_if_ne (tgt := 14) X dX6_apart_8 (by decide) (fun c2 => ?_) (fun c2 => ?_)
  · have h := h.1 c2
    refine gd_aload_n X dX6_apart_14 0 rfl ?_
    refine gX6_7 X dX6_apart_15 ?_
    refine gd_iconst (v := 3) X dX6_apart_18 (by decide) ?_
    refine al_M1 X vi_3_126 3 tc_3 dX6_apart_19 ?_
    refine gd_bipush (v := 8) X dX6_apart_20 (by decide) ?_
    refine gd_idiv X dX6_apart_22 (by decide) ?_
    refine gd_aload_n X dX6_apart_23 0 rfl ?_
    refine gd_callVr (As := []) (rest := [.int (((g1 1 3) / 8))]) X lk_X6_116 (c_X6_lastTime _ _ _ _ _ _ _ h) 0 rfl rfl ⟨by decide, by decide⟩ rfl rfl (Nat.le_of_ble_eq_true rfl) dX6_apart_24 (fun r3 h => ?_)
    refine gd_bipush (v := 8) X dX6_apart_27 (by decide) ?_
    refine gd_idiv X dX6_apart_29 (by decide) ?_
    refine gd_isub X dX6_apart_30 ?_
    refine gd_sipush (v := 1440) X dX6_apart_31 (by decide) ?_
    refine gd_iadd X dX6_apart_34 ?_
    refine gd_sipush (v := 1440) X dX6_apart_35 (by decide) ?_
    refine gd_jrem X dX6_apart_38 (by decide) ?_
    refine gd_topi (fun z4 ez4 => ?_)
    have h := h z4 ez4
    refine gd_istore_n (lv' := [(1, .int z4), (0, .ref (ad 0))]) X dX6_apart_39 (by decide) rfl ?_
    refine gd_iload_n X dX6_apart_40 0 rfl ?_
    refine gd_sipush (v := 720) X dX6_apart_41 (by decide) ?_
    refine gd_icmp_le (tgt := 55) X dX6_apart_44 (by decide) (fun c5 => ?_) (fun c5 => ?_)
    · have h := h.1 c5
      refine gd_iload_n X dX6_apart_55 0 rfl ?_
      refine gd_sub [1, 0] rfl ?_
      exact w_X6_apart_56 X hR _ _ _ h
    · have h := h.2 c5
      refine gd_iload_n X dX6_apart_47 0 rfl ?_
      refine gd_sipush (v := 1440) X dX6_apart_48 (by decide) ?_
      refine gd_isub X dX6_apart_51 ?_
      refine gd_goto (tgt := 56) X dX6_apart_52 (by decide) ?_
      refine gd_sub [1, 0] rfl ?_
      exact w_X6_apart_56 X hR _ _ _ h
  · have h := h.2 c2
    refine gd_ldc (v := (-1000000)) X q_652 dX6_apart_11 ?_
    exact gd_iret X hR dX6_apart_13 ⟨_, rfl, h⟩
set_option maxRecDepth 100000 in
theorem c_X6_apart (l : Launch) (D : va_G) (A : Nat → Prop) (cy : Nat → ClassId) (ad : Nat → Nat) (post : Int32 → SG → Prop) (g : SG) (hB : B_X6_apart_0 post g) : Mt l (eM D A cy ad) yX6_apart cX6_apart 2 (some .int) 5 114 [.ref (ad 0)] g (oI post) := mt_of (plainFor_of_name (by decide)) (Nat.le_of_ble_eq_true rfl) (fun b X hR => w_X6_apart_0 X hR g hB)
def B_X6_clock_21 (post : Int32 → SG → Prop) (x1 : Int32) (g : SG) : Prop :=
  post (-1000000) g
set_option maxRecDepth 100000 in
theorem w_X6_clock_21 {b : BX} {D : va_G} {A : Nat → Prop} {cy : Nat → ClassId} {ad : Nat → Nat} {post : Int32 → SG → Prop} (X : Cx (kM b D A cy ad) cX6_clock RX6 3 6 135) (hR : Rx (kM b D A cy ad) (some .int) (oI post)) (x1 : Int32) (g : SG) (h : B_X6_clock_21 post x1 g) : Gd (kM b D A cy ad) 3 21 [(0, .ref (ad 0)), (1, .int x1)] [] g := by
  unfold B_X6_clock_21 at h
  refine gd_ldc (v := (-1000000)) X q_652 dX6_clock_21 ?_
  exact gd_iret X hR dX6_clock_23 ⟨_, rfl, h⟩
def B_X6_clock_89 (post : Int32 → SG → Prop) (x1 x2 y0 : Int32) (g : SG) : Prop :=
  post y0 g
set_option maxRecDepth 100000 in
theorem w_X6_clock_89 {b : BX} {D : va_G} {A : Nat → Prop} {cy : Nat → ClassId} {ad : Nat → Nat} {post : Int32 → SG → Prop} (X : Cx (kM b D A cy ad) cX6_clock RX6 3 6 135) (hR : Rx (kM b D A cy ad) (some .int) (oI post)) (x1 x2 y0 : Int32) (g : SG) (h : B_X6_clock_89 post x1 x2 y0 g) : Gd (kM b D A cy ad) 3 89 [(0, .ref (ad 0)), (1, .int x1), (2, .int x2)] [.int y0] g := by
  unfold B_X6_clock_89 at h
  exact gd_iret X hR dX6_clock_89 ⟨_, rfl, h⟩
def B_X6_clock_0 (post : Int32 → SG → Prop) (x1 : Int32) (g : SG) : Prop :=
  B_X6_in_0 (fun r1 => ((r1 = 0) → B_X6_clock_21 post x1 g) ∧ ((¬ r1 = 0) → ((¬ (g 1 3) = (-9)) → ∀ z4 : Int32, z4 = ((g 1 2) * (g 1 4)) → ((x1.toInt < 4 ∨ 7 < x1.toInt) → B_X6_partOf_0 (fun r5 => post r5 g) (g 1 3) x1) ∧ (x1.toInt = 4 → post (g 1 4) g) ∧ (x1.toInt = 5 → post z4 g) ∧ (x1.toInt = 6 → ((z4 ≤ 500) → B_X6_clock_89 post x1 z4 0 g) ∧ ((¬ z4 ≤ 500) → B_X6_clock_89 post x1 z4 1 g)) ∧ (x1.toInt = 7 → B_X6_apart_0 (fun r7 g8 => post r7 g8) g)) ∧ (((g 1 3) = (-9)) → B_X6_clock_21 post x1 g))) x1 0 7
set_option maxRecDepth 100000 in
theorem w_X6_clock_0 {b : BX} {D : va_G} {A : Nat → Prop} {cy : Nat → ClassId} {ad : Nat → Nat} {post : Int32 → SG → Prop} (X : Cx (kM b D A cy ad) cX6_clock RX6 3 6 135) (hR : Rx (kM b D A cy ad) (some .int) (oI post)) (x1 : Int32) (g : SG) (h : B_X6_clock_0 post x1 g) : Gd (kM b D A cy ad) 3 0 [(0, .ref (ad 0)), (1, .int x1)] [] g := by
  unfold B_X6_clock_0 at h
  refine gd_iload_n X dX6_clock_0 1 rfl ?_
  refine gd_iconst (v := 0) X dX6_clock_1 (by decide) ?_
  refine gd_bipush (v := 7) X dX6_clock_2 (by decide) ?_
  refine gd_callSr (As := [.int x1, .int 0, .int 7]) (rest := []) X lk_X6_47 (c_X6_in _ _ _ _ _ _ _ h) ⟨by decide, by decide⟩ rfl rfl (Nat.le_of_ble_eq_true rfl) dX6_clock_4 (fun r1 h => ?_)
  refine gd_if_eq (tgt := 21) X dX6_clock_7 (by decide) (fun c2 => ?_) (fun c2 => ?_)
  · have h := h.1 c2
    exact w_X6_clock_21 X hR _ _ h
  · have h := h.2 c2
    refine gd_aload_n X dX6_clock_10 0 rfl ?_
    refine gX6_7 X dX6_clock_11 ?_
    refine gd_iconst (v := 3) X dX6_clock_14 (by decide) ?_
    refine al_M1 X vi_3_126 3 tc_3 dX6_clock_15 ?_
    refine gd_bipush (v := (-9)) X dX6_clock_16 (by decide) ?_
    refine gd_icmp_ne (tgt := 24) X dX6_clock_18 (by decide) (fun c3 => ?_) (fun c3 => ?_)
    · have h := h.1 c3
      refine gd_aload_n X dX6_clock_24 0 rfl ?_
      refine gX6_7 X dX6_clock_25 ?_
      refine gd_iconst (v := 2) X dX6_clock_28 (by decide) ?_
      refine al_M1 X vi_2_126 2 tc_2 dX6_clock_29 ?_
      refine gd_aload_n X dX6_clock_30 0 rfl ?_
      refine gX6_7 X dX6_clock_31 ?_
      refine gd_iconst (v := 4) X dX6_clock_34 (by decide) ?_
      refine al_M1 X vi_4_126 4 tc_4 dX6_clock_35 ?_
      refine gd_imul X dX6_clock_36 ?_
      refine gd_topi (fun z4 ez4 => ?_)
      have h := h z4 ez4
      refine gd_istore_n (lv' := [(2, .int z4), (0, .ref (ad 0)), (1, .int x1)]) X dX6_clock_37 (by decide) rfl ?_
      refine gd_iload_n X dX6_clock_38 2 rfl ?_
      refine gd_table (tgt := 95) X dX6_clock_39 (by decide) [68, 75, 77, 90] (by decide) (by decide) (fun c9 => ?_) ⟨fun c9 => ?_, fun c9 => ?_, fun c9 => ?_, fun c9 => ?_, trivial⟩
      · have h := h.1 (by omega)
        refine gd_aload_n X dX6_clock_95 1 rfl ?_
        refine gX6_7 X dX6_clock_96 ?_
        refine gd_iconst (v := 3) X dX6_clock_99 (by decide) ?_
        refine al_M1 X vi_3_126 3 tc_3 dX6_clock_100 ?_
        refine gd_iload_n X dX6_clock_101 2 rfl ?_
        refine gd_callSr (As := [.int ((g 1 3)), .int x1]) (rest := []) X lk_X6_134 (c_X6_partOf _ _ _ _ _ _ h) ⟨by decide, by decide⟩ rfl rfl (Nat.le_of_ble_eq_true rfl) dX6_clock_102 (fun r5 h => ?_)
        exact gd_iret X hR dX6_clock_105 ⟨_, rfl, h⟩
      · have h := h.2.1 (by omega)
        refine gd_aload_n X dX6_clock_68 1 rfl ?_
        refine gX6_7 X dX6_clock_69 ?_
        refine gd_iconst (v := 4) X dX6_clock_72 (by decide) ?_
        refine al_M1 X vi_4_126 4 tc_4 dX6_clock_73 ?_
        exact gd_iret X hR dX6_clock_74 ⟨_, rfl, h⟩
      · have h := h.2.2.1 (by omega)
        refine gd_iload_n X dX6_clock_75 0 rfl ?_
        exact gd_iret X hR dX6_clock_76 ⟨_, rfl, h⟩
      · have h := h.2.2.2.1 (by omega)
        refine gd_iload_n X dX6_clock_77 0 rfl ?_
        refine gd_sipush (v := 500) X dX6_clock_78 (by decide) ?_
        refine gd_icmp_le (tgt := 88) X dX6_clock_81 (by decide) (fun c6 => ?_) (fun c6 => ?_)
        · have h := h.1 c6
          refine gd_iconst (v := 0) X dX6_clock_88 (by decide) ?_
          refine gd_sub [1, 2, 0] rfl ?_
          exact w_X6_clock_89 X hR _ _ _ _ h
        · have h := h.2 c6
          refine gd_iconst (v := 1) X dX6_clock_84 (by decide) ?_
          refine gd_goto (tgt := 89) X dX6_clock_85 (by decide) ?_
          refine gd_sub [1, 2, 0] rfl ?_
          exact w_X6_clock_89 X hR _ _ _ _ h
      · have h := h.2.2.2.2 (by omega)
        refine gd_aload_n X dX6_clock_90 1 rfl ?_
        refine gd_callVi (As := []) (rest := []) X lk_X6_145 (c_X6_apart _ _ _ _ _ _ _ h) 0 rfl rfl ⟨by decide, by decide⟩ rfl rfl (Nat.le_of_ble_eq_true rfl) dX6_clock_91 (fun r7 g8 h => ?_)
        exact gd_iret X hR dX6_clock_94 ⟨_, rfl, h⟩
    · have h := h.2 c3
      exact w_X6_clock_21 X hR _ _ h
set_option maxRecDepth 100000 in
theorem c_X6_clock (l : Launch) (D : va_G) (A : Nat → Prop) (cy : Nat → ClassId) (ad : Nat → Nat) (post : Int32 → SG → Prop) (x1 : Int32) (g : SG) (hB : B_X6_clock_0 post x1 g) : Mt l (eM D A cy ad) yX6_clock cX6_clock 3 (some .int) 6 135 [.ref (ad 0), .int x1] g (oI post) := mt_of (plainFor_of_name (by decide)) (Nat.le_of_ble_eq_true rfl) (fun b X hR => w_X6_clock_0 X hR x1 g hB)
def B_X6_keep_20 (post : Int32 → SG → Prop) (k20 : Int32 → Int32 → SG → Prop) (x1 x2 : Int32) (g : SG) : Prop :=
  ((126 ≤ x2) → post (g 1 0) g) ∧ ((¬ 126 ≤ x2) → vp_in x2 126 ∧ (vp_in ((126 * x1) + x2) 252 ∧ (∀ g2 : SG, g2 = sput g 4 ((126 * x1) + x2).toNatClampNeg (g 1 x2.toNatClampNeg) → ∀ z3 : Int32, z3 = x2 + 1 → k20 x1 z3 g2)))
set_option maxRecDepth 100000 in
theorem w_X6_keep_20 {b : BX} {D : va_G} {A : Nat → Prop} {cy : Nat → ClassId} {ad : Nat → Nat} {post : Int32 → SG → Prop} {k20 : Int32 → Int32 → SG → Prop} (X : Cx (kM b D A cy ad) cX6_keep RX6 3 1 22) (hR : Rx (kM b D A cy ad) (some .int) (oI post)) (hk20 : ∀ (x1 x2 : Int32) (g : SG), k20 x1 x2 g → Gd (kM b D A cy ad) 3 20 [(0, .ref (ad 0)), (1, .int x1), (2, .int x2)] [] g) (x1 x2 : Int32) (g : SG) (h : B_X6_keep_20 post k20 x1 x2 g) : Gd (kM b D A cy ad) 3 20 [(0, .ref (ad 0)), (1, .int x1), (2, .int x2)] [] g := by
  unfold B_X6_keep_20 at h
  refine gd_iload_n X dX6_keep_20 2 rfl ?_
  refine gd_bipush (v := 126) X dX6_keep_21 (by decide) ?_
  refine gd_icmp_ge (tgt := 49) X dX6_keep_23 (by decide) (fun c1 => ?_) (fun c1 => ?_)
  · have h := h.1 c1
    refine gd_aload_n X dX6_keep_49 0 rfl ?_
    refine gX6_7 X dX6_keep_50 ?_
    refine gd_iconst (v := 0) X dX6_keep_53 (by decide) ?_
    refine al_M1 X vi_0_126 0 tc_0 dX6_keep_54 ?_
    exact gd_iret X hR dX6_keep_55 ⟨_, rfl, h⟩
  · have h := h.2 c1
    refine gd_aload_n X dX6_keep_26 0 rfl ?_
    refine gX6_20 X dX6_keep_27 ?_
    refine gd_bipush (v := 126) X dX6_keep_30 (by decide) ?_
    refine gd_iload_n X dX6_keep_32 1 rfl ?_
    refine gd_imul X dX6_keep_33 ?_
    refine gd_iload_n X dX6_keep_34 2 rfl ?_
    refine gd_iadd X dX6_keep_35 ?_
    refine gd_aload_n X dX6_keep_36 0 rfl ?_
    refine gX6_7 X dX6_keep_37 ?_
    refine gd_iload_n X dX6_keep_40 2 rfl ?_
    refine al_M1 X h.1 _ rfl dX6_keep_41 ?_
    have h := h.2
    refine as_M4 X h.1 _ rfl dX6_keep_42 (fun g2 eg2 => ?_)
    have h := h.2 g2 eg2
    refine gd_incn X 2 1 dX6_keep_43 rfl (by decide) (by decide) (fun z3 => [(2, .int z3), (0, .ref (ad 0)), (1, .int x1)]) (fun _ => rfl) (fun z3 ez3 => ?_)
    have h := h z3 ez3
    refine gd_goto (tgt := 20) X dX6_keep_46 (by decide) ?_
    refine gd_sub [1, 2, 0] rfl ?_
    exact hk20 _ _ _ h
def P_X6_keep_20 (post : Int32 → SG → Prop) (n : Nat) : Int32 → Int32 → SG → Prop := Nat.rec (motive := fun _ => Int32 → Int32 → SG → Prop) (fun _ _ _ => False) (fun _ kk x1 x2 g => B_X6_keep_20 post kk x1 x2 g) n
set_option maxRecDepth 100000 in
theorem wL_X6_keep_20 {b : BX} {D : va_G} {A : Nat → Prop} {cy : Nat → ClassId} {ad : Nat → Nat} {post : Int32 → SG → Prop} (X : Cx (kM b D A cy ad) cX6_keep RX6 3 1 22) (hR : Rx (kM b D A cy ad) (some .int) (oI post)) : ∀ (n : Nat) (x1 x2 : Int32) (g : SG), P_X6_keep_20 post n x1 x2 g → Gd (kM b D A cy ad) 3 20 [(0, .ref (ad 0)), (1, .int x1), (2, .int x2)] [] g := by
  intro n
  induction n with
  | zero => intro x1 x2 g h; exact h.elim
  | succ n ih => intro x1 x2 g h; exact w_X6_keep_20 X hR ih x1 x2 g h
def B_X6_keep_0 (post : Int32 → SG → Prop) (x1 : Int32) (g : SG) : Prop :=
  B_X6_in_0 (fun r1 => ((¬ r1 = 0) → vp_in x1 2 ∧ (∀ g3 : SG, g3 = sput g 3 x1.toNatClampNeg (vp_nar .boolean 1) → ∃ n : Nat, P_X6_keep_20 post n x1 0 g3)) ∧ ((r1 = 0) → post (-1) g)) x1 0 1
set_option maxRecDepth 100000 in
theorem w_X6_keep_0 {b : BX} {D : va_G} {A : Nat → Prop} {cy : Nat → ClassId} {ad : Nat → Nat} {post : Int32 → SG → Prop} (X : Cx (kM b D A cy ad) cX6_keep RX6 3 1 22) (hR : Rx (kM b D A cy ad) (some .int) (oI post)) (x1 : Int32) (g : SG) (h : B_X6_keep_0 post x1 g) : Gd (kM b D A cy ad) 3 0 [(0, .ref (ad 0)), (1, .int x1)] [] g := by
  unfold B_X6_keep_0 at h
  refine gd_iload_n X dX6_keep_0 1 rfl ?_
  refine gd_iconst (v := 0) X dX6_keep_1 (by decide) ?_
  refine gd_iconst (v := 1) X dX6_keep_2 (by decide) ?_
  refine gd_callSr (As := [.int x1, .int 0, .int 1]) (rest := []) X lk_X6_47 (c_X6_in _ _ _ _ _ _ _ h) ⟨by decide, by decide⟩ rfl rfl (Nat.le_of_ble_eq_true rfl) dX6_keep_3 (fun r1 h => ?_)
  refine gd_if_ne (tgt := 11) X dX6_keep_6 (by decide) (fun c2 => ?_) (fun c2 => ?_)
  · have h := h.1 c2
    refine gd_aload_n X dX6_keep_11 0 rfl ?_
    refine gX6_16 X dX6_keep_12 ?_
    refine gd_iload_n X dX6_keep_15 1 rfl ?_
    refine gd_iconst (v := 1) X dX6_keep_16 (by decide) ?_
    refine as_M3 X h.1 _ rfl dX6_keep_17 (fun g3 eg3 => ?_)
    have h := h.2 g3 eg3
    refine gd_iconst (v := 0) X dX6_keep_18 (by decide) ?_
    refine gd_istore_n (lv' := [(2, .int 0), (0, .ref (ad 0)), (1, .int x1)]) X dX6_keep_19 (by decide) rfl ?_
    refine gd_sub [1, 2, 0] rfl ?_
    obtain ⟨n, h⟩ := h
    exact wL_X6_keep_20 X hR n _ _ _ h
  · have h := h.2 c2
    refine gd_iconst (v := (-1)) X dX6_keep_9 (by decide) ?_
    exact gd_iret X hR dX6_keep_10 ⟨_, rfl, h⟩
set_option maxRecDepth 100000 in
theorem c_X6_keep (l : Launch) (D : va_G) (A : Nat → Prop) (cy : Nat → ClassId) (ad : Nat → Nat) (post : Int32 → SG → Prop) (x1 : Int32) (g : SG) (hB : B_X6_keep_0 post x1 g) : Mt l (eM D A cy ad) yX6_keep cX6_keep 3 (some .int) 1 22 [.ref (ad 0), .int x1] g (oI post) := mt_of (plainFor_of_name (by decide)) (Nat.le_of_ble_eq_true rfl) (fun b X hR => w_X6_keep_0 X hR x1 g hB)
def B_X6_back_25 (post : Int32 → SG → Prop) (k25 : Int32 → Int32 → SG → Prop) (x1 x2 : Int32) (g : SG) : Prop :=
  ((126 ≤ x2) → ∀ g2 : SG, g2 = sput g 0 0 0 → ∀ g3 : SG, g3 = sput g2 0 2 0 → post (g3 1 0) g3) ∧ ((¬ 126 ≤ x2) → vp_in ((126 * x1) + x2) 252 ∧ (vp_in x2 126 ∧ (∀ g4 : SG, g4 = sput g 1 x2.toNatClampNeg (g 4 ((126 * x1) + x2).toNatClampNeg) → ∀ z5 : Int32, z5 = x2 + 1 → k25 x1 z5 g4)))
set_option maxRecDepth 100000 in
theorem w_X6_back_25 {b : BX} {D : va_G} {A : Nat → Prop} {cy : Nat → ClassId} {ad : Nat → Nat} {post : Int32 → SG → Prop} {k25 : Int32 → Int32 → SG → Prop} (X : Cx (kM b D A cy ad) cX6_back RX6 3 1 22) (hR : Rx (kM b D A cy ad) (some .int) (oI post)) (hk25 : ∀ (x1 x2 : Int32) (g : SG), k25 x1 x2 g → Gd (kM b D A cy ad) 3 25 [(0, .ref (ad 0)), (1, .int x1), (2, .int x2)] [] g) (x1 x2 : Int32) (g : SG) (h : B_X6_back_25 post k25 x1 x2 g) : Gd (kM b D A cy ad) 3 25 [(0, .ref (ad 0)), (1, .int x1), (2, .int x2)] [] g := by
  unfold B_X6_back_25 at h
  refine gd_iload_n X dX6_back_25 2 rfl ?_
  refine gd_bipush (v := 126) X dX6_back_26 (by decide) ?_
  refine gd_icmp_ge (tgt := 54) X dX6_back_28 (by decide) (fun c1 => ?_) (fun c1 => ?_)
  · have h := h.1 c1
    refine gd_aload_n X dX6_back_54 0 rfl ?_
    refine gd_iconst (v := 0) X dX6_back_55 (by decide) ?_
    refine pX6_55 X dX6_back_56 (fun g2 eg2 => ?_)
    have h := h g2 eg2
    refine gd_aload_n X dX6_back_59 0 rfl ?_
    refine gd_iconst (v := 0) X dX6_back_60 (by decide) ?_
    refine pX6_58 X rfl rfl dX6_back_61 (fun g3 eg3 => ?_)
    have h := h g3 eg3
    refine gd_aload_n X dX6_back_64 0 rfl ?_
    refine gX6_7 X dX6_back_65 ?_
    refine gd_iconst (v := 0) X dX6_back_68 (by decide) ?_
    refine al_M1 X vi_0_126 0 tc_0 dX6_back_69 ?_
    exact gd_iret X hR dX6_back_70 ⟨_, rfl, h⟩
  · have h := h.2 c1
    refine gd_aload_n X dX6_back_31 0 rfl ?_
    refine gX6_7 X dX6_back_32 ?_
    refine gd_iload_n X dX6_back_35 2 rfl ?_
    refine gd_aload_n X dX6_back_36 0 rfl ?_
    refine gX6_20 X dX6_back_37 ?_
    refine gd_bipush (v := 126) X dX6_back_40 (by decide) ?_
    refine gd_iload_n X dX6_back_42 1 rfl ?_
    refine gd_imul X dX6_back_43 ?_
    refine gd_iload_n X dX6_back_44 2 rfl ?_
    refine gd_iadd X dX6_back_45 ?_
    refine al_M4 X h.1 _ rfl dX6_back_46 ?_
    have h := h.2
    refine as_M1 X h.1 _ rfl dX6_back_47 (fun g4 eg4 => ?_)
    have h := h.2 g4 eg4
    refine gd_incn X 2 1 dX6_back_48 rfl (by decide) (by decide) (fun z5 => [(2, .int z5), (0, .ref (ad 0)), (1, .int x1)]) (fun _ => rfl) (fun z5 ez5 => ?_)
    have h := h z5 ez5
    refine gd_goto (tgt := 25) X dX6_back_51 (by decide) ?_
    refine gd_sub [1, 2, 0] rfl ?_
    exact hk25 _ _ _ h
def P_X6_back_25 (post : Int32 → SG → Prop) (n : Nat) : Int32 → Int32 → SG → Prop := Nat.rec (motive := fun _ => Int32 → Int32 → SG → Prop) (fun _ _ _ => False) (fun _ kk x1 x2 g => B_X6_back_25 post kk x1 x2 g) n
set_option maxRecDepth 100000 in
theorem wL_X6_back_25 {b : BX} {D : va_G} {A : Nat → Prop} {cy : Nat → ClassId} {ad : Nat → Nat} {post : Int32 → SG → Prop} (X : Cx (kM b D A cy ad) cX6_back RX6 3 1 22) (hR : Rx (kM b D A cy ad) (some .int) (oI post)) : ∀ (n : Nat) (x1 x2 : Int32) (g : SG), P_X6_back_25 post n x1 x2 g → Gd (kM b D A cy ad) 3 25 [(0, .ref (ad 0)), (1, .int x1), (2, .int x2)] [] g := by
  intro n
  induction n with
  | zero => intro x1 x2 g h; exact h.elim
  | succ n ih => intro x1 x2 g h; exact w_X6_back_25 X hR ih x1 x2 g h
def B_X6_back_0 (post : Int32 → SG → Prop) (x1 : Int32) (g : SG) : Prop :=
  B_X6_in_0 (fun r1 => ((¬ r1 = 0) → vp_in x1 2 ∧ (((¬ (g 3 x1.toNatClampNeg) = 0) → ∃ n : Nat, P_X6_back_25 post n x1 0 g) ∧ (((g 3 x1.toNatClampNeg) = 0) → post (-2) g))) ∧ ((r1 = 0) → post (-1) g)) x1 0 1
set_option maxRecDepth 100000 in
theorem w_X6_back_0 {b : BX} {D : va_G} {A : Nat → Prop} {cy : Nat → ClassId} {ad : Nat → Nat} {post : Int32 → SG → Prop} (X : Cx (kM b D A cy ad) cX6_back RX6 3 1 22) (hR : Rx (kM b D A cy ad) (some .int) (oI post)) (x1 : Int32) (g : SG) (h : B_X6_back_0 post x1 g) : Gd (kM b D A cy ad) 3 0 [(0, .ref (ad 0)), (1, .int x1)] [] g := by
  unfold B_X6_back_0 at h
  refine gd_iload_n X dX6_back_0 1 rfl ?_
  refine gd_iconst (v := 0) X dX6_back_1 (by decide) ?_
  refine gd_iconst (v := 1) X dX6_back_2 (by decide) ?_
  refine gd_callSr (As := [.int x1, .int 0, .int 1]) (rest := []) X lk_X6_47 (c_X6_in _ _ _ _ _ _ _ h) ⟨by decide, by decide⟩ rfl rfl (Nat.le_of_ble_eq_true rfl) dX6_back_3 (fun r1 h => ?_)
  refine gd_if_ne (tgt := 11) X dX6_back_6 (by decide) (fun c2 => ?_) (fun c2 => ?_)
  · have h := h.1 c2
    refine gd_aload_n X dX6_back_11 0 rfl ?_
    refine gX6_16 X dX6_back_12 ?_
    refine gd_iload_n X dX6_back_15 1 rfl ?_
    refine al_M3 X h.1 _ rfl dX6_back_16 ?_
    have h := h.2
    refine gd_if_ne (tgt := 23) X dX6_back_17 (by decide) (fun c3 => ?_) (fun c3 => ?_)
    · have h := h.1 c3
      refine gd_iconst (v := 0) X dX6_back_23 (by decide) ?_
      refine gd_istore_n (lv' := [(2, .int 0), (0, .ref (ad 0)), (1, .int x1)]) X dX6_back_24 (by decide) rfl ?_
      refine gd_sub [1, 2, 0] rfl ?_
      obtain ⟨n, h⟩ := h
      exact wL_X6_back_25 X hR n _ _ _ h
    · have h := h.2 c3
      refine gd_bipush (v := (-2)) X dX6_back_20 (by decide) ?_
      exact gd_iret X hR dX6_back_22 ⟨_, rfl, h⟩
  · have h := h.2 c2
    refine gd_iconst (v := (-1)) X dX6_back_9 (by decide) ?_
    exact gd_iret X hR dX6_back_10 ⟨_, rfl, h⟩
set_option maxRecDepth 100000 in
theorem c_X6_back (l : Launch) (D : va_G) (A : Nat → Prop) (cy : Nat → ClassId) (ad : Nat → Nat) (post : Int32 → SG → Prop) (x1 : Int32) (g : SG) (hB : B_X6_back_0 post x1 g) : Mt l (eM D A cy ad) yX6_back cX6_back 3 (some .int) 1 22 [.ref (ad 0), .int x1] g (oI post) := mt_of (plainFor_of_name (by decide)) (Nat.le_of_ble_eq_true rfl) (fun b X hR => w_X6_back_0 X hR x1 g hB)
def B_X6_count_95 (post : Int32 → SG → Prop) (x1 y0 : Int32) (g : SG) : Prop :=
  post y0 g
set_option maxRecDepth 100000 in
theorem w_X6_count_95 {b : BX} {D : va_G} {A : Nat → Prop} {cy : Nat → ClassId} {ad : Nat → Nat} {post : Int32 → SG → Prop} (X : Cx (kM b D A cy ad) cX6_count RX6 2 5 114) (hR : Rx (kM b D A cy ad) (some .int) (oI post)) (x1 y0 : Int32) (g : SG) (h : B_X6_count_95 post x1 y0 g) : Gd (kM b D A cy ad) 2 95 [(0, .ref (ad 0)), (1, .int x1)] [.int y0] g := by
  unfold B_X6_count_95 at h
  exact gd_iret X hR dX6_count_95 ⟨_, rfl, h⟩
def B_X6_count_0 (post : Int32 → SG → Prop) (x1 : Int32) (g : SG) : Prop :=
  B_X6_tells_0 (fun g1 => ((x1.toInt < 0 ∨ 6 < x1.toInt) → post (-1) g1) ∧ (x1.toInt = 0 → post (g1 1 0) g1) ∧ (x1.toInt = 1 → post (g1 0 3) g1) ∧ (x1.toInt = 2 → post (g1 0 4) g1) ∧ (x1.toInt = 3 → post (g1 1 1) g1) ∧ (x1.toInt = 4 → post (g1 1 2) g1) ∧ (x1.toInt = 5 → ((¬ (g1 1 3) = (-9)) → B_X6_count_95 post x1 1 g1) ∧ (((g1 1 3) = (-9)) → B_X6_count_95 post x1 0 g1)) ∧ (x1.toInt = 6 → post (g1 0 0) g1)) g
set_option maxRecDepth 100000 in
theorem w_X6_count_0 {b : BX} {D : va_G} {A : Nat → Prop} {cy : Nat → ClassId} {ad : Nat → Nat} {post : Int32 → SG → Prop} (X : Cx (kM b D A cy ad) cX6_count RX6 2 5 114) (hR : Rx (kM b D A cy ad) (some .int) (oI post)) (x1 : Int32) (g : SG) (h : B_X6_count_0 post x1 g) : Gd (kM b D A cy ad) 2 0 [(0, .ref (ad 0)), (1, .int x1)] [] g := by
  unfold B_X6_count_0 at h
  refine gd_aload_n X dX6_count_0 0 rfl ?_
  refine gd_callVv (As := []) (rest := []) X lk_X6_109 (c_X6_tells _ _ _ _ _ _ _ h) 0 rfl rfl ⟨by decide, by decide⟩ rfl rfl (Nat.le_of_ble_eq_true rfl) dX6_count_1 (fun g1 h => ?_)
  refine gd_iload_n X dX6_count_4 1 rfl ?_
  refine gd_table (tgt := 101) X dX6_count_5 (by decide) [48, 55, 60, 65, 72, 79, 96] (by decide) (by decide) (fun c3 => ?_) ⟨fun c3 => ?_, fun c3 => ?_, fun c3 => ?_, fun c3 => ?_, fun c3 => ?_, fun c3 => ?_, fun c3 => ?_, trivial⟩
  · have h := h.1 (by omega)
    refine gd_iconst (v := (-1)) X dX6_count_101 (by decide) ?_
    exact gd_iret X hR dX6_count_102 ⟨_, rfl, h⟩
  · have h := h.2.1 (by omega)
    refine gd_aload_n X dX6_count_48 0 rfl ?_
    refine gX6_7 X dX6_count_49 ?_
    refine gd_iconst (v := 0) X dX6_count_52 (by decide) ?_
    refine al_M1 X vi_0_126 0 tc_0 dX6_count_53 ?_
    exact gd_iret X hR dX6_count_54 ⟨_, rfl, h⟩
  · have h := h.2.2.1 (by omega)
    refine gd_aload_n X dX6_count_55 0 rfl ?_
    refine gX6_76 X dX6_count_56 ?_
    exact gd_iret X hR dX6_count_59 ⟨_, rfl, h⟩
  · have h := h.2.2.2.1 (by omega)
    refine gd_aload_n X dX6_count_60 0 rfl ?_
    refine gX6_79 X dX6_count_61 ?_
    exact gd_iret X hR dX6_count_64 ⟨_, rfl, h⟩
  · have h := h.2.2.2.2.1 (by omega)
    refine gd_aload_n X dX6_count_65 0 rfl ?_
    refine gX6_7 X dX6_count_66 ?_
    refine gd_iconst (v := 1) X dX6_count_69 (by decide) ?_
    refine al_M1 X vi_1_126 1 tc_1 dX6_count_70 ?_
    exact gd_iret X hR dX6_count_71 ⟨_, rfl, h⟩
  · have h := h.2.2.2.2.2.1 (by omega)
    refine gd_aload_n X dX6_count_72 0 rfl ?_
    refine gX6_7 X dX6_count_73 ?_
    refine gd_iconst (v := 2) X dX6_count_76 (by decide) ?_
    refine al_M1 X vi_2_126 2 tc_2 dX6_count_77 ?_
    exact gd_iret X hR dX6_count_78 ⟨_, rfl, h⟩
  · have h := h.2.2.2.2.2.2.1 (by omega)
    refine gd_aload_n X dX6_count_79 0 rfl ?_
    refine gX6_7 X dX6_count_80 ?_
    refine gd_iconst (v := 3) X dX6_count_83 (by decide) ?_
    refine al_M1 X vi_3_126 3 tc_3 dX6_count_84 ?_
    refine gd_bipush (v := (-9)) X dX6_count_85 (by decide) ?_
    refine gd_icmp_ne (tgt := 94) X dX6_count_87 (by decide) (fun c2 => ?_) (fun c2 => ?_)
    · have h := h.1 c2
      refine gd_iconst (v := 1) X dX6_count_94 (by decide) ?_
      exact w_X6_count_95 X hR _ _ _ h
    · have h := h.2 c2
      refine gd_iconst (v := 0) X dX6_count_90 (by decide) ?_
      refine gd_goto (tgt := 95) X dX6_count_91 (by decide) ?_
      exact w_X6_count_95 X hR _ _ _ h
  · have h := h.2.2.2.2.2.2.2 (by omega)
    refine gd_aload_n X dX6_count_96 0 rfl ?_
    refine gX6_55 X dX6_count_97 ?_
    exact gd_iret X hR dX6_count_100 ⟨_, rfl, h⟩
set_option maxRecDepth 100000 in
theorem c_X6_count (l : Launch) (D : va_G) (A : Nat → Prop) (cy : Nat → ClassId) (ad : Nat → Nat) (post : Int32 → SG → Prop) (x1 : Int32) (g : SG) (hB : B_X6_count_0 post x1 g) : Mt l (eM D A cy ad) yX6_count cX6_count 2 (some .int) 5 114 [.ref (ad 0), .int x1] g (oI post) := mt_of (plainFor_of_name (by decide)) (Nat.le_of_ble_eq_true rfl) (fun b X hR => w_X6_count_0 X hR x1 g hB)
