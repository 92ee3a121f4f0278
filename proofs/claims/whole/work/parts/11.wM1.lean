def B_X6_remember_66 (post : SG → Prop) (x1 y0 y1 : Int32) (g : SG) : Prop :=
  ∀ g1 : SG, g1 = sput g 0 0 (y1 + y0) → ∀ g2 : SG, g2 = sput g1 0 2 0 → post g2
set_option maxRecDepth 100000 in
theorem w_X6_remember_66 {b : BX} {D : va_G} {A : Nat → Prop} {cy : Nat → ClassId} {ad : Nat → Nat} {post : SG → Prop} (X : Cx (kM b D A cy ad) cX6_remember RX6 2 0 0) (hR : Rx (kM b D A cy ad) none (oV post)) (x1 y0 y1 : Int32) (g : SG) (h : B_X6_remember_66 post x1 y0 y1 g) : Gd (kM b D A cy ad) 2 66 [(0, .ref (ad 0)), (1, .int x1)] [.int y0, .int y1, .ref (ad 0)] g := by
  unfold B_X6_remember_66 at h
  refine gd_iadd X dX6_remember_66 ?_
  refine pX6_55 X dX6_remember_67 (fun g1 eg1 => ?_)
  have h := h g1 eg1
  refine gd_aload_n X dX6_remember_70 0 rfl ?_
  refine gd_iconst (v := 0) X dX6_remember_71 (by decide) ?_
  refine pX6_58 X rfl rfl dX6_remember_72 (fun g2 eg2 => ?_)
  have h := h g2 eg2
  exact gd_vret X hR dX6_remember_75 ⟨rfl, h⟩
def B_X6_remember_2 (post : SG → Prop) (k2 : Int32 → SG → Prop) (x1 : Int32) (g : SG) : Prop :=
  ((126 ≤ x1) → ∀ g2 : SG, g2 = sput g 0 1 (jrem ((g 0 1) + 1) 10) → ((10 ≤ (g2 0 0)) → B_X6_remember_66 post x1 0 ((g2 0 0)) g2) ∧ ((¬ 10 ≤ (g2 0 0)) → B_X6_remember_66 post x1 1 ((g2 0 0)) g2)) ∧ ((¬ 126 ≤ x1) → vp_in x1 126 ∧ (vp_in ((126 * (g 0 1)) + x1) 1260 ∧ (∀ g4 : SG, g4 = sput g 2 ((126 * (g 0 1)) + x1).toNatClampNeg (g 1 x1.toNatClampNeg) → ∀ z5 : Int32, z5 = x1 + 1 → k2 z5 g4)))
set_option maxRecDepth 100000 in
theorem w_X6_remember_2 {b : BX} {D : va_G} {A : Nat → Prop} {cy : Nat → ClassId} {ad : Nat → Nat} {post : SG → Prop} {k2 : Int32 → SG → Prop} (X : Cx (kM b D A cy ad) cX6_remember RX6 2 0 0) (hR : Rx (kM b D A cy ad) none (oV post)) (hk2 : ∀ (x1 : Int32) (g : SG), k2 x1 g → Gd (kM b D A cy ad) 2 2 [(0, .ref (ad 0)), (1, .int x1)] [] g) (x1 : Int32) (g : SG) (h : B_X6_remember_2 post k2 x1 g) : Gd (kM b D A cy ad) 2 2 [(0, .ref (ad 0)), (1, .int x1)] [] g := by
  unfold B_X6_remember_2 at h
  refine gd_iload_n X dX6_remember_2 1 rfl ?_
  refine gd_bipush (v := 126) X dX6_remember_3 (by decide) ?_
  refine gd_icmp_ge (tgt := 34) X dX6_remember_5 (by decide) (fun c1 => ?_) (fun c1 => ?_)
  · have h := h.1 c1
    refine gd_aload_n X dX6_remember_34 0 rfl ?_
    refine gd_aload_n X dX6_remember_35 0 rfl ?_
    refine gX6_51 X dX6_remember_36 ?_
    refine gd_iconst (v := 1) X dX6_remember_39 (by decide) ?_
    refine gd_iadd X dX6_remember_40 ?_
    refine gd_bipush (v := 10) X dX6_remember_41 (by decide) ?_
    refine gd_jrem X dX6_remember_43 (by decide) ?_
    refine pX6_51 X dX6_remember_44 (fun g2 eg2 => ?_)
    have h := h g2 eg2
    refine gd_aload_n X dX6_remember_47 0 rfl ?_
    refine gd_dup X dX6_remember_48 rfl ?_
    refine gX6_55 X dX6_remember_49 ?_
    refine gd_aload_n X dX6_remember_52 0 rfl ?_
    refine gX6_55 X dX6_remember_53 ?_
    refine gd_bipush (v := 10) X dX6_remember_56 (by decide) ?_
    refine gd_icmp_ge (tgt := 65) X dX6_remember_58 (by decide) (fun c3 => ?_) (fun c3 => ?_)
    · have h := h.1 c3
      refine gd_iconst (v := 0) X dX6_remember_65 (by decide) ?_
      exact w_X6_remember_66 X hR _ _ _ _ h
    · have h := h.2 c3
      refine gd_iconst (v := 1) X dX6_remember_61 (by decide) ?_
      refine gd_goto (tgt := 66) X dX6_remember_62 (by decide) ?_
      exact w_X6_remember_66 X hR _ _ _ _ h
  · have h := h.2 c1
    refine gd_aload_n X dX6_remember_8 0 rfl ?_
    refine gX6_13 X dX6_remember_9 ?_
    refine gd_bipush (v := 126) X dX6_remember_12 (by decide) ?_
    refine gd_aload_n X dX6_remember_14 0 rfl ?_
    refine gX6_51 X dX6_remember_15 ?_
    refine gd_imul X dX6_remember_18 ?_
    refine gd_iload_n X dX6_remember_19 1 rfl ?_
    refine gd_iadd X dX6_remember_20 ?_
    refine gd_aload_n X dX6_remember_21 0 rfl ?_
    refine gX6_7 X dX6_remember_22 ?_
    refine gd_iload_n X dX6_remember_25 1 rfl ?_
    refine al_M1 X h.1 _ rfl dX6_remember_26 ?_
    have h := h.2
    refine as_M2 X h.1 _ rfl dX6_remember_27 (fun g4 eg4 => ?_)
    have h := h.2 g4 eg4
    refine gd_incn X 1 1 dX6_remember_28 rfl (by decide) (by decide) (fun z5 => [(1, .int z5), (0, .ref (ad 0))]) (fun _ => rfl) (fun z5 ez5 => ?_)
    have h := h z5 ez5
    refine gd_goto (tgt := 2) X dX6_remember_31 (by decide) ?_
    refine gd_sub [1, 0] rfl ?_
    exact hk2 _ _ h
def P_X6_remember_2 (post : SG → Prop) (n : Nat) : Int32 → SG → Prop := Nat.rec (motive := fun _ => Int32 → SG → Prop) (fun _ _ => False) (fun _ kk x1 g => B_X6_remember_2 post kk x1 g) n
set_option maxRecDepth 100000 in
theorem wL_X6_remember_2 {b : BX} {D : va_G} {A : Nat → Prop} {cy : Nat → ClassId} {ad : Nat → Nat} {post : SG → Prop} (X : Cx (kM b D A cy ad) cX6_remember RX6 2 0 0) (hR : Rx (kM b D A cy ad) none (oV post)) : ∀ (n : Nat) (x1 : Int32) (g : SG), P_X6_remember_2 post n x1 g → Gd (kM b D A cy ad) 2 2 [(0, .ref (ad 0)), (1, .int x1)] [] g := by
  intro n
  induction n with
  | zero => intro x1 g h; exact h.elim
  | succ n ih => intro x1 g h; exact w_X6_remember_2 X hR ih x1 g h
def B_X6_remember_0 (post : SG → Prop) (g : SG) : Prop :=
  ∃ n : Nat, P_X6_remember_2 post n 0 g
set_option maxRecDepth 100000 in
theorem w_X6_remember_0 {b : BX} {D : va_G} {A : Nat → Prop} {cy : Nat → ClassId} {ad : Nat → Nat} {post : SG → Prop} (X : Cx (kM b D A cy ad) cX6_remember RX6 2 0 0) (hR : Rx (kM b D A cy ad) none (oV post)) (g : SG) (h : B_X6_remember_0 post g) : Gd (kM b D A cy ad) 2 0 [(0, .ref (ad 0))] [] g := by
  unfold B_X6_remember_0 at h
  refine gd_iconst (v := 0) X dX6_remember_0 (by decide) ?_
  refine gd_istore_n (lv' := [(1, .int 0), (0, .ref (ad 0))]) X dX6_remember_1 (by decide) rfl ?_
  refine gd_sub [1, 0] rfl ?_
  obtain ⟨n, h⟩ := h
  exact wL_X6_remember_2 X hR n _ _ h
set_option maxRecDepth 100000 in
theorem c_X6_remember (l : Launch) (D : va_G) (A : Nat → Prop) (cy : Nat → ClassId) (ad : Nat → Nat) (post : SG → Prop) (g : SG) (hB : B_X6_remember_0 post g) : Mt l (eM D A cy ad) yX6_remember cX6_remember 2 none 0 0 [.ref (ad 0)] g (oV post) := mt_of (plainFor_of_name (by decide)) (Nat.le_of_ble_eq_true rfl) (fun b X hR => w_X6_remember_0 X hR g hB)
def B_X6_comes_0 (post : SG → Prop) (x1 : Int32) (g : SG) : Prop :=
  vp_in (6 + (g 1 0)) 126 ∧ (∀ g1 : SG, g1 = sput g 1 (6 + (g 1 0)).toNatClampNeg x1 → ∀ g2 : SG, g2 = sput g1 1 0 ((g1 1 0) + 1) → post g2)
set_option maxRecDepth 100000 in
theorem w_X6_comes_0 {b : BX} {D : va_G} {A : Nat → Prop} {cy : Nat → ClassId} {ad : Nat → Nat} {post : SG → Prop} (X : Cx (kM b D A cy ad) cX6_comes RX6 2 0 0) (hR : Rx (kM b D A cy ad) none (oV post)) (x1 : Int32) (g : SG) (h : B_X6_comes_0 post x1 g) : Gd (kM b D A cy ad) 2 0 [(0, .ref (ad 0)), (1, .int x1)] [] g := by
  unfold B_X6_comes_0 at h
  refine gd_aload_n X dX6_comes_0 0 rfl ?_
  refine gX6_7 X dX6_comes_1 ?_
  refine gd_bipush (v := 6) X dX6_comes_4 (by decide) ?_
  refine gd_aload_n X dX6_comes_6 0 rfl ?_
  refine gX6_7 X dX6_comes_7 ?_
  refine gd_iconst (v := 0) X dX6_comes_10 (by decide) ?_
  refine al_M1 X vi_0_126 0 tc_0 dX6_comes_11 ?_
  refine gd_iadd X dX6_comes_12 ?_
  refine gd_iload_n X dX6_comes_13 1 rfl ?_
  refine as_M1 X h.1 _ rfl dX6_comes_14 (fun g1 eg1 => ?_)
  have h := h.2 g1 eg1
  refine gd_aload_n X dX6_comes_15 0 rfl ?_
  refine gX6_7 X dX6_comes_16 ?_
  refine gd_iconst (v := 0) X dX6_comes_19 (by decide) ?_
  refine gd_dup2 X dX6_comes_20 rfl rfl ?_
  refine al_M1 X vi_0_126 0 tc_0 dX6_comes_21 ?_
  refine gd_iconst (v := 1) X dX6_comes_22 (by decide) ?_
  refine gd_iadd X dX6_comes_23 ?_
  refine as_M1 X vi_0_126 0 tc_0 dX6_comes_24 (fun g2 eg2 => ?_)
  have h := h g2 eg2
  exact gd_vret X hR dX6_comes_25 ⟨rfl, h⟩
set_option maxRecDepth 100000 in
theorem c_X6_comes (l : Launch) (D : va_G) (A : Nat → Prop) (cy : Nat → ClassId) (ad : Nat → Nat) (post : SG → Prop) (x1 : Int32) (g : SG) (hB : B_X6_comes_0 post x1 g) : Mt l (eM D A cy ad) yX6_comes cX6_comes 2 none 0 0 [.ref (ad 0), .int x1] g (oV post) := mt_of (plainFor_of_name (by decide)) (Nat.le_of_ble_eq_true rfl) (fun b X hR => w_X6_comes_0 X hR x1 g hB)
def B_X6_becomes_0 (post : Int32 → SG → Prop) (x1 x2 : Int32) (g : SG) : Prop :=
  vp_in x1 126 ∧ (∀ z1 : Int32, z1 = (g 1 x1.toNatClampNeg) → B_X6_remember_0 (fun g2 => vp_in x1 126 ∧ (∀ g3 : SG, g3 = sput g2 1 x1.toNatClampNeg x2 → post z1 g3)) g)
set_option maxRecDepth 100000 in
theorem w_X6_becomes_0 {b : BX} {D : va_G} {A : Nat → Prop} {cy : Nat → ClassId} {ad : Nat → Nat} {post : Int32 → SG → Prop} (X : Cx (kM b D A cy ad) cX6_becomes RX6 4 1 21) (hR : Rx (kM b D A cy ad) (some .int) (oI post)) (x1 x2 : Int32) (g : SG) (h : B_X6_becomes_0 post x1 x2 g) : Gd (kM b D A cy ad) 4 0 [(0, .ref (ad 0)), (1, .int x1), (2, .int x2)] [] g := by
  unfold B_X6_becomes_0 at h
  refine gd_aload_n X dX6_becomes_0 0 rfl ?_
  refine gX6_7 X dX6_becomes_1 ?_
  refine gd_iload_n X dX6_becomes_4 1 rfl ?_
  refine al_M1 X h.1 _ rfl dX6_becomes_5 ?_
  have h := h.2
  refine gd_topi (fun z1 ez1 => ?_)
  have h := h z1 ez1
  refine gd_istore_n (lv' := [(3, .int z1), (0, .ref (ad 0)), (1, .int x1), (2, .int x2)]) X dX6_becomes_6 (by decide) rfl ?_
  refine gd_aload_n X dX6_becomes_7 1 rfl ?_
  refine gd_callVv (As := []) (rest := []) X lk_X6_62 (c_X6_remember _ _ _ _ _ _ _ h) 0 rfl rfl ⟨by decide, by decide⟩ rfl rfl (Nat.le_of_ble_eq_true rfl) dX6_becomes_8 (fun g2 h => ?_)
  refine gd_aload_n X dX6_becomes_11 1 rfl ?_
  refine gX6_7 X dX6_becomes_12 ?_
  refine gd_iload_n X dX6_becomes_15 2 rfl ?_
  refine gd_iload_n X dX6_becomes_16 3 rfl ?_
  refine as_M1 X h.1 _ rfl dX6_becomes_17 (fun g3 eg3 => ?_)
  have h := h.2 g3 eg3
  refine gd_iload_n X dX6_becomes_18 0 rfl ?_
  exact gd_iret X hR dX6_becomes_19 ⟨_, rfl, h⟩
set_option maxRecDepth 100000 in
theorem c_X6_becomes (l : Launch) (D : va_G) (A : Nat → Prop) (cy : Nat → ClassId) (ad : Nat → Nat) (post : Int32 → SG → Prop) (x1 x2 : Int32) (g : SG) (hB : B_X6_becomes_0 post x1 x2 g) : Mt l (eM D A cy ad) yX6_becomes cX6_becomes 4 (some .int) 1 21 [.ref (ad 0), .int x1, .int x2] g (oI post) := mt_of (plainFor_of_name (by decide)) (Nat.le_of_ble_eq_true rfl) (fun b X hR => w_X6_becomes_0 X hR x1 x2 g hB)
def B_X6_symbolAt_0 (post : Int32 → Prop) (x1 : Int32) (g : SG) : Prop :=
  vp_in (6 + x1) 126 ∧ (post (g 1 (6 + x1).toNatClampNeg))
set_option maxRecDepth 100000 in
theorem w_X6_symbolAt_0 {b : BX} {D : va_G} {A : Nat → Prop} {cy : Nat → ClassId} {ad : Nat → Nat} {g : SG} {post : Int32 → Prop} (X : Cx (kM b D A cy ad) cX6_symbolAt RX6 2 0 0) (hR : Rx (kM b D A cy ad) (some .int) (oR g post)) (x1 : Int32) (h : B_X6_symbolAt_0 post x1 g) : Gd (kM b D A cy ad) 2 0 [(0, .ref (ad 0)), (1, .int x1)] [] g := by
  unfold B_X6_symbolAt_0 at h
  refine gd_aload_n X dX6_symbolAt_0 0 rfl ?_
  refine gX6_7 X dX6_symbolAt_1 ?_
  refine gd_bipush (v := 6) X dX6_symbolAt_4 (by decide) ?_
  refine gd_iload_n X dX6_symbolAt_6 1 rfl ?_
  refine gd_iadd X dX6_symbolAt_7 ?_
  refine al_M1 X h.1 _ rfl dX6_symbolAt_8 ?_
  have h := h.2
  exact gd_iret X hR dX6_symbolAt_9 ⟨_, rfl, rfl, h⟩
set_option maxRecDepth 100000 in
theorem c_X6_symbolAt (l : Launch) (D : va_G) (A : Nat → Prop) (cy : Nat → ClassId) (ad : Nat → Nat) (post : Int32 → Prop) (x1 : Int32) (g : SG) (hB : B_X6_symbolAt_0 post x1 g) : Mt l (eM D A cy ad) yX6_symbolAt cX6_symbolAt 2 (some .int) 0 0 [.ref (ad 0), .int x1] g (oR g post) := mt_of (plainFor_of_name (by decide)) (Nat.le_of_ble_eq_true rfl) (fun b X hR => w_X6_symbolAt_0 X hR x1 hB)
def B_X6_layPhase_42 (post : SG → Prop) (k4 : Int32 → Int32 → SG → Prop) (k15 : Int32 → Int32 → Int32 → Int32 → SG → Prop) (x1 x2 x3 x4 y0 y1 : Int32) (g : SG) : Prop :=
  ∀ z1 : Int32, z1 = (y1 + y0) → ∀ z2 : Int32, z2 = x4 + 20 → k15 x1 x2 z1 z2 g
set_option maxRecDepth 100000 in
theorem w_X6_layPhase_42 {b : BX} {D : va_G} {A : Nat → Prop} {cy : Nat → ClassId} {ad : Nat → Nat} {post : SG → Prop} {k4 : Int32 → Int32 → SG → Prop} {k15 : Int32 → Int32 → Int32 → Int32 → SG → Prop} (X : Cx (kM b D A cy ad) cX6_layPhase RX6 5 1 21) (hR : Rx (kM b D A cy ad) none (oV post)) (hk4 : ∀ (x1 x2 : Int32) (g : SG), k4 x1 x2 g → Gd (kM b D A cy ad) 5 4 [(0, .ref (ad 0)), (1, .int x1), (2, .int x2)] [] g) (hk15 : ∀ (x1 x2 x3 x4 : Int32) (g : SG), k15 x1 x2 x3 x4 g → Gd (kM b D A cy ad) 5 15 [(0, .ref (ad 0)), (1, .int x1), (2, .int x2), (3, .int x3), (4, .int x4)] [] g) (x1 x2 x3 x4 y0 y1 : Int32) (g : SG) (h : B_X6_layPhase_42 post k4 k15 x1 x2 x3 x4 y0 y1 g) : Gd (kM b D A cy ad) 5 42 [(0, .ref (ad 0)), (1, .int x1), (2, .int x2), (3, .int x3), (4, .int x4)] [.int y0, .int y1] g := by
  unfold B_X6_layPhase_42 at h
  refine gd_iadd X dX6_layPhase_42 ?_
  refine gd_topi (fun z1 ez1 => ?_)
  have h := h z1 ez1
  refine gd_istore_n (lv' := [(3, .int z1), (0, .ref (ad 0)), (1, .int x1), (2, .int x2), (4, .int x4)]) X dX6_layPhase_43 (by decide) rfl ?_
  refine gd_incn X 4 20 dX6_layPhase_44 rfl (by decide) (by decide) (fun z2 => [(4, .int z2), (3, .int z1), (0, .ref (ad 0)), (1, .int x1), (2, .int x2)]) (fun _ => rfl) (fun z2 ez2 => ?_)
  have h := h z2 ez2
  refine gd_goto (tgt := 15) X dX6_layPhase_47 (by decide) ?_
  refine gd_sub [2, 3, 4, 1, 0] rfl ?_
  exact hk15 _ _ _ _ _ h
def B_X6_layPhase_77 (post : SG → Prop) (k4 : Int32 → Int32 → SG → Prop) (x1 x2 x3 x4 y0 : Int32) (g : SG) : Prop :=
  ∀ z1 : Int32, z1 = x2 + 1 → k4 y0 z1 g
set_option maxRecDepth 100000 in
theorem w_X6_layPhase_77 {b : BX} {D : va_G} {A : Nat → Prop} {cy : Nat → ClassId} {ad : Nat → Nat} {post : SG → Prop} {k4 : Int32 → Int32 → SG → Prop} (X : Cx (kM b D A cy ad) cX6_layPhase RX6 5 1 21) (hR : Rx (kM b D A cy ad) none (oV post)) (hk4 : ∀ (x1 x2 : Int32) (g : SG), k4 x1 x2 g → Gd (kM b D A cy ad) 5 4 [(0, .ref (ad 0)), (1, .int x1), (2, .int x2)] [] g) (x1 x2 x3 x4 y0 : Int32) (g : SG) (h : B_X6_layPhase_77 post k4 x1 x2 x3 x4 y0 g) : Gd (kM b D A cy ad) 5 77 [(0, .ref (ad 0)), (1, .int x1), (2, .int x2), (3, .int x3), (4, .int x4)] [.int y0] g := by
  unfold B_X6_layPhase_77 at h
  refine gd_istore_n (lv' := [(1, .int y0), (0, .ref (ad 0)), (2, .int x2), (3, .int x3), (4, .int x4)]) X dX6_layPhase_77 (by decide) rfl ?_
  refine gd_incn X 2 1 dX6_layPhase_78 rfl (by decide) (by decide) (fun z1 => [(2, .int z1), (1, .int y0), (0, .ref (ad 0)), (3, .int x3), (4, .int x4)]) (fun _ => rfl) (fun z1 ez1 => ?_)
  have h := h z1 ez1
  refine gd_goto (tgt := 4) X dX6_layPhase_81 (by decide) ?_
  refine gd_sub [2, 1, 0] rfl ?_
  exact hk4 _ _ _ h
def B_X6_layPhase_64 (post : SG → Prop) (k4 : Int32 → Int32 → SG → Prop) (x1 x2 x3 x4 y0 : Int32) (g : SG) : Prop :=
  ∀ g1 : SG, g1 = sput g 0 3 y0 → ((x3 ≤ x1) → B_X6_layPhase_77 post k4 x1 x2 x3 x4 x1 g1) ∧ ((¬ x3 ≤ x1) → B_X6_layPhase_77 post k4 x1 x2 x3 x4 x3 g1)
set_option maxRecDepth 100000 in
theorem w_X6_layPhase_64 {b : BX} {D : va_G} {A : Nat → Prop} {cy : Nat → ClassId} {ad : Nat → Nat} {post : SG → Prop} {k4 : Int32 → Int32 → SG → Prop} (X : Cx (kM b D A cy ad) cX6_layPhase RX6 5 1 21) (hR : Rx (kM b D A cy ad) none (oV post)) (hk4 : ∀ (x1 x2 : Int32) (g : SG), k4 x1 x2 g → Gd (kM b D A cy ad) 5 4 [(0, .ref (ad 0)), (1, .int x1), (2, .int x2)] [] g) (x1 x2 x3 x4 y0 : Int32) (g : SG) (h : B_X6_layPhase_64 post k4 x1 x2 x3 x4 y0 g) : Gd (kM b D A cy ad) 5 64 [(0, .ref (ad 0)), (1, .int x1), (2, .int x2), (3, .int x3), (4, .int x4)] [.int y0, .ref (ad 0)] g := by
  unfold B_X6_layPhase_64 at h
  refine pX6_76 X dX6_layPhase_64 (fun g1 eg1 => ?_)
  have h := h g1 eg1
  refine gd_iload_n X dX6_layPhase_67 3 rfl ?_
  refine gd_iload_n X dX6_layPhase_68 1 rfl ?_
  refine gd_icmp_le (tgt := 76) X dX6_layPhase_69 (by decide) (fun c2 => ?_) (fun c2 => ?_)
  · have h := h.1 c2
    refine gd_iload_n X dX6_layPhase_76 1 rfl ?_
    exact w_X6_layPhase_77 X hR hk4 _ _ _ _ _ _ h
  · have h := h.2 c2
    refine gd_iload_n X dX6_layPhase_72 3 rfl ?_
    refine gd_goto (tgt := 77) X dX6_layPhase_73 (by decide) ?_
    exact w_X6_layPhase_77 X hR hk4 _ _ _ _ _ _ h
def B_X6_layPhase_15 (post : SG → Prop) (k4 : Int32 → Int32 → SG → Prop) (k15 : Int32 → Int32 → Int32 → Int32 → SG → Prop) (x1 x2 x3 x4 : Int32) (g : SG) : Prop :=
  (((g 1 0) ≤ x4) → ((x3 ≤ x1) → B_X6_layPhase_64 post k4 x1 x2 x3 x4 ((g 0 3)) g) ∧ ((¬ x3 ≤ x1) → B_X6_layPhase_64 post k4 x1 x2 x3 x4 x2 g)) ∧ ((¬ (g 1 0) ≤ x4) → B_X6_symbolAt_0 (fun r3 => ((¬ r3 = 3) → B_X6_layPhase_42 post k4 k15 x1 x2 x3 x4 0 x3 g) ∧ ((r3 = 3) → B_X6_layPhase_42 post k4 k15 x1 x2 x3 x4 1 x3 g)) x4 g)
set_option maxRecDepth 100000 in
theorem w_X6_layPhase_15 {b : BX} {D : va_G} {A : Nat → Prop} {cy : Nat → ClassId} {ad : Nat → Nat} {post : SG → Prop} {k4 : Int32 → Int32 → SG → Prop} {k15 : Int32 → Int32 → Int32 → Int32 → SG → Prop} (X : Cx (kM b D A cy ad) cX6_layPhase RX6 5 1 21) (hR : Rx (kM b D A cy ad) none (oV post)) (hk4 : ∀ (x1 x2 : Int32) (g : SG), k4 x1 x2 g → Gd (kM b D A cy ad) 5 4 [(0, .ref (ad 0)), (1, .int x1), (2, .int x2)] [] g) (hk15 : ∀ (x1 x2 x3 x4 : Int32) (g : SG), k15 x1 x2 x3 x4 g → Gd (kM b D A cy ad) 5 15 [(0, .ref (ad 0)), (1, .int x1), (2, .int x2), (3, .int x3), (4, .int x4)] [] g) (x1 x2 x3 x4 : Int32) (g : SG) (h : B_X6_layPhase_15 post k4 k15 x1 x2 x3 x4 g) : Gd (kM b D A cy ad) 5 15 [(0, .ref (ad 0)), (1, .int x1), (2, .int x2), (3, .int x3), (4, .int x4)] [] g := by
  unfold B_X6_layPhase_15 at h
  refine gd_iload X dX6_layPhase_15 4 rfl ?_
  refine gd_aload_n X dX6_layPhase_17 0 rfl ?_
  refine gX6_7 X dX6_layPhase_18 ?_
  refine gd_iconst (v := 0) X dX6_layPhase_21 (by decide) ?_
  refine al_M1 X vi_0_126 0 tc_0 dX6_layPhase_22 ?_
  refine gd_icmp_ge (tgt := 50) X dX6_layPhase_23 (by decide) (fun c1 => ?_) (fun c1 => ?_)
  · have h := h.1 c1
    refine gd_aload_n X dX6_layPhase_50 0 rfl ?_
    refine gd_iload_n X dX6_layPhase_51 3 rfl ?_
    refine gd_iload_n X dX6_layPhase_52 1 rfl ?_
    refine gd_icmp_le (tgt := 60) X dX6_layPhase_53 (by decide) (fun c2 => ?_) (fun c2 => ?_)
    · have h := h.1 c2
      refine gd_aload_n X dX6_layPhase_60 0 rfl ?_
      refine gX6_76 X dX6_layPhase_61 ?_
      exact w_X6_layPhase_64 X hR hk4 _ _ _ _ _ _ h
    · have h := h.2 c2
      refine gd_iload_n X dX6_layPhase_56 2 rfl ?_
      refine gd_goto (tgt := 64) X dX6_layPhase_57 (by decide) ?_
      exact w_X6_layPhase_64 X hR hk4 _ _ _ _ _ _ h
  · have h := h.2 c1
    refine gd_iload_n X dX6_layPhase_26 3 rfl ?_
    refine gd_aload_n X dX6_layPhase_27 0 rfl ?_
    refine gd_iload X dX6_layPhase_28 4 rfl ?_
    refine gd_callVr (As := [.int x4]) (rest := [.int x3]) X lk_X6_73 (c_X6_symbolAt _ _ _ _ _ _ _ _ h) 0 rfl rfl ⟨by decide, by decide⟩ rfl rfl (Nat.le_of_ble_eq_true rfl) dX6_layPhase_30 (fun r3 h => ?_)
    refine gd_iconst (v := 3) X dX6_layPhase_33 (by decide) ?_
    refine gd_icmp_ne (tgt := 41) X dX6_layPhase_34 (by decide) (fun c4 => ?_) (fun c4 => ?_)
    · have h := h.1 c4
      refine gd_iconst (v := 0) X dX6_layPhase_41 (by decide) ?_
      exact w_X6_layPhase_42 X hR hk4 hk15 _ _ _ _ _ _ _ h
    · have h := h.2 c4
      refine gd_iconst (v := 1) X dX6_layPhase_37 (by decide) ?_
      refine gd_goto (tgt := 42) X dX6_layPhase_38 (by decide) ?_
      exact w_X6_layPhase_42 X hR hk4 hk15 _ _ _ _ _ _ _ h
def P_X6_layPhase_15 (post : SG → Prop) (k4 : Int32 → Int32 → SG → Prop) (n : Nat) : Int32 → Int32 → Int32 → Int32 → SG → Prop := Nat.rec (motive := fun _ => Int32 → Int32 → Int32 → Int32 → SG → Prop) (fun _ _ _ _ _ => False) (fun _ kk x1 x2 x3 x4 g => B_X6_layPhase_15 post k4 kk x1 x2 x3 x4 g) n
set_option maxRecDepth 100000 in
theorem wL_X6_layPhase_15 {b : BX} {D : va_G} {A : Nat → Prop} {cy : Nat → ClassId} {ad : Nat → Nat} {post : SG → Prop} {k4 : Int32 → Int32 → SG → Prop} (X : Cx (kM b D A cy ad) cX6_layPhase RX6 5 1 21) (hR : Rx (kM b D A cy ad) none (oV post)) (hk4 : ∀ (x1 x2 : Int32) (g : SG), k4 x1 x2 g → Gd (kM b D A cy ad) 5 4 [(0, .ref (ad 0)), (1, .int x1), (2, .int x2)] [] g) : ∀ (n : Nat) (x1 x2 x3 x4 : Int32) (g : SG), P_X6_layPhase_15 post k4 n x1 x2 x3 x4 g → Gd (kM b D A cy ad) 5 15 [(0, .ref (ad 0)), (1, .int x1), (2, .int x2), (3, .int x3), (4, .int x4)] [] g := by
  intro n
  induction n with
  | zero => intro x1 x2 x3 x4 g h; exact h.elim
  | succ n ih => intro x1 x2 x3 x4 g h; exact w_X6_layPhase_15 X hR hk4 ih x1 x2 x3 x4 g h
def B_X6_layPhase_4 (post : SG → Prop) (k4 : Int32 → Int32 → SG → Prop) (x1 x2 : Int32) (g : SG) : Prop :=
  ((20 ≤ x2) → post g) ∧ ((¬ 20 ≤ x2) → ∃ n : Nat, P_X6_layPhase_15 post k4 n x1 x2 0 x2 g)
set_option maxRecDepth 100000 in
theorem w_X6_layPhase_4 {b : BX} {D : va_G} {A : Nat → Prop} {cy : Nat → ClassId} {ad : Nat → Nat} {post : SG → Prop} {k4 : Int32 → Int32 → SG → Prop} (X : Cx (kM b D A cy ad) cX6_layPhase RX6 5 1 21) (hR : Rx (kM b D A cy ad) none (oV post)) (hk4 : ∀ (x1 x2 : Int32) (g : SG), k4 x1 x2 g → Gd (kM b D A cy ad) 5 4 [(0, .ref (ad 0)), (1, .int x1), (2, .int x2)] [] g) (x1 x2 : Int32) (g : SG) (h : B_X6_layPhase_4 post k4 x1 x2 g) : Gd (kM b D A cy ad) 5 4 [(0, .ref (ad 0)), (1, .int x1), (2, .int x2)] [] g := by
  unfold B_X6_layPhase_4 at h
  refine gd_iload_n X dX6_layPhase_4 2 rfl ?_
  refine gd_bipush (v := 20) X dX6_layPhase_5 (by decide) ?_
  refine gd_icmp_ge (tgt := 84) X dX6_layPhase_7 (by decide) (fun c1 => ?_) (fun c1 => ?_)
  · have h := h.1 c1
    exact gd_vret X hR dX6_layPhase_84 ⟨rfl, h⟩
  · have h := h.2 c1
    refine gd_iconst (v := 0) X dX6_layPhase_10 (by decide) ?_
    refine gd_istore_n (lv' := [(3, .int 0), (0, .ref (ad 0)), (1, .int x1), (2, .int x2)]) X dX6_layPhase_11 (by decide) rfl ?_
    refine gd_iload_n X dX6_layPhase_12 3 rfl ?_
    refine gd_istore (lv' := [(4, .int x2), (3, .int 0), (0, .ref (ad 0)), (1, .int x1), (2, .int x2)]) X dX6_layPhase_13 (by decide) rfl ?_
    refine gd_sub [2, 3, 4, 1, 0] rfl ?_
    obtain ⟨n, h⟩ := h
    exact wL_X6_layPhase_15 X hR hk4 n _ _ _ _ _ h
def P_X6_layPhase_4 (post : SG → Prop) (n : Nat) : Int32 → Int32 → SG → Prop := Nat.rec (motive := fun _ => Int32 → Int32 → SG → Prop) (fun _ _ _ => False) (fun _ kk x1 x2 g => B_X6_layPhase_4 post kk x1 x2 g) n
set_option maxRecDepth 100000 in
theorem wL_X6_layPhase_4 {b : BX} {D : va_G} {A : Nat → Prop} {cy : Nat → ClassId} {ad : Nat → Nat} {post : SG → Prop} (X : Cx (kM b D A cy ad) cX6_layPhase RX6 5 1 21) (hR : Rx (kM b D A cy ad) none (oV post)) : ∀ (n : Nat) (x1 x2 : Int32) (g : SG), P_X6_layPhase_4 post n x1 x2 g → Gd (kM b D A cy ad) 5 4 [(0, .ref (ad 0)), (1, .int x1), (2, .int x2)] [] g := by
  intro n
  induction n with
  | zero => intro x1 x2 g h; exact h.elim
  | succ n ih => intro x1 x2 g h; exact w_X6_layPhase_4 X hR ih x1 x2 g h
def B_X6_layPhase_0 (post : SG → Prop) (g : SG) : Prop :=
  ∃ n : Nat, P_X6_layPhase_4 post n (-1) 0 g
set_option maxRecDepth 100000 in
theorem w_X6_layPhase_0 {b : BX} {D : va_G} {A : Nat → Prop} {cy : Nat → ClassId} {ad : Nat → Nat} {post : SG → Prop} (X : Cx (kM b D A cy ad) cX6_layPhase RX6 5 1 21) (hR : Rx (kM b D A cy ad) none (oV post)) (g : SG) (h : B_X6_layPhase_0 post g) : Gd (kM b D A cy ad) 5 0 [(0, .ref (ad 0))] [] g := by
  unfold B_X6_layPhase_0 at h
  refine gd_iconst (v := (-1)) X dX6_layPhase_0 (by decide) ?_
  refine gd_istore_n (lv' := [(1, .int (-1)), (0, .ref (ad 0))]) X dX6_layPhase_1 (by decide) rfl ?_
  refine gd_iconst (v := 0) X dX6_layPhase_2 (by decide) ?_
  refine gd_istore_n (lv' := [(2, .int 0), (1, .int (-1)), (0, .ref (ad 0))]) X dX6_layPhase_3 (by decide) rfl ?_
  refine gd_sub [2, 1, 0] rfl ?_
  obtain ⟨n, h⟩ := h
  exact wL_X6_layPhase_4 X hR n _ _ _ h
set_option maxRecDepth 100000 in
theorem c_X6_layPhase (l : Launch) (D : va_G) (A : Nat → Prop) (cy : Nat → ClassId) (ad : Nat → Nat) (post : SG → Prop) (g : SG) (hB : B_X6_layPhase_0 post g) : Mt l (eM D A cy ad) yX6_layPhase cX6_layPhase 5 none 1 21 [.ref (ad 0)] g (oV post) := mt_of (plainFor_of_name (by decide)) (Nat.le_of_ble_eq_true rfl) (fun b X hR => w_X6_layPhase_0 X hR g hB)
def B_X6_firstOf_0 (post : Int32 → Prop) (x1 : Int32) (g : SG) : Prop :=
  post ((jrem ((g 0 3) + 1) 20) + (20 * x1))
set_option maxRecDepth 100000 in
theorem w_X6_firstOf_0 {b : BX} {D : va_G} {A : Nat → Prop} {cy : Nat → ClassId} {ad : Nat → Nat} {g : SG} {post : Int32 → Prop} (X : Cx (kM b D A cy ad) cX6_firstOf RX6 2 0 0) (hR : Rx (kM b D A cy ad) (some .int) (oR g post)) (x1 : Int32) (h : B_X6_firstOf_0 post x1 g) : Gd (kM b D A cy ad) 2 0 [(0, .ref (ad 0)), (1, .int x1)] [] g := by
  unfold B_X6_firstOf_0 at h
  refine gd_aload_n X dX6_firstOf_0 0 rfl ?_
  refine gX6_76 X dX6_firstOf_1 ?_
  refine gd_iconst (v := 1) X dX6_firstOf_4 (by decide) ?_
  refine gd_iadd X dX6_firstOf_5 ?_
  refine gd_bipush (v := 20) X dX6_firstOf_6 (by decide) ?_
  refine gd_jrem X dX6_firstOf_8 (by decide) ?_
  refine gd_bipush (v := 20) X dX6_firstOf_9 (by decide) ?_
  refine gd_iload_n X dX6_firstOf_11 1 rfl ?_
  refine gd_imul X dX6_firstOf_12 ?_
  refine gd_iadd X dX6_firstOf_13 ?_
  exact gd_iret X hR dX6_firstOf_14 ⟨_, rfl, rfl, h⟩
set_option maxRecDepth 100000 in
theorem c_X6_firstOf (l : Launch) (D : va_G) (A : Nat → Prop) (cy : Nat → ClassId) (ad : Nat → Nat) (post : Int32 → Prop) (x1 : Int32) (g : SG) (hB : B_X6_firstOf_0 post x1 g) : Mt l (eM D A cy ad) yX6_firstOf cX6_firstOf 2 (some .int) 0 0 [.ref (ad 0), .int x1] g (oR g post) := mt_of (plainFor_of_name (by decide)) (Nat.le_of_ble_eq_true rfl) (fun b X hR => w_X6_firstOf_0 X hR x1 hB)
def B_X6_layFrames_114 (post : SG → Prop) (k5 : SG → Prop) (k47 : Int32 → SG → Prop) (x1 x2 y0 y1 y2 : Int32) (g : SG) : Prop :=
  vp_in y2 6 ∧ (∀ g1 : SG, g1 = sput g 6 y2.toNatClampNeg (y1 ||| y0) → ∀ z2 : Int32, z2 = x1 + 1 → k47 z2 g1)
set_option maxRecDepth 100000 in
theorem w_X6_layFrames_114 {b : BX} {D : va_G} {A : Nat → Prop} {cy : Nat → ClassId} {ad : Nat → Nat} {post : SG → Prop} {k5 : SG → Prop} {k47 : Int32 → SG → Prop} (X : Cx (kM b D A cy ad) cX6_layFrames RX6 3 1 21) (hR : Rx (kM b D A cy ad) none (oV post)) (hk5 : ∀ g : SG, k5 g → Gd (kM b D A cy ad) 3 5 [(0, .ref (ad 0))] [] g) (hk47 : ∀ (x1 : Int32) (g : SG), k47 x1 g → Gd (kM b D A cy ad) 3 47 [(0, .ref (ad 0)), (1, .int x1)] [] g) (x1 x2 y0 y1 y2 : Int32) (g : SG) (h : B_X6_layFrames_114 post k5 k47 x1 x2 y0 y1 y2 g) : Gd (kM b D A cy ad) 3 114 [(0, .ref (ad 0)), (1, .int x1), (2, .int x2)] [.int y0, .int y1, .int y2, .ref (ad 6)] g := by
  unfold B_X6_layFrames_114 at h
  refine gd_ior X dX6_layFrames_114 ?_
  refine as_M6 X h.1 _ rfl dX6_layFrames_115 (fun g1 eg1 => ?_)
  have h := h.2 g1 eg1
  refine gd_incn X 1 1 dX6_layFrames_116 rfl (by decide) (by decide) (fun z2 => [(1, .int z2), (0, .ref (ad 0)), (2, .int x2)]) (fun _ => rfl) (fun z2 ez2 => ?_)
  have h := h z2 ez2
  refine gd_goto (tgt := 47) X dX6_layFrames_119 (by decide) ?_
  refine gd_sub [1, 0] rfl ?_
  exact hk47 _ _ h
def B_X6_layFrames_90 (post : SG → Prop) (k5 : SG → Prop) (k47 : Int32 → SG → Prop) (x1 x2 y0 y1 y2 : Int32) (g : SG) : Prop :=
  vp_in y2 6 ∧ (∀ g1 : SG, g1 = sput g 5 y2.toNatClampNeg (y1 ||| y0) → vp_in (g1 0 4) 6 ∧ (((¬ x2 = 1) → B_X6_layFrames_114 post k5 k47 x1 x2 0 ((g1 6 (g1 0 4).toNatClampNeg)) ((g1 0 4)) g1) ∧ ((x2 = 1) → B_X6_layFrames_114 post k5 k47 x1 x2 ((jshl 1 x1)) ((g1 6 (g1 0 4).toNatClampNeg)) ((g1 0 4)) g1)))
set_option maxRecDepth 100000 in
theorem w_X6_layFrames_90 {b : BX} {D : va_G} {A : Nat → Prop} {cy : Nat → ClassId} {ad : Nat → Nat} {post : SG → Prop} {k5 : SG → Prop} {k47 : Int32 → SG → Prop} (X : Cx (kM b D A cy ad) cX6_layFrames RX6 3 1 21) (hR : Rx (kM b D A cy ad) none (oV post)) (hk5 : ∀ g : SG, k5 g → Gd (kM b D A cy ad) 3 5 [(0, .ref (ad 0))] [] g) (hk47 : ∀ (x1 : Int32) (g : SG), k47 x1 g → Gd (kM b D A cy ad) 3 47 [(0, .ref (ad 0)), (1, .int x1)] [] g) (x1 x2 y0 y1 y2 : Int32) (g : SG) (h : B_X6_layFrames_90 post k5 k47 x1 x2 y0 y1 y2 g) : Gd (kM b D A cy ad) 3 90 [(0, .ref (ad 0)), (1, .int x1), (2, .int x2)] [.int y0, .int y1, .int y2, .ref (ad 5)] g := by
  unfold B_X6_layFrames_90 at h
  refine gd_ior X dX6_layFrames_90 ?_
  refine as_M5 X h.1 _ rfl dX6_layFrames_91 (fun g1 eg1 => ?_)
  have h := h.2 g1 eg1
  refine gd_aload_n X dX6_layFrames_92 0 rfl ?_
  refine gX6_26 X dX6_layFrames_93 ?_
  refine gd_aload_n X dX6_layFrames_96 0 rfl ?_
  refine gX6_79 X dX6_layFrames_97 ?_
  refine gd_dup2 X dX6_layFrames_100 rfl rfl ?_
  refine al_M6 X h.1 _ rfl dX6_layFrames_101 ?_
  have h := h.2
  refine gd_iload_n X dX6_layFrames_102 2 rfl ?_
  refine gd_iconst (v := 1) X dX6_layFrames_103 (by decide) ?_
  refine gd_icmp_ne (tgt := 113) X dX6_layFrames_104 (by decide) (fun c2 => ?_) (fun c2 => ?_)
  · have h := h.1 c2
    refine gd_iconst (v := 0) X dX6_layFrames_113 (by decide) ?_
    exact w_X6_layFrames_114 X hR hk5 hk47 _ _ _ _ _ _ h
  · have h := h.2 c2
    refine gd_iconst (v := 1) X dX6_layFrames_107 (by decide) ?_
    refine gd_iload_n X dX6_layFrames_108 1 rfl ?_
    refine gd_jshl X dX6_layFrames_109 ?_
    refine gd_goto (tgt := 114) X dX6_layFrames_110 (by decide) ?_
    exact w_X6_layFrames_114 X hR hk5 hk47 _ _ _ _ _ _ h
def B_X6_layFrames_47 (post : SG → Prop) (k5 : SG → Prop) (k47 : Int32 → SG → Prop) (x1 : Int32) (g : SG) : Prop :=
  ((19 ≤ x1) → ∀ g2 : SG, g2 = sput g 0 4 ((g 0 4) + 1) → k5  g2) ∧ ((¬ 19 ≤ x1) → B_X6_firstOf_0 (fun r3 => B_X6_symbolAt_0 (fun r4 => vp_in (g 0 4) 6 ∧ (((2 ≤ r4) → B_X6_layFrames_90 post k5 k47 x1 r4 0 ((g 5 (g 0 4).toNatClampNeg)) ((g 0 4)) g) ∧ ((¬ 2 ≤ r4) → B_X6_layFrames_90 post k5 k47 x1 r4 ((jshl 1 x1)) ((g 5 (g 0 4).toNatClampNeg)) ((g 0 4)) g))) (r3 + x1) g) (g 0 4) g)
set_option maxRecDepth 100000 in
theorem w_X6_layFrames_47 {b : BX} {D : va_G} {A : Nat → Prop} {cy : Nat → ClassId} {ad : Nat → Nat} {post : SG → Prop} {k5 : SG → Prop} {k47 : Int32 → SG → Prop} (X : Cx (kM b D A cy ad) cX6_layFrames RX6 3 1 21) (hR : Rx (kM b D A cy ad) none (oV post)) (hk5 : ∀ g : SG, k5 g → Gd (kM b D A cy ad) 3 5 [(0, .ref (ad 0))] [] g) (hk47 : ∀ (x1 : Int32) (g : SG), k47 x1 g → Gd (kM b D A cy ad) 3 47 [(0, .ref (ad 0)), (1, .int x1)] [] g) (x1 : Int32) (g : SG) (h : B_X6_layFrames_47 post k5 k47 x1 g) : Gd (kM b D A cy ad) 3 47 [(0, .ref (ad 0)), (1, .int x1)] [] g := by
  unfold B_X6_layFrames_47 at h
  refine gd_iload_n X dX6_layFrames_47 1 rfl ?_
  refine gd_bipush (v := 19) X dX6_layFrames_48 (by decide) ?_
  refine gd_icmp_ge (tgt := 122) X dX6_layFrames_50 (by decide) (fun c1 => ?_) (fun c1 => ?_)
  · have h := h.1 c1
    refine gd_aload_n X dX6_layFrames_122 0 rfl ?_
    refine gd_dup X dX6_layFrames_123 rfl ?_
    refine gX6_79 X dX6_layFrames_124 ?_
    refine gd_iconst (v := 1) X dX6_layFrames_127 (by decide) ?_
    refine gd_iadd X dX6_layFrames_128 ?_
    refine pX6_79 X dX6_layFrames_129 (fun g2 eg2 => ?_)
    have h := h g2 eg2
    refine gd_goto (tgt := 5) X dX6_layFrames_132 (by decide) ?_
    refine gd_sub [0] rfl ?_
    exact hk5  _ h
  · have h := h.2 c1
    refine gd_aload_n X dX6_layFrames_53 0 rfl ?_
    refine gd_aload_n X dX6_layFrames_54 0 rfl ?_
    refine gd_aload_n X dX6_layFrames_55 0 rfl ?_
    refine gX6_79 X dX6_layFrames_56 ?_
    refine gd_callVr (As := [.int ((g 0 4))]) (rest := [.ref (ad 0)]) X lk_X6_82 (c_X6_firstOf _ _ _ _ _ _ _ _ h) 0 rfl rfl ⟨by decide, by decide⟩ rfl rfl (Nat.le_of_ble_eq_true rfl) dX6_layFrames_59 (fun r3 h => ?_)
    refine gd_iload_n X dX6_layFrames_62 1 rfl ?_
    refine gd_iadd X dX6_layFrames_63 ?_
    refine gd_callVr (As := [.int ((r3 + x1))]) (rest := []) X lk_X6_73 (c_X6_symbolAt _ _ _ _ _ _ _ _ h) 0 rfl rfl ⟨by decide, by decide⟩ rfl rfl (Nat.le_of_ble_eq_true rfl) dX6_layFrames_64 (fun r4 h => ?_)
    refine gd_istore_n (lv' := [(2, .int r4), (0, .ref (ad 0)), (1, .int x1)]) X dX6_layFrames_67 (by decide) rfl ?_
    refine gd_aload_n X dX6_layFrames_68 1 rfl ?_
    refine gX6_23 X dX6_layFrames_69 ?_
    refine gd_aload_n X dX6_layFrames_72 1 rfl ?_
    refine gX6_79 X dX6_layFrames_73 ?_
    refine gd_dup2 X dX6_layFrames_76 rfl rfl ?_
    refine al_M5 X h.1 _ rfl dX6_layFrames_77 ?_
    have h := h.2
    refine gd_iload_n X dX6_layFrames_78 0 rfl ?_
    refine gd_iconst (v := 2) X dX6_layFrames_79 (by decide) ?_
    refine gd_icmp_ge (tgt := 89) X dX6_layFrames_80 (by decide) (fun c5 => ?_) (fun c5 => ?_)
    · have h := h.1 c5
      refine gd_iconst (v := 0) X dX6_layFrames_89 (by decide) ?_
      refine gd_sub [1, 2, 0] rfl ?_
      exact w_X6_layFrames_90 X hR hk5 hk47 _ _ _ _ _ _ h
    · have h := h.2 c5
      refine gd_iconst (v := 1) X dX6_layFrames_83 (by decide) ?_
      refine gd_iload_n X dX6_layFrames_84 2 rfl ?_
      refine gd_jshl X dX6_layFrames_85 ?_
      refine gd_goto (tgt := 90) X dX6_layFrames_86 (by decide) ?_
      refine gd_sub [1, 2, 0] rfl ?_
      exact w_X6_layFrames_90 X hR hk5 hk47 _ _ _ _ _ _ h
def P_X6_layFrames_47 (post : SG → Prop) (k5 : SG → Prop) (n : Nat) : Int32 → SG → Prop := Nat.rec (motive := fun _ => Int32 → SG → Prop) (fun _ _ => False) (fun _ kk x1 g => B_X6_layFrames_47 post k5 kk x1 g) n
set_option maxRecDepth 100000 in
theorem wL_X6_layFrames_47 {b : BX} {D : va_G} {A : Nat → Prop} {cy : Nat → ClassId} {ad : Nat → Nat} {post : SG → Prop} {k5 : SG → Prop} (X : Cx (kM b D A cy ad) cX6_layFrames RX6 3 1 21) (hR : Rx (kM b D A cy ad) none (oV post)) (hk5 : ∀ g : SG, k5 g → Gd (kM b D A cy ad) 3 5 [(0, .ref (ad 0))] [] g) : ∀ (n : Nat) (x1 : Int32) (g : SG), P_X6_layFrames_47 post k5 n x1 g → Gd (kM b D A cy ad) 3 47 [(0, .ref (ad 0)), (1, .int x1)] [] g := by
  intro n
  induction n with
  | zero => intro x1 g h; exact h.elim
  | succ n ih => intro x1 g h; exact w_X6_layFrames_47 X hR hk5 ih x1 g h
def B_X6_layFrames_5 (post : SG → Prop) (k5 : SG → Prop) (g : SG) : Prop :=
  B_X6_firstOf_0 (fun r1 => (((g 1 0) < (r1 + 19)) → post g) ∧ ((¬ (g 1 0) < (r1 + 19)) → vp_in (g 0 4) 6 ∧ (∀ g3 : SG, g3 = sput g 5 (g 0 4).toNatClampNeg 0 → vp_in (g3 0 4) 6 ∧ (∀ g4 : SG, g4 = sput g3 6 (g3 0 4).toNatClampNeg 0 → ∃ n : Nat, P_X6_layFrames_47 post k5 n 0 g4)))) (g 0 4) g
set_option maxRecDepth 100000 in
theorem w_X6_layFrames_5 {b : BX} {D : va_G} {A : Nat → Prop} {cy : Nat → ClassId} {ad : Nat → Nat} {post : SG → Prop} {k5 : SG → Prop} (X : Cx (kM b D A cy ad) cX6_layFrames RX6 3 1 21) (hR : Rx (kM b D A cy ad) none (oV post)) (hk5 : ∀ g : SG, k5 g → Gd (kM b D A cy ad) 3 5 [(0, .ref (ad 0))] [] g) (g : SG) (h : B_X6_layFrames_5 post k5 g) : Gd (kM b D A cy ad) 3 5 [(0, .ref (ad 0))] [] g := by
  unfold B_X6_layFrames_5 at h
  refine gd_aload_n X dX6_layFrames_5 0 rfl ?_
  refine gd_aload_n X dX6_layFrames_6 0 rfl ?_
  refine gX6_79 X dX6_layFrames_7 ?_
  refine gd_callVr (As := [.int ((g 0 4))]) (rest := []) X lk_X6_82 (c_X6_firstOf _ _ _ _ _ _ _ _ h) 0 rfl rfl ⟨by decide, by decide⟩ rfl rfl (Nat.le_of_ble_eq_true rfl) dX6_layFrames_10 (fun r1 h => ?_)
  refine gd_bipush (v := 19) X dX6_layFrames_13 (by decide) ?_
  refine gd_iadd X dX6_layFrames_15 ?_
  refine gd_aload_n X dX6_layFrames_16 0 rfl ?_
  refine gX6_7 X dX6_layFrames_17 ?_
  refine gd_iconst (v := 0) X dX6_layFrames_20 (by decide) ?_
  refine al_M1 X vi_0_126 0 tc_0 dX6_layFrames_21 ?_
  refine gd_icmp_gt (tgt := 135) X dX6_layFrames_22 (by decide) (fun c2 => ?_) (fun c2 => ?_)
  · have h := h.1 c2
    exact gd_vret X hR dX6_layFrames_135 ⟨rfl, h⟩
  · have h := h.2 c2
    refine gd_aload_n X dX6_layFrames_25 0 rfl ?_
    refine gX6_23 X dX6_layFrames_26 ?_
    refine gd_aload_n X dX6_layFrames_29 0 rfl ?_
    refine gX6_79 X dX6_layFrames_30 ?_
    refine gd_iconst (v := 0) X dX6_layFrames_33 (by decide) ?_
    refine as_M5 X h.1 _ rfl dX6_layFrames_34 (fun g3 eg3 => ?_)
    have h := h.2 g3 eg3
    refine gd_aload_n X dX6_layFrames_35 0 rfl ?_
    refine gX6_26 X dX6_layFrames_36 ?_
    refine gd_aload_n X dX6_layFrames_39 0 rfl ?_
    refine gX6_79 X dX6_layFrames_40 ?_
    refine gd_iconst (v := 0) X dX6_layFrames_43 (by decide) ?_
    refine as_M6 X h.1 _ rfl dX6_layFrames_44 (fun g4 eg4 => ?_)
    have h := h.2 g4 eg4
    refine gd_iconst (v := 0) X dX6_layFrames_45 (by decide) ?_
    refine gd_istore_n (lv' := [(1, .int 0), (0, .ref (ad 0))]) X dX6_layFrames_46 (by decide) rfl ?_
    refine gd_sub [1, 0] rfl ?_
    obtain ⟨n, h⟩ := h
    exact wL_X6_layFrames_47 X hR hk5 n _ _ h
def P_X6_layFrames_5 (post : SG → Prop) (n : Nat) : SG → Prop := Nat.rec (motive := fun _ => SG → Prop) (fun _ => False) (fun _ kk g => B_X6_layFrames_5 post kk g) n
set_option maxRecDepth 100000 in
theorem wL_X6_layFrames_5 {b : BX} {D : va_G} {A : Nat → Prop} {cy : Nat → ClassId} {ad : Nat → Nat} {post : SG → Prop} (X : Cx (kM b D A cy ad) cX6_layFrames RX6 3 1 21) (hR : Rx (kM b D A cy ad) none (oV post)) : ∀ (n : Nat) (g : SG), P_X6_layFrames_5 post n g → Gd (kM b D A cy ad) 3 5 [(0, .ref (ad 0))] [] g := by
  intro n
  induction n with
  | zero => intro  g h; exact h.elim
  | succ n ih => intro  g h; exact w_X6_layFrames_5 X hR ih  g h
def B_X6_layFrames_0 (post : SG → Prop) (g : SG) : Prop :=
  ∀ g1 : SG, g1 = sput g 0 4 0 → ∃ n : Nat, P_X6_layFrames_5 post n g1
set_option maxRecDepth 100000 in
theorem w_X6_layFrames_0 {b : BX} {D : va_G} {A : Nat → Prop} {cy : Nat → ClassId} {ad : Nat → Nat} {post : SG → Prop} (X : Cx (kM b D A cy ad) cX6_layFrames RX6 3 1 21) (hR : Rx (kM b D A cy ad) none (oV post)) (g : SG) (h : B_X6_layFrames_0 post g) : Gd (kM b D A cy ad) 3 0 [(0, .ref (ad 0))] [] g := by
  unfold B_X6_layFrames_0 at h
  refine gd_aload_n X dX6_layFrames_0 0 rfl ?_
  refine gd_iconst (v := 0) X dX6_layFrames_1 (by decide) ?_
  refine pX6_79 X dX6_layFrames_2 (fun g1 eg1 => ?_)
  have h := h g1 eg1
  obtain ⟨n, h⟩ := h
  exact wL_X6_layFrames_5 X hR n _ h
set_option maxRecDepth 100000 in
theorem c_X6_layFrames (l : Launch) (D : va_G) (A : Nat → Prop) (cy : Nat → ClassId) (ad : Nat → Nat) (post : SG → Prop) (g : SG) (hB : B_X6_layFrames_0 post g) : Mt l (eM D A cy ad) yX6_layFrames cX6_layFrames 3 none 1 21 [.ref (ad 0)] g (oV post) := mt_of (plainFor_of_name (by decide)) (Nat.le_of_ble_eq_true rfl) (fun b X hR => w_X6_layFrames_0 X hR g hB)
def B_X6_wrongOf_0 (post : Int32 → Prop) (x1 x2 : Int32) (g : SG) : Prop :=
  B_X6_bitsOf_0 (fun r1 => vp_in x2 6 ∧ (vp_in x2 6 ∧ (post ((r1 ^^^ (g 6 x2.toNatClampNeg)) &&& (g 5 x2.toNatClampNeg))))) x1
set_option maxRecDepth 100000 in
theorem w_X6_wrongOf_0 {b : BX} {D : va_G} {A : Nat → Prop} {cy : Nat → ClassId} {ad : Nat → Nat} {g : SG} {post : Int32 → Prop} (X : Cx (kM b D A cy ad) cX6_wrongOf RX6 3 2 46) (hR : Rx (kM b D A cy ad) (some .int) (oR g post)) (x1 x2 : Int32) (h : B_X6_wrongOf_0 post x1 x2 g) : Gd (kM b D A cy ad) 3 0 [(0, .ref (ad 0)), (1, .int x1), (2, .int x2)] [] g := by
  unfold B_X6_wrongOf_0 at h
  refine gd_iload_n X dX6_wrongOf_0 1 rfl ?_
  refine gd_callSr (As := [.int x1]) (rest := []) X lk_X6_85 (c_X6_bitsOf _ _ _ _ _ h) ⟨by decide, by decide⟩ rfl rfl (Nat.le_of_ble_eq_true rfl) dX6_wrongOf_1 (fun r1 h => ?_)
  refine gd_aload_n X dX6_wrongOf_4 0 rfl ?_
  refine gX6_26 X dX6_wrongOf_5 ?_
  refine gd_iload_n X dX6_wrongOf_8 2 rfl ?_
  refine al_M6 X h.1 _ rfl dX6_wrongOf_9 ?_
  have h := h.2
  refine gd_ixor X dX6_wrongOf_10 ?_
  refine gd_aload_n X dX6_wrongOf_11 0 rfl ?_
  refine gX6_23 X dX6_wrongOf_12 ?_
  refine gd_iload_n X dX6_wrongOf_15 2 rfl ?_
  refine al_M5 X h.1 _ rfl dX6_wrongOf_16 ?_
  have h := h.2
  refine gd_iand X dX6_wrongOf_17 ?_
  exact gd_iret X hR dX6_wrongOf_18 ⟨_, rfl, rfl, h⟩
set_option maxRecDepth 100000 in
theorem c_X6_wrongOf (l : Launch) (D : va_G) (A : Nat → Prop) (cy : Nat → ClassId) (ad : Nat → Nat) (post : Int32 → Prop) (x1 x2 : Int32) (g : SG) (hB : B_X6_wrongOf_0 post x1 x2 g) : Mt l (eM D A cy ad) yX6_wrongOf cX6_wrongOf 3 (some .int) 2 46 [.ref (ad 0), .int x1, .int x2] g (oR g post) := mt_of (plainFor_of_name (by decide)) (Nat.le_of_ble_eq_true rfl) (fun b X hR => w_X6_wrongOf_0 X hR x1 x2 hB)
def B_X6_missesOf_7 (post : Int32 → Prop) (k7 : Int32 → Int32 → Int32 → Int32 → Prop) (x1 x2 x3 x4 : Int32) (g : SG) : Prop :=
  (((g 0 4) ≤ x4) → post x2) ∧ ((¬ (g 0 4) ≤ x4) → B_X6_wrongOf_0 (fun r2 => B_X6_many_0 (fun r3 => ∀ z4 : Int32, z4 = (x2 + r3) → B_X6_nextOf_0 (fun r5 => ∀ z6 : Int32, z6 = x4 + 1 → k7 x1 z4 r5 z6) x3) r2) x3 x4 g)
set_option maxRecDepth 100000 in
theorem w_X6_missesOf_7 {b : BX} {D : va_G} {A : Nat → Prop} {cy : Nat → ClassId} {ad : Nat → Nat} {g : SG} {post : Int32 → Prop} {k7 : Int32 → Int32 → Int32 → Int32 → Prop} (X : Cx (kM b D A cy ad) cX6_missesOf RX6 5 3 68) (hR : Rx (kM b D A cy ad) (some .int) (oR g post)) (hk7 : ∀ (x1 x2 x3 x4 : Int32), k7 x1 x2 x3 x4 → Gd (kM b D A cy ad) 5 7 [(0, .ref (ad 0)), (1, .int x1), (2, .int x2), (3, .int x3), (4, .int x4)] [] g) (x1 x2 x3 x4 : Int32) (h : B_X6_missesOf_7 post k7 x1 x2 x3 x4 g) : Gd (kM b D A cy ad) 5 7 [(0, .ref (ad 0)), (1, .int x1), (2, .int x2), (3, .int x3), (4, .int x4)] [] g := by
  unfold B_X6_missesOf_7 at h
  refine gd_iload X dX6_missesOf_7 4 rfl ?_
  refine gd_aload_n X dX6_missesOf_9 0 rfl ?_
  refine gX6_79 X dX6_missesOf_10 ?_
  refine gd_icmp_ge (tgt := 40) X dX6_missesOf_13 (by decide) (fun c1 => ?_) (fun c1 => ?_)
  · have h := h.1 c1
    refine gd_iload_n X dX6_missesOf_40 2 rfl ?_
    exact gd_iret X hR dX6_missesOf_41 ⟨_, rfl, rfl, h⟩
  · have h := h.2 c1
    refine gd_iload_n X dX6_missesOf_16 2 rfl ?_
    refine gd_aload_n X dX6_missesOf_17 0 rfl ?_
    refine gd_iload_n X dX6_missesOf_18 3 rfl ?_
    refine gd_iload X dX6_missesOf_19 4 rfl ?_
    refine gd_callVr (As := [.int x3, .int x4]) (rest := [.int x2]) X lk_X6_88 (c_X6_wrongOf _ _ _ _ _ _ _ _ _ h) 0 rfl rfl ⟨by decide, by decide⟩ rfl rfl (Nat.le_of_ble_eq_true rfl) dX6_missesOf_21 (fun r2 h => ?_)
    refine gd_callSr (As := [.int r2]) (rest := [.int x2]) X lk_X6_40 (c_X6_many _ _ _ _ _ h) ⟨by decide, by decide⟩ rfl rfl (Nat.le_of_ble_eq_true rfl) dX6_missesOf_24 (fun r3 h => ?_)
    refine gd_iadd X dX6_missesOf_27 ?_
    refine gd_topi (fun z4 ez4 => ?_)
    have h := h z4 ez4
    refine gd_istore_n (lv' := [(2, .int z4), (0, .ref (ad 0)), (1, .int x1), (3, .int x3), (4, .int x4)]) X dX6_missesOf_28 (by decide) rfl ?_
    refine gd_iload_n X dX6_missesOf_29 3 rfl ?_
    refine gd_callSr (As := [.int x3]) (rest := []) X lk_X6_44 (c_X6_nextOf _ _ _ _ _ h) ⟨by decide, by decide⟩ rfl rfl (Nat.le_of_ble_eq_true rfl) dX6_missesOf_30 (fun r5 h => ?_)
    refine gd_istore_n (lv' := [(3, .int r5), (2, .int z4), (0, .ref (ad 0)), (1, .int x1), (4, .int x4)]) X dX6_missesOf_33 (by decide) rfl ?_
    refine gd_incn X 4 1 dX6_missesOf_34 rfl (by decide) (by decide) (fun z6 => [(4, .int z6), (3, .int r5), (2, .int z4), (0, .ref (ad 0)), (1, .int x1)]) (fun _ => rfl) (fun z6 ez6 => ?_)
    have h := h z6 ez6
    refine gd_goto (tgt := 7) X dX6_missesOf_37 (by decide) ?_
    refine gd_sub [3, 4, 2, 1, 0] rfl ?_
    exact hk7 _ _ _ _ h
def P_X6_missesOf_7 (post : Int32 → Prop) (g : SG) (n : Nat) : Int32 → Int32 → Int32 → Int32 → Prop := Nat.rec (motive := fun _ => Int32 → Int32 → Int32 → Int32 → Prop) (fun _ _ _ _ => False) (fun _ kk x1 x2 x3 x4 => B_X6_missesOf_7 post kk x1 x2 x3 x4 g) n
set_option maxRecDepth 100000 in
theorem wL_X6_missesOf_7 {b : BX} {D : va_G} {A : Nat → Prop} {cy : Nat → ClassId} {ad : Nat → Nat} {g : SG} {post : Int32 → Prop} (X : Cx (kM b D A cy ad) cX6_missesOf RX6 5 3 68) (hR : Rx (kM b D A cy ad) (some .int) (oR g post)) : ∀ (n : Nat) (x1 x2 x3 x4 : Int32), P_X6_missesOf_7 post g n x1 x2 x3 x4 → Gd (kM b D A cy ad) 5 7 [(0, .ref (ad 0)), (1, .int x1), (2, .int x2), (3, .int x3), (4, .int x4)] [] g := by
  intro n
  induction n with
  | zero => intro x1 x2 x3 x4 h; exact h.elim
  | succ n ih => intro x1 x2 x3 x4 h; exact w_X6_missesOf_7 X hR ih x1 x2 x3 x4 h
def B_X6_missesOf_0 (post : Int32 → Prop) (x1 : Int32) (g : SG) : Prop :=
  ∃ n : Nat, P_X6_missesOf_7 post g n x1 0 x1 0
set_option maxRecDepth 100000 in
theorem w_X6_missesOf_0 {b : BX} {D : va_G} {A : Nat → Prop} {cy : Nat → ClassId} {ad : Nat → Nat} {g : SG} {post : Int32 → Prop} (X : Cx (kM b D A cy ad) cX6_missesOf RX6 5 3 68) (hR : Rx (kM b D A cy ad) (some .int) (oR g post)) (x1 : Int32) (h : B_X6_missesOf_0 post x1 g) : Gd (kM b D A cy ad) 5 0 [(0, .ref (ad 0)), (1, .int x1)] [] g := by
  unfold B_X6_missesOf_0 at h
  refine gd_iconst (v := 0) X dX6_missesOf_0 (by decide) ?_
  refine gd_istore_n (lv' := [(2, .int 0), (0, .ref (ad 0)), (1, .int x1)]) X dX6_missesOf_1 (by decide) rfl ?_
  refine gd_iload_n X dX6_missesOf_2 2 rfl ?_
  refine gd_istore_n (lv' := [(3, .int x1), (2, .int 0), (0, .ref (ad 0)), (1, .int x1)]) X dX6_missesOf_3 (by decide) rfl ?_
  refine gd_iconst (v := 0) X dX6_missesOf_4 (by decide) ?_
  refine gd_istore (lv' := [(4, .int 0), (3, .int x1), (2, .int 0), (0, .ref (ad 0)), (1, .int x1)]) X dX6_missesOf_5 (by decide) rfl ?_
  refine gd_sub [3, 4, 2, 1, 0] rfl ?_
  obtain ⟨n, h⟩ := h
  exact wL_X6_missesOf_7 X hR n _ _ _ _ h
set_option maxRecDepth 100000 in
theorem c_X6_missesOf (l : Launch) (D : va_G) (A : Nat → Prop) (cy : Nat → ClassId) (ad : Nat → Nat) (post : Int32 → Prop) (x1 : Int32) (g : SG) (hB : B_X6_missesOf_0 post x1 g) : Mt l (eM D A cy ad) yX6_missesOf cX6_missesOf 5 (some .int) 3 68 [.ref (ad 0), .int x1] g (oR g post) := mt_of (plainFor_of_name (by decide)) (Nat.le_of_ble_eq_true rfl) (fun b X hR => w_X6_missesOf_0 X hR x1 hB)
def B_X6_tells_113 (post : SG → Prop) (k32 : Int32 → Int32 → SG → Prop) (x1 x2 : Int32) (g : SG) : Prop :=
  ∀ z1 : Int32, z1 = x2 + 1 → k32 x1 z1 g
set_option maxRecDepth 100000 in
theorem w_X6_tells_113 {b : BX} {D : va_G} {A : Nat → Prop} {cy : Nat → ClassId} {ad : Nat → Nat} {post : SG → Prop} {k32 : Int32 → Int32 → SG → Prop} (X : Cx (kM b D A cy ad) cX6_tells RX6 3 4 92) (hR : Rx (kM b D A cy ad) none (oV post)) (hk32 : ∀ (x1 x2 : Int32) (g : SG), k32 x1 x2 g → Gd (kM b D A cy ad) 3 32 [(0, .ref (ad 0)), (1, .int x1), (2, .int x2)] [] g) (x1 x2 : Int32) (g : SG) (h : B_X6_tells_113 post k32 x1 x2 g) : Gd (kM b D A cy ad) 3 113 [(0, .ref (ad 0)), (1, .int x1), (2, .int x2)] [] g := by
  unfold B_X6_tells_113 at h
  refine gd_incn X 2 1 dX6_tells_113 rfl (by decide) (by decide) (fun z1 => [(2, .int z1), (0, .ref (ad 0)), (1, .int x1)]) (fun _ => rfl) (fun z1 ez1 => ?_)
  have h := h z1 ez1
  refine gd_goto (tgt := 32) X dX6_tells_116 (by decide) ?_
  refine gd_sub [1, 2, 0] rfl ?_
  exact hk32 _ _ _ h
def B_X6_tells_77 (post : SG → Prop) (k32 : Int32 → Int32 → SG → Prop) (x1 x2 : Int32) (g : SG) : Prop :=
  ∀ z1 : Int32, z1 = (g 0 5) → ∀ g2 : SG, g2 = sput g 0 5 x2 → B_X6_tells_113 post k32 z1 x2 g2
set_option maxRecDepth 100000 in
theorem w_X6_tells_77 {b : BX} {D : va_G} {A : Nat → Prop} {cy : Nat → ClassId} {ad : Nat → Nat} {post : SG → Prop} {k32 : Int32 → Int32 → SG → Prop} (X : Cx (kM b D A cy ad) cX6_tells RX6 3 4 92) (hR : Rx (kM b D A cy ad) none (oV post)) (hk32 : ∀ (x1 x2 : Int32) (g : SG), k32 x1 x2 g → Gd (kM b D A cy ad) 3 32 [(0, .ref (ad 0)), (1, .int x1), (2, .int x2)] [] g) (x1 x2 : Int32) (g : SG) (h : B_X6_tells_77 post k32 x1 x2 g) : Gd (kM b D A cy ad) 3 77 [(0, .ref (ad 0)), (1, .int x1), (2, .int x2)] [] g := by
  unfold B_X6_tells_77 at h
  refine gd_aload_n X dX6_tells_77 0 rfl ?_
  refine gX6_97 X dX6_tells_78 ?_
  refine gd_topi (fun z1 ez1 => ?_)
  have h := h z1 ez1
  refine gd_istore_n (lv' := [(1, .int z1), (0, .ref (ad 0)), (2, .int x2)]) X dX6_tells_81 (by decide) rfl ?_
  refine gd_aload_n X dX6_tells_82 1 rfl ?_
  refine gd_iload_n X dX6_tells_83 2 rfl ?_
  refine pX6_97 X dX6_tells_84 (fun g2 eg2 => ?_)
  have h := h g2 eg2
  refine gd_goto (tgt := 113) X dX6_tells_87 (by decide) ?_
  refine gd_sub [1, 0, 2] rfl ?_
  exact w_X6_tells_113 X hR hk32 _ _ _ h
def B_X6_tells_111 (post : SG → Prop) (k32 : Int32 → Int32 → SG → Prop) (x1 x2 : Int32) (g : SG) : Prop :=
  B_X6_tells_113 post k32 x2 x2 g
set_option maxRecDepth 100000 in
theorem w_X6_tells_111 {b : BX} {D : va_G} {A : Nat → Prop} {cy : Nat → ClassId} {ad : Nat → Nat} {post : SG → Prop} {k32 : Int32 → Int32 → SG → Prop} (X : Cx (kM b D A cy ad) cX6_tells RX6 3 4 92) (hR : Rx (kM b D A cy ad) none (oV post)) (hk32 : ∀ (x1 x2 : Int32) (g : SG), k32 x1 x2 g → Gd (kM b D A cy ad) 3 32 [(0, .ref (ad 0)), (1, .int x1), (2, .int x2)] [] g) (x1 x2 : Int32) (g : SG) (h : B_X6_tells_111 post k32 x1 x2 g) : Gd (kM b D A cy ad) 3 111 [(0, .ref (ad 0)), (1, .int x1), (2, .int x2)] [] g := by
  unfold B_X6_tells_111 at h
  refine gd_iload_n X dX6_tells_111 2 rfl ?_
  refine gd_istore_n (lv' := [(1, .int x2), (0, .ref (ad 0)), (2, .int x2)]) X dX6_tells_112 (by decide) rfl ?_
  refine gd_sub [1, 0, 2] rfl ?_
  exact w_X6_tells_113 X hR hk32 _ _ _ h
def B_X6_tells_32 (post : SG → Prop) (k32 : Int32 → Int32 → SG → Prop) (x1 x2 : Int32) (g : SG) : Prop :=
  ((11520 ≤ x2) → vp_in x1 11520 ∧ (vp_in (g 0 5) 11520 ∧ (∀ g2 : SG, g2 = sput g 0 6 ((g 7 x1.toNatClampNeg) - (g 7 (g 0 5).toNatClampNeg)) → post g2))) ∧ ((¬ 11520 ≤ x2) → B_X6_missesOf_0 (fun r3 => vp_in x2 11520 ∧ (∀ g4 : SG, g4 = sput g 7 x2.toNatClampNeg r3 → (((g4 0 5) = (-9)) → B_X6_tells_77 post k32 x1 x2 g4) ∧ ((¬ (g4 0 5) = (-9)) → vp_in x2 11520 ∧ (vp_in (g4 0 5) 11520 ∧ ((((g4 7 (g4 0 5).toNatClampNeg) ≤ (g4 7 x2.toNatClampNeg)) → ((x1 = (-9)) → B_X6_tells_111 post k32 x1 x2 g4) ∧ ((¬ x1 = (-9)) → vp_in x2 11520 ∧ (vp_in x1 11520 ∧ ((((g4 7 x1.toNatClampNeg) ≤ (g4 7 x2.toNatClampNeg)) → B_X6_tells_113 post k32 x1 x2 g4) ∧ ((¬ (g4 7 x1.toNatClampNeg) ≤ (g4 7 x2.toNatClampNeg)) → B_X6_tells_111 post k32 x1 x2 g4))))) ∧ ((¬ (g4 7 (g4 0 5).toNatClampNeg) ≤ (g4 7 x2.toNatClampNeg)) → B_X6_tells_77 post k32 x1 x2 g4)))))) x2 g)
set_option maxRecDepth 100000 in
theorem w_X6_tells_32 {b : BX} {D : va_G} {A : Nat → Prop} {cy : Nat → ClassId} {ad : Nat → Nat} {post : SG → Prop} {k32 : Int32 → Int32 → SG → Prop} (X : Cx (kM b D A cy ad) cX6_tells RX6 3 4 92) (hR : Rx (kM b D A cy ad) none (oV post)) (hk32 : ∀ (x1 x2 : Int32) (g : SG), k32 x1 x2 g → Gd (kM b D A cy ad) 3 32 [(0, .ref (ad 0)), (1, .int x1), (2, .int x2)] [] g) (x1 x2 : Int32) (g : SG) (h : B_X6_tells_32 post k32 x1 x2 g) : Gd (kM b D A cy ad) 3 32 [(0, .ref (ad 0)), (1, .int x1), (2, .int x2)] [] g := by
  unfold B_X6_tells_32 at h
  refine gd_iload_n X dX6_tells_32 2 rfl ?_
  refine gd_sipush (v := 11520) X dX6_tells_33 (by decide) ?_
  refine gd_icmp_ge (tgt := 119) X dX6_tells_36 (by decide) (fun c1 => ?_) (fun c1 => ?_)
  · have h := h.1 c1
    refine gd_aload_n X dX6_tells_119 0 rfl ?_
    refine gd_aload_n X dX6_tells_120 0 rfl ?_
    refine gX6_29 X dX6_tells_121 ?_
    refine gd_iload_n X dX6_tells_124 1 rfl ?_
    refine al_M7 X h.1 _ rfl dX6_tells_125 ?_
    have h := h.2
    refine gd_aload_n X dX6_tells_126 0 rfl ?_
    refine gX6_29 X dX6_tells_127 ?_
    refine gd_aload_n X dX6_tells_130 0 rfl ?_
    refine gX6_97 X dX6_tells_131 ?_
    refine al_M7 X h.1 _ rfl dX6_tells_134 ?_
    have h := h.2
    refine gd_isub X dX6_tells_135 ?_
    refine pX6_103 X dX6_tells_136 (fun g2 eg2 => ?_)
    have h := h g2 eg2
    exact gd_vret X hR dX6_tells_139 ⟨rfl, h⟩
  · have h := h.2 c1
    refine gd_aload_n X dX6_tells_39 0 rfl ?_
    refine gX6_29 X dX6_tells_40 ?_
    refine gd_iload_n X dX6_tells_43 2 rfl ?_
    refine gd_aload_n X dX6_tells_44 0 rfl ?_
    refine gd_iload_n X dX6_tells_45 2 rfl ?_
    refine gd_callVr (As := [.int x2]) (rest := [.int x2, .ref (ad 7)]) X lk_X6_100 (c_X6_missesOf _ _ _ _ _ _ _ _ h) 0 rfl rfl ⟨by decide, by decide⟩ rfl rfl (Nat.le_of_ble_eq_true rfl) dX6_tells_46 (fun r3 h => ?_)
    refine as_M7 X h.1 _ rfl dX6_tells_49 (fun g4 eg4 => ?_)
    have h := h.2 g4 eg4
    refine gd_aload_n X dX6_tells_50 0 rfl ?_
    refine gX6_97 X dX6_tells_51 ?_
    refine gd_bipush (v := (-9)) X dX6_tells_54 (by decide) ?_
    refine gd_icmp_eq (tgt := 77) X dX6_tells_56 (by decide) (fun c5 => ?_) (fun c5 => ?_)
    · have h := h.1 c5
      exact w_X6_tells_77 X hR hk32 _ _ _ h
    · have h := h.2 c5
      refine gd_aload_n X dX6_tells_59 0 rfl ?_
      refine gX6_29 X dX6_tells_60 ?_
      refine gd_iload_n X dX6_tells_63 2 rfl ?_
      refine al_M7 X h.1 _ rfl dX6_tells_64 ?_
      have h := h.2
      refine gd_aload_n X dX6_tells_65 0 rfl ?_
      refine gX6_29 X dX6_tells_66 ?_
      refine gd_aload_n X dX6_tells_69 0 rfl ?_
      refine gX6_97 X dX6_tells_70 ?_
      refine al_M7 X h.1 _ rfl dX6_tells_73 ?_
      have h := h.2
      refine gd_icmp_ge (tgt := 90) X dX6_tells_74 (by decide) (fun c6 => ?_) (fun c6 => ?_)
      · have h := h.1 c6
        refine gd_iload_n X dX6_tells_90 1 rfl ?_
        refine gd_bipush (v := (-9)) X dX6_tells_91 (by decide) ?_
        refine gd_icmp_eq (tgt := 111) X dX6_tells_93 (by decide) (fun c7 => ?_) (fun c7 => ?_)
        · have h := h.1 c7
          exact w_X6_tells_111 X hR hk32 _ _ _ h
        · have h := h.2 c7
          refine gd_aload_n X dX6_tells_96 0 rfl ?_
          refine gX6_29 X dX6_tells_97 ?_
          refine gd_iload_n X dX6_tells_100 2 rfl ?_
          refine al_M7 X h.1 _ rfl dX6_tells_101 ?_
          have h := h.2
          refine gd_aload_n X dX6_tells_102 0 rfl ?_
          refine gX6_29 X dX6_tells_103 ?_
          refine gd_iload_n X dX6_tells_106 1 rfl ?_
          refine al_M7 X h.1 _ rfl dX6_tells_107 ?_
          have h := h.2
          refine gd_icmp_ge (tgt := 113) X dX6_tells_108 (by decide) (fun c8 => ?_) (fun c8 => ?_)
          · have h := h.1 c8
            exact w_X6_tells_113 X hR hk32 _ _ _ h
          · have h := h.2 c8
            exact w_X6_tells_111 X hR hk32 _ _ _ h
      · have h := h.2 c6
        exact w_X6_tells_77 X hR hk32 _ _ _ h
def P_X6_tells_32 (post : SG → Prop) (n : Nat) : Int32 → Int32 → SG → Prop := Nat.rec (motive := fun _ => Int32 → Int32 → SG → Prop) (fun _ _ _ => False) (fun _ kk x1 x2 g => B_X6_tells_32 post kk x1 x2 g) n
set_option maxRecDepth 100000 in
theorem wL_X6_tells_32 {b : BX} {D : va_G} {A : Nat → Prop} {cy : Nat → ClassId} {ad : Nat → Nat} {post : SG → Prop} (X : Cx (kM b D A cy ad) cX6_tells RX6 3 4 92) (hR : Rx (kM b D A cy ad) none (oV post)) : ∀ (n : Nat) (x1 x2 : Int32) (g : SG), P_X6_tells_32 post n x1 x2 g → Gd (kM b D A cy ad) 3 32 [(0, .ref (ad 0)), (1, .int x1), (2, .int x2)] [] g := by
  intro n
  induction n with
  | zero => intro x1 x2 g h; exact h.elim
  | succ n ih => intro x1 x2 g h; exact w_X6_tells_32 X hR ih x1 x2 g h
def B_X6_tells_0 (post : SG → Prop) (g : SG) : Prop :=
  (((g 0 2) = 0) → ∀ g2 : SG, g2 = sput g 0 2 1 → B_X6_layPhase_0 (fun g3 => B_X6_layFrames_0 (fun g4 => ∀ g5 : SG, g5 = sput g4 0 5 (-9) → ∃ n : Nat, P_X6_tells_32 post n (-9) 0 g5) g3) g2) ∧ ((¬ (g 0 2) = 0) → post g)
set_option maxRecDepth 100000 in
theorem w_X6_tells_0 {b : BX} {D : va_G} {A : Nat → Prop} {cy : Nat → ClassId} {ad : Nat → Nat} {post : SG → Prop} (X : Cx (kM b D A cy ad) cX6_tells RX6 3 4 92) (hR : Rx (kM b D A cy ad) none (oV post)) (g : SG) (h : B_X6_tells_0 post g) : Gd (kM b D A cy ad) 3 0 [(0, .ref (ad 0))] [] g := by
  unfold B_X6_tells_0 at h
  refine gd_aload_n X dX6_tells_0 0 rfl ?_
  refine gX6_58 X dX6_tells_1 ?_
  refine gd_if_eq (tgt := 8) X dX6_tells_4 (by decide) (fun c1 => ?_) (fun c1 => ?_)
  · have h := h.1 c1
    refine gd_aload_n X dX6_tells_8 0 rfl ?_
    refine gd_iconst (v := 1) X dX6_tells_9 (by decide) ?_
    refine pX6_58 X rfl rfl dX6_tells_10 (fun g2 eg2 => ?_)
    have h := h g2 eg2
    refine gd_aload_n X dX6_tells_13 0 rfl ?_
    refine gd_callVv (As := []) (rest := []) X lk_X6_91 (c_X6_layPhase _ _ _ _ _ _ _ h) 0 rfl rfl ⟨by decide, by decide⟩ rfl rfl (Nat.le_of_ble_eq_true rfl) dX6_tells_14 (fun g3 h => ?_)
    refine gd_aload_n X dX6_tells_17 0 rfl ?_
    refine gd_callVv (As := []) (rest := []) X lk_X6_94 (c_X6_layFrames _ _ _ _ _ _ _ h) 0 rfl rfl ⟨by decide, by decide⟩ rfl rfl (Nat.le_of_ble_eq_true rfl) dX6_tells_18 (fun g4 h => ?_)
    refine gd_aload_n X dX6_tells_21 0 rfl ?_
    refine gd_bipush (v := (-9)) X dX6_tells_22 (by decide) ?_
    refine pX6_97 X dX6_tells_24 (fun g5 eg5 => ?_)
    have h := h g5 eg5
    refine gd_bipush (v := (-9)) X dX6_tells_27 (by decide) ?_
    refine gd_istore_n (lv' := [(1, .int (-9)), (0, .ref (ad 0))]) X dX6_tells_29 (by decide) rfl ?_
    refine gd_iconst (v := 0) X dX6_tells_30 (by decide) ?_
    refine gd_istore_n (lv' := [(2, .int 0), (1, .int (-9)), (0, .ref (ad 0))]) X dX6_tells_31 (by decide) rfl ?_
    refine gd_sub [2, 1, 0] rfl ?_
    obtain ⟨n, h⟩ := h
    exact wL_X6_tells_32 X hR n _ _ _ h
  · have h := h.2 c1
    exact gd_vret X hR dX6_tells_7 ⟨rfl, h⟩
set_option maxRecDepth 100000 in
theorem c_X6_tells (l : Launch) (D : va_G) (A : Nat → Prop) (cy : Nat → ClassId) (ad : Nat → Nat) (post : SG → Prop) (g : SG) (hB : B_X6_tells_0 post g) : Mt l (eM D A cy ad) yX6_tells cX6_tells 3 none 4 92 [.ref (ad 0)] g (oV post) := mt_of (plainFor_of_name (by decide)) (Nat.le_of_ble_eq_true rfl) (fun b X hR => w_X6_tells_0 X hR g hB)
def B_X6_isShown_25 (post : Int32 → Prop) (y0 : Int32) (g : SG) : Prop :=
  (narrow .boolean (.int y0) = .int y0 ∧ post y0)
set_option maxRecDepth 100000 in
theorem w_X6_isShown_25 {b : BX} {D : va_G} {A : Nat → Prop} {cy : Nat → ClassId} {ad : Nat → Nat} {g : SG} {post : Int32 → Prop} (X : Cx (kM b D A cy ad) cX6_isShown RX6 1 0 0) (hR : Rx (kM b D A cy ad) (some .boolean) (oR g post)) (y0 : Int32) (h : B_X6_isShown_25 post y0 g) : Gd (kM b D A cy ad) 1 25 [(0, .ref (ad 0))] [.int y0] g := by
  unfold B_X6_isShown_25 at h
  exact gd_zret X hR dX6_isShown_25 h.1 ⟨_, rfl, rfl, h.2⟩
def B_X6_isShown_24 (post : Int32 → Prop) (g : SG) : Prop :=
  B_X6_isShown_25 post 0 g
set_option maxRecDepth 100000 in
theorem w_X6_isShown_24 {b : BX} {D : va_G} {A : Nat → Prop} {cy : Nat → ClassId} {ad : Nat → Nat} {g : SG} {post : Int32 → Prop} (X : Cx (kM b D A cy ad) cX6_isShown RX6 1 0 0) (hR : Rx (kM b D A cy ad) (some .boolean) (oR g post)) (h : B_X6_isShown_24 post g) : Gd (kM b D A cy ad) 1 24 [(0, .ref (ad 0))] [] g := by
  unfold B_X6_isShown_24 at h
  refine gd_iconst (v := 0) X dX6_isShown_24 (by decide) ?_
  exact w_X6_isShown_25 X hR _ h
def B_X6_isShown_0 (post : Int32 → Prop) (g : SG) : Prop :=
  (((g 0 4) ≤ 0) → B_X6_isShown_24 post g) ∧ ((¬ (g 0 4) ≤ 0) → (((g 0 6) < (g 1 1)) → B_X6_isShown_24 post g) ∧ ((¬ (g 0 6) < (g 1 1)) → B_X6_isShown_25 post 1 g))
set_option maxRecDepth 100000 in
theorem w_X6_isShown_0 {b : BX} {D : va_G} {A : Nat → Prop} {cy : Nat → ClassId} {ad : Nat → Nat} {g : SG} {post : Int32 → Prop} (X : Cx (kM b D A cy ad) cX6_isShown RX6 1 0 0) (hR : Rx (kM b D A cy ad) (some .boolean) (oR g post)) (h : B_X6_isShown_0 post g) : Gd (kM b D A cy ad) 1 0 [(0, .ref (ad 0))] [] g := by
  unfold B_X6_isShown_0 at h
  refine gd_aload_n X dX6_isShown_0 0 rfl ?_
  refine gX6_79 X dX6_isShown_1 ?_
  refine gd_if_le (tgt := 24) X dX6_isShown_4 (by decide) (fun c1 => ?_) (fun c1 => ?_)
  · have h := h.1 c1
    exact w_X6_isShown_24 X hR h
  · have h := h.2 c1
    refine gd_aload_n X dX6_isShown_7 0 rfl ?_
    refine gX6_103 X dX6_isShown_8 ?_
    refine gd_aload_n X dX6_isShown_11 0 rfl ?_
    refine gX6_7 X dX6_isShown_12 ?_
    refine gd_iconst (v := 1) X dX6_isShown_15 (by decide) ?_
    refine al_M1 X vi_1_126 1 tc_1 dX6_isShown_16 ?_
    refine gd_icmp_lt (tgt := 24) X dX6_isShown_17 (by decide) (fun c2 => ?_) (fun c2 => ?_)
    · have h := h.1 c2
      exact w_X6_isShown_24 X hR h
    · have h := h.2 c2
      refine gd_iconst (v := 1) X dX6_isShown_20 (by decide) ?_
      refine gd_goto (tgt := 25) X dX6_isShown_21 (by decide) ?_
      exact w_X6_isShown_25 X hR _ h
set_option maxRecDepth 100000 in
theorem c_X6_isShown (l : Launch) (D : va_G) (A : Nat → Prop) (cy : Nat → ClassId) (ad : Nat → Nat) (post : Int32 → Prop) (g : SG) (hB : B_X6_isShown_0 post g) : Mt l (eM D A cy ad) yX6_isShown cX6_isShown 1 (some .boolean) 0 0 [.ref (ad 0)] g (oR g post) := mt_of (plainFor_of_name (by decide)) (Nat.le_of_ble_eq_true rfl) (fun b X hR => w_X6_isShown_0 X hR hB)
def B_X6_lastTime_0 (post : Int32 → Prop) (g : SG) : Prop :=
  B_X6_later_0 (fun r1 => post r1) (g 0 5) ((g 0 4) - 1)
set_option maxRecDepth 100000 in
theorem w_X6_lastTime_0 {b : BX} {D : va_G} {A : Nat → Prop} {cy : Nat → ClassId} {ad : Nat → Nat} {g : SG} {post : Int32 → Prop} (X : Cx (kM b D A cy ad) cX6_lastTime RX6 1 3 66) (hR : Rx (kM b D A cy ad) (some .int) (oR g post)) (h : B_X6_lastTime_0 post g) : Gd (kM b D A cy ad) 1 0 [(0, .ref (ad 0))] [] g := by
  unfold B_X6_lastTime_0 at h
  refine gd_aload_n X dX6_lastTime_0 0 rfl ?_
  refine gX6_97 X dX6_lastTime_1 ?_
  refine gd_aload_n X dX6_lastTime_4 0 rfl ?_
  refine gX6_79 X dX6_lastTime_5 ?_
  refine gd_iconst (v := 1) X dX6_lastTime_8 (by decide) ?_
  refine gd_isub X dX6_lastTime_9 ?_
  refine gd_callSr (As := [.int ((g 0 5)), .int (((g 0 4) - 1))]) (rest := []) X lk_X6_106 (c_X6_later _ _ _ _ _ _ h) ⟨by decide, by decide⟩ rfl rfl (Nat.le_of_ble_eq_true rfl) dX6_lastTime_10 (fun r1 h => ?_)
  exact gd_iret X hR dX6_lastTime_13 ⟨_, rfl, rfl, h⟩
set_option maxRecDepth 100000 in
theorem c_X6_lastTime (l : Launch) (D : va_G) (A : Nat → Prop) (cy : Nat → ClassId) (ad : Nat → Nat) (post : Int32 → Prop) (g : SG) (hB : B_X6_lastTime_0 post g) : Mt l (eM D A cy ad) yX6_lastTime cX6_lastTime 1 (some .int) 3 66 [.ref (ad 0)] g (oR g post) := mt_of (plainFor_of_name (by decide)) (Nat.le_of_ble_eq_true rfl) (fun b X hR => w_X6_lastTime_0 X hR hB)
def B_X6_symbol_25 (post : Int32 → Prop) (x1 y0 : Int32) (g : SG) : Prop :=
  post y0
set_option maxRecDepth 100000 in
theorem w_X6_symbol_25 {b : BX} {D : va_G} {A : Nat → Prop} {cy : Nat → ClassId} {ad : Nat → Nat} {g : SG} {post : Int32 → Prop} (X : Cx (kM b D A cy ad) cX6_symbol RX6 2 1 22) (hR : Rx (kM b D A cy ad) (some .int) (oR g post)) (x1 y0 : Int32) (h : B_X6_symbol_25 post x1 y0 g) : Gd (kM b D A cy ad) 2 25 [(0, .ref (ad 0)), (1, .int x1)] [.int y0] g := by
  unfold B_X6_symbol_25 at h
  exact gd_iret X hR dX6_symbol_25 ⟨_, rfl, rfl, h⟩
def B_X6_symbol_0 (post : Int32 → Prop) (x1 : Int32) (g : SG) : Prop :=
  B_X6_in_0 (fun r1 => ((r1 = 0) → B_X6_symbol_25 post x1 (-1) g) ∧ ((¬ r1 = 0) → B_X6_symbolAt_0 (fun r3 => B_X6_symbol_25 post x1 r3 g) x1 g)) x1 0 ((g 1 0) - 1)
set_option maxRecDepth 100000 in
theorem w_X6_symbol_0 {b : BX} {D : va_G} {A : Nat → Prop} {cy : Nat → ClassId} {ad : Nat → Nat} {g : SG} {post : Int32 → Prop} (X : Cx (kM b D A cy ad) cX6_symbol RX6 2 1 22) (hR : Rx (kM b D A cy ad) (some .int) (oR g post)) (x1 : Int32) (h : B_X6_symbol_0 post x1 g) : Gd (kM b D A cy ad) 2 0 [(0, .ref (ad 0)), (1, .int x1)] [] g := by
  unfold B_X6_symbol_0 at h
  refine gd_iload_n X dX6_symbol_0 1 rfl ?_
  refine gd_iconst (v := 0) X dX6_symbol_1 (by decide) ?_
  refine gd_aload_n X dX6_symbol_2 0 rfl ?_
  refine gX6_7 X dX6_symbol_3 ?_
  refine gd_iconst (v := 0) X dX6_symbol_6 (by decide) ?_
  refine al_M1 X vi_0_126 0 tc_0 dX6_symbol_7 ?_
  refine gd_iconst (v := 1) X dX6_symbol_8 (by decide) ?_
  refine gd_isub X dX6_symbol_9 ?_
  refine gd_callSr (As := [.int x1, .int 0, .int (((g 1 0) - 1))]) (rest := []) X lk_X6_47 (c_X6_in _ _ _ _ _ _ _ h) ⟨by decide, by decide⟩ rfl rfl (Nat.le_of_ble_eq_true rfl) dX6_symbol_10 (fun r1 h => ?_)
  refine gd_if_eq (tgt := 24) X dX6_symbol_13 (by decide) (fun c2 => ?_) (fun c2 => ?_)
  · have h := h.1 c2
    refine gd_iconst (v := (-1)) X dX6_symbol_24 (by decide) ?_
    exact w_X6_symbol_25 X hR _ _ h
  · have h := h.2 c2
    refine gd_aload_n X dX6_symbol_16 0 rfl ?_
    refine gd_iload_n X dX6_symbol_17 1 rfl ?_
    refine gd_callVr (As := [.int x1]) (rest := []) X lk_X6_73 (c_X6_symbolAt _ _ _ _ _ _ _ _ h) 0 rfl rfl ⟨by decide, by decide⟩ rfl rfl (Nat.le_of_ble_eq_true rfl) dX6_symbol_18 (fun r3 h => ?_)
    refine gd_goto (tgt := 25) X dX6_symbol_21 (by decide) ?_
    exact w_X6_symbol_25 X hR _ _ h
set_option maxRecDepth 100000 in
theorem c_X6_symbol (l : Launch) (D : va_G) (A : Nat → Prop) (cy : Nat → ClassId) (ad : Nat → Nat) (post : Int32 → Prop) (x1 : Int32) (g : SG) (hB : B_X6_symbol_0 post x1 g) : Mt l (eM D A cy ad) yX6_symbol cX6_symbol 2 (some .int) 1 22 [.ref (ad 0), .int x1] g (oR g post) := mt_of (plainFor_of_name (by decide)) (Nat.le_of_ble_eq_true rfl) (fun b X hR => w_X6_symbol_0 X hR x1 hB)
def B_X6_isClear_36 (post : Int32 → Prop) (k6 : Int32 → Int32 → Int32 → Int32 → Int32 → Prop) (x1 x2 x3 x4 x5 y0 : Int32) (g : SG) : Prop :=
  ∀ z1 : Int32, z1 = x5 + 1 → k6 x1 x2 x3 y0 z1
set_option maxRecDepth 100000 in
theorem w_X6_isClear_36 {b : BX} {D : va_G} {A : Nat → Prop} {cy : Nat → ClassId} {ad : Nat → Nat} {g : SG} {post : Int32 → Prop} {k6 : Int32 → Int32 → Int32 → Int32 → Int32 → Prop} (X : Cx (kM b D A cy ad) cX6_isClear RX6 6 1 21) (hR : Rx (kM b D A cy ad) (some .boolean) (oR g post)) (hk6 : ∀ (x1 x2 x3 x4 x5 : Int32), k6 x1 x2 x3 x4 x5 → Gd (kM b D A cy ad) 6 6 [(0, .ref (ad 0)), (1, .int x1), (2, .int x2), (3, .int x3), (4, .int x4), (5, .int x5)] [] g) (x1 x2 x3 x4 x5 y0 : Int32) (h : B_X6_isClear_36 post k6 x1 x2 x3 x4 x5 y0 g) : Gd (kM b D A cy ad) 6 36 [(0, .ref (ad 0)), (1, .int x1), (2, .int x2), (3, .int x3), (4, .int x4), (5, .int x5)] [.int y0] g := by
  unfold B_X6_isClear_36 at h
  refine gd_istore (lv' := [(4, .int y0), (0, .ref (ad 0)), (1, .int x1), (2, .int x2), (3, .int x3), (5, .int x5)]) X dX6_isClear_36 (by decide) rfl ?_
  refine gd_incn X 5 1 dX6_isClear_38 rfl (by decide) (by decide) (fun z1 => [(5, .int z1), (4, .int y0), (0, .ref (ad 0)), (1, .int x1), (2, .int x2), (3, .int x3)]) (fun _ => rfl) (fun z1 ez1 => ?_)
  have h := h z1 ez1
  refine gd_goto (tgt := 6) X dX6_isClear_41 (by decide) ?_
  refine gd_sub [2, 3, 4, 5, 1, 0] rfl ?_
  exact hk6 _ _ _ _ _ h
def B_X6_isClear_35 (post : Int32 → Prop) (k6 : Int32 → Int32 → Int32 → Int32 → Int32 → Prop) (x1 x2 x3 x4 x5 : Int32) (g : SG) : Prop :=
  B_X6_isClear_36 post k6 x1 x2 x3 x4 x5 0 g
set_option maxRecDepth 100000 in
theorem w_X6_isClear_35 {b : BX} {D : va_G} {A : Nat → Prop} {cy : Nat → ClassId} {ad : Nat → Nat} {g : SG} {post : Int32 → Prop} {k6 : Int32 → Int32 → Int32 → Int32 → Int32 → Prop} (X : Cx (kM b D A cy ad) cX6_isClear RX6 6 1 21) (hR : Rx (kM b D A cy ad) (some .boolean) (oR g post)) (hk6 : ∀ (x1 x2 x3 x4 x5 : Int32), k6 x1 x2 x3 x4 x5 → Gd (kM b D A cy ad) 6 6 [(0, .ref (ad 0)), (1, .int x1), (2, .int x2), (3, .int x3), (4, .int x4), (5, .int x5)] [] g) (x1 x2 x3 x4 x5 : Int32) (h : B_X6_isClear_35 post k6 x1 x2 x3 x4 x5 g) : Gd (kM b D A cy ad) 6 35 [(0, .ref (ad 0)), (1, .int x1), (2, .int x2), (3, .int x3), (4, .int x4), (5, .int x5)] [] g := by
  unfold B_X6_isClear_35 at h
  refine gd_iconst (v := 0) X dX6_isClear_35 (by decide) ?_
  exact w_X6_isClear_36 X hR hk6 _ _ _ _ _ _ h
def B_X6_isClear_6 (post : Int32 → Prop) (k6 : Int32 → Int32 → Int32 → Int32 → Int32 → Prop) (x1 x2 x3 x4 x5 : Int32) (g : SG) : Prop :=
  ((x3 < x5) → (narrow .boolean (.int x4) = .int x4 ∧ post x4)) ∧ ((¬ x3 < x5) → ((x4 = 0) → B_X6_isClear_35 post k6 x1 x2 x3 x4 x5 g) ∧ ((¬ x4 = 0) → vp_in x1 6 ∧ (B_X6_has_0 (fun r3 => ((r3 = 0) → B_X6_isClear_35 post k6 x1 x2 x3 x4 x5 g) ∧ ((¬ r3 = 0) → B_X6_isClear_36 post k6 x1 x2 x3 x4 x5 1 g)) (g 5 x1.toNatClampNeg) x5)))
set_option maxRecDepth 100000 in
theorem w_X6_isClear_6 {b : BX} {D : va_G} {A : Nat → Prop} {cy : Nat → ClassId} {ad : Nat → Nat} {g : SG} {post : Int32 → Prop} {k6 : Int32 → Int32 → Int32 → Int32 → Int32 → Prop} (X : Cx (kM b D A cy ad) cX6_isClear RX6 6 1 21) (hR : Rx (kM b D A cy ad) (some .boolean) (oR g post)) (hk6 : ∀ (x1 x2 x3 x4 x5 : Int32), k6 x1 x2 x3 x4 x5 → Gd (kM b D A cy ad) 6 6 [(0, .ref (ad 0)), (1, .int x1), (2, .int x2), (3, .int x3), (4, .int x4), (5, .int x5)] [] g) (x1 x2 x3 x4 x5 : Int32) (h : B_X6_isClear_6 post k6 x1 x2 x3 x4 x5 g) : Gd (kM b D A cy ad) 6 6 [(0, .ref (ad 0)), (1, .int x1), (2, .int x2), (3, .int x3), (4, .int x4), (5, .int x5)] [] g := by
  unfold B_X6_isClear_6 at h
  refine gd_iload X dX6_isClear_6 5 rfl ?_
  refine gd_iload_n X dX6_isClear_8 3 rfl ?_
  refine gd_icmp_gt (tgt := 44) X dX6_isClear_9 (by decide) (fun c1 => ?_) (fun c1 => ?_)
  · have h := h.1 c1
    refine gd_iload X dX6_isClear_44 4 rfl ?_
    exact gd_zret X hR dX6_isClear_46 h.1 ⟨_, rfl, rfl, h.2⟩
  · have h := h.2 c1
    refine gd_iload X dX6_isClear_12 4 rfl ?_
    refine gd_if_eq (tgt := 35) X dX6_isClear_14 (by decide) (fun c2 => ?_) (fun c2 => ?_)
    · have h := h.1 c2
      exact w_X6_isClear_35 X hR hk6 _ _ _ _ _ h
    · have h := h.2 c2
      refine gd_aload_n X dX6_isClear_17 0 rfl ?_
      refine gX6_23 X dX6_isClear_18 ?_
      refine gd_iload_n X dX6_isClear_21 1 rfl ?_
      refine al_M5 X h.1 _ rfl dX6_isClear_22 ?_
      have h := h.2
      refine gd_iload X dX6_isClear_23 5 rfl ?_
      refine gd_callSr (As := [.int ((g 5 x1.toNatClampNeg)), .int x5]) (rest := []) X lk_X6_32 (c_X6_has _ _ _ _ _ _ h) ⟨by decide, by decide⟩ rfl rfl (Nat.le_of_ble_eq_true rfl) dX6_isClear_25 (fun r3 h => ?_)
      refine gd_if_eq (tgt := 35) X dX6_isClear_28 (by decide) (fun c4 => ?_) (fun c4 => ?_)
      · have h := h.1 c4
        exact w_X6_isClear_35 X hR hk6 _ _ _ _ _ h
      · have h := h.2 c4
        refine gd_iconst (v := 1) X dX6_isClear_31 (by decide) ?_
        refine gd_goto (tgt := 36) X dX6_isClear_32 (by decide) ?_
        exact w_X6_isClear_36 X hR hk6 _ _ _ _ _ _ h
def P_X6_isClear_6 (post : Int32 → Prop) (g : SG) (n : Nat) : Int32 → Int32 → Int32 → Int32 → Int32 → Prop := Nat.rec (motive := fun _ => Int32 → Int32 → Int32 → Int32 → Int32 → Prop) (fun _ _ _ _ _ => False) (fun _ kk x1 x2 x3 x4 x5 => B_X6_isClear_6 post kk x1 x2 x3 x4 x5 g) n
set_option maxRecDepth 100000 in
theorem wL_X6_isClear_6 {b : BX} {D : va_G} {A : Nat → Prop} {cy : Nat → ClassId} {ad : Nat → Nat} {g : SG} {post : Int32 → Prop} (X : Cx (kM b D A cy ad) cX6_isClear RX6 6 1 21) (hR : Rx (kM b D A cy ad) (some .boolean) (oR g post)) : ∀ (n : Nat) (x1 x2 x3 x4 x5 : Int32), P_X6_isClear_6 post g n x1 x2 x3 x4 x5 → Gd (kM b D A cy ad) 6 6 [(0, .ref (ad 0)), (1, .int x1), (2, .int x2), (3, .int x3), (4, .int x4), (5, .int x5)] [] g := by
  intro n
  induction n with
  | zero => intro x1 x2 x3 x4 x5 h; exact h.elim
  | succ n ih => intro x1 x2 x3 x4 x5 h; exact w_X6_isClear_6 X hR ih x1 x2 x3 x4 x5 h
def B_X6_isClear_0 (post : Int32 → Prop) (x1 x2 x3 : Int32) (g : SG) : Prop :=
  ∃ n : Nat, P_X6_isClear_6 post g n x1 x2 x3 1 x2
set_option maxRecDepth 100000 in
theorem w_X6_isClear_0 {b : BX} {D : va_G} {A : Nat → Prop} {cy : Nat → ClassId} {ad : Nat → Nat} {g : SG} {post : Int32 → Prop} (X : Cx (kM b D A cy ad) cX6_isClear RX6 6 1 21) (hR : Rx (kM b D A cy ad) (some .boolean) (oR g post)) (x1 x2 x3 : Int32) (h : B_X6_isClear_0 post x1 x2 x3 g) : Gd (kM b D A cy ad) 6 0 [(0, .ref (ad 0)), (1, .int x1), (2, .int x2), (3, .int x3)] [] g := by
  unfold B_X6_isClear_0 at h
  refine gd_iconst (v := 1) X dX6_isClear_0 (by decide) ?_
  refine gd_istore (lv' := [(4, .int 1), (0, .ref (ad 0)), (1, .int x1), (2, .int x2), (3, .int x3)]) X dX6_isClear_1 (by decide) rfl ?_
  refine gd_iload_n X dX6_isClear_3 3 rfl ?_
  refine gd_istore (lv' := [(5, .int x2), (4, .int 1), (0, .ref (ad 0)), (1, .int x1), (2, .int x2), (3, .int x3)]) X dX6_isClear_4 (by decide) rfl ?_
  refine gd_sub [2, 3, 4, 5, 1, 0] rfl ?_
  obtain ⟨n, h⟩ := h
  exact wL_X6_isClear_6 X hR n _ _ _ _ _ h
set_option maxRecDepth 100000 in
theorem c_X6_isClear (l : Launch) (D : va_G) (A : Nat → Prop) (cy : Nat → ClassId) (ad : Nat → Nat) (post : Int32 → Prop) (x1 x2 x3 : Int32) (g : SG) (hB : B_X6_isClear_0 post x1 x2 x3 g) : Mt l (eM D A cy ad) yX6_isClear cX6_isClear 6 (some .boolean) 1 21 [.ref (ad 0), .int x1, .int x2, .int x3] g (oR g post) := mt_of (plainFor_of_name (by decide)) (Nat.le_of_ble_eq_true rfl) (fun b X hR => w_X6_isClear_0 X hR x1 x2 x3 hB)
def B_X6_valueOf_0 (post : Int32 → Prop) (x1 x2 x3 : Int32) (g : SG) : Prop :=
  vp_in x1 6 ∧ (post ((jshr (g 6 x1.toNatClampNeg) x2) &&& ((jshl 1 x3) - 1)))
set_option maxRecDepth 100000 in
theorem w_X6_valueOf_0 {b : BX} {D : va_G} {A : Nat → Prop} {cy : Nat → ClassId} {ad : Nat → Nat} {g : SG} {post : Int32 → Prop} (X : Cx (kM b D A cy ad) cX6_valueOf RX6 4 0 0) (hR : Rx (kM b D A cy ad) (some .int) (oR g post)) (x1 x2 x3 : Int32) (h : B_X6_valueOf_0 post x1 x2 x3 g) : Gd (kM b D A cy ad) 4 0 [(0, .ref (ad 0)), (1, .int x1), (2, .int x2), (3, .int x3)] [] g := by
  unfold B_X6_valueOf_0 at h
  refine gd_aload_n X dX6_valueOf_0 0 rfl ?_
  refine gX6_26 X dX6_valueOf_1 ?_
  refine gd_iload_n X dX6_valueOf_4 1 rfl ?_
  refine al_M6 X h.1 _ rfl dX6_valueOf_5 ?_
  have h := h.2
  refine gd_iload_n X dX6_valueOf_6 2 rfl ?_
  refine gd_jshr X dX6_valueOf_7 ?_
  refine gd_iconst (v := 1) X dX6_valueOf_8 (by decide) ?_
  refine gd_iload_n X dX6_valueOf_9 3 rfl ?_
  refine gd_jshl X dX6_valueOf_10 ?_
  refine gd_iconst (v := 1) X dX6_valueOf_11 (by decide) ?_
  refine gd_isub X dX6_valueOf_12 ?_
  refine gd_iand X dX6_valueOf_13 ?_
  exact gd_iret X hR dX6_valueOf_14 ⟨_, rfl, rfl, h⟩
set_option maxRecDepth 100000 in
theorem c_X6_valueOf (l : Launch) (D : va_G) (A : Nat → Prop) (cy : Nat → ClassId) (ad : Nat → Nat) (post : Int32 → Prop) (x1 x2 x3 : Int32) (g : SG) (hB : B_X6_valueOf_0 post x1 x2 x3 g) : Mt l (eM D A cy ad) yX6_valueOf cX6_valueOf 4 (some .int) 0 0 [.ref (ad 0), .int x1, .int x2, .int x3] g (oR g post) := mt_of (plainFor_of_name (by decide)) (Nat.le_of_ble_eq_true rfl) (fun b X hR => w_X6_valueOf_0 X hR x1 x2 x3 hB)
def B_X6_parity_32 (post : Int32 → Prop) (x1 x2 x3 y0 : Int32) (g : SG) : Prop :=
  post y0
set_option maxRecDepth 100000 in
theorem w_X6_parity_32 {b : BX} {D : va_G} {A : Nat → Prop} {cy : Nat → ClassId} {ad : Nat → Nat} {g : SG} {post : Int32 → Prop} (X : Cx (kM b D A cy ad) cX6_parity RX6 4 2 46) (hR : Rx (kM b D A cy ad) (some .int) (oR g post)) (x1 x2 x3 y0 : Int32) (h : B_X6_parity_32 post x1 x2 x3 y0 g) : Gd (kM b D A cy ad) 4 32 [(0, .ref (ad 0)), (1, .int x1), (2, .int x2), (3, .int x3)] [.int y0] g := by
  unfold B_X6_parity_32 at h
  exact gd_iret X hR dX6_parity_32 ⟨_, rfl, rfl, h⟩
def B_X6_parity_0 (post : Int32 → Prop) (x1 x2 x3 : Int32) (g : SG) : Prop :=
  B_X6_isClear_0 (fun r1 => ((r1 = 0) → B_X6_parity_32 post x1 x2 x3 2 g) ∧ ((¬ r1 = 0) → B_X6_valueOf_0 (fun r3 => B_X6_many_0 (fun r4 => B_X6_parity_32 post x1 x2 x3 ((1 - (jrem r4 2))) g) r3) x1 x2 ((x3 - x2) + 1) g)) x1 x2 x3 g
set_option maxRecDepth 100000 in
theorem w_X6_parity_0 {b : BX} {D : va_G} {A : Nat → Prop} {cy : Nat → ClassId} {ad : Nat → Nat} {g : SG} {post : Int32 → Prop} (X : Cx (kM b D A cy ad) cX6_parity RX6 4 2 46) (hR : Rx (kM b D A cy ad) (some .int) (oR g post)) (x1 x2 x3 : Int32) (h : B_X6_parity_0 post x1 x2 x3 g) : Gd (kM b D A cy ad) 4 0 [(0, .ref (ad 0)), (1, .int x1), (2, .int x2), (3, .int x3)] [] g := by
  unfold B_X6_parity_0 at h
  refine gd_aload_n X dX6_parity_0 0 rfl ?_
  refine gd_iload_n X dX6_parity_1 1 rfl ?_
  refine gd_iload_n X dX6_parity_2 2 rfl ?_
  refine gd_iload_n X dX6_parity_3 3 rfl ?_
  refine gd_callVr (As := [.int x1, .int x2, .int x3]) (rest := []) X lk_X6_120 (c_X6_isClear _ _ _ _ _ _ _ _ _ _ h) 0 rfl rfl ⟨by decide, by decide⟩ rfl rfl (Nat.le_of_ble_eq_true rfl) dX6_parity_4 (fun r1 h => ?_)
  refine gd_if_eq (tgt := 31) X dX6_parity_7 (by decide) (fun c2 => ?_) (fun c2 => ?_)
  · have h := h.1 c2
    refine gd_iconst (v := 2) X dX6_parity_31 (by decide) ?_
    exact w_X6_parity_32 X hR _ _ _ _ h
  · have h := h.2 c2
    refine gd_iconst (v := 1) X dX6_parity_10 (by decide) ?_
    refine gd_aload_n X dX6_parity_11 0 rfl ?_
    refine gd_iload_n X dX6_parity_12 1 rfl ?_
    refine gd_iload_n X dX6_parity_13 2 rfl ?_
    refine gd_iload_n X dX6_parity_14 3 rfl ?_
    refine gd_iload_n X dX6_parity_15 2 rfl ?_
    refine gd_isub X dX6_parity_16 ?_
    refine gd_iconst (v := 1) X dX6_parity_17 (by decide) ?_
    refine gd_iadd X dX6_parity_18 ?_
    refine gd_callVr (As := [.int x1, .int x2, .int (((x3 - x2) + 1))]) (rest := [.int 1]) X lk_X6_123 (c_X6_valueOf _ _ _ _ _ _ _ _ _ _ h) 0 rfl rfl ⟨by decide, by decide⟩ rfl rfl (Nat.le_of_ble_eq_true rfl) dX6_parity_19 (fun r3 h => ?_)
    refine gd_callSr (As := [.int r3]) (rest := [.int 1]) X lk_X6_40 (c_X6_many _ _ _ _ _ h) ⟨by decide, by decide⟩ rfl rfl (Nat.le_of_ble_eq_true rfl) dX6_parity_22 (fun r4 h => ?_)
    refine gd_iconst (v := 2) X dX6_parity_25 (by decide) ?_
    refine gd_jrem X dX6_parity_26 (by decide) ?_
    refine gd_isub X dX6_parity_27 ?_
    refine gd_goto (tgt := 32) X dX6_parity_28 (by decide) ?_
    exact w_X6_parity_32 X hR _ _ _ _ h
set_option maxRecDepth 100000 in
theorem c_X6_parity (l : Launch) (D : va_G) (A : Nat → Prop) (cy : Nat → ClassId) (ad : Nat → Nat) (post : Int32 → Prop) (x1 x2 x3 : Int32) (g : SG) (hB : B_X6_parity_0 post x1 x2 x3 g) : Mt l (eM D A cy ad) yX6_parity cX6_parity 4 (some .int) 2 46 [.ref (ad 0), .int x1, .int x2, .int x3] g (oR g post) := mt_of (plainFor_of_name (by decide)) (Nat.le_of_ble_eq_true rfl) (fun b X hR => w_X6_parity_0 X hR x1 x2 x3 hB)
def B_X6_twoFigures_61 (post : Int32 → Prop) (x1 x2 x3 x4 x5 x6 y0 : Int32) (g : SG) : Prop :=
  post y0
set_option maxRecDepth 100000 in
theorem w_X6_twoFigures_61 {b : BX} {D : va_G} {A : Nat → Prop} {cy : Nat → ClassId} {ad : Nat → Nat} {g : SG} {post : Int32 → Prop} (X : Cx (kM b D A cy ad) cX6_twoFigures RX6 7 2 46) (hR : Rx (kM b D A cy ad) (some .int) (oR g post)) (x1 x2 x3 x4 x5 x6 y0 : Int32) (h : B_X6_twoFigures_61 post x1 x2 x3 x4 x5 x6 y0 g) : Gd (kM b D A cy ad) 7 61 [(0, .ref (ad 0)), (1, .int x1), (2, .int x2), (3, .int x3), (4, .int x4), (5, .int x5), (6, .int x6)] [.int y0] g := by
  unfold B_X6_twoFigures_61 at h
  exact gd_iret X hR dX6_twoFigures_61 ⟨_, rfl, rfl, h⟩
def B_X6_twoFigures_59 (post : Int32 → Prop) (x1 x2 x3 x4 x5 x6 : Int32) (g : SG) : Prop :=
  B_X6_twoFigures_61 post x1 x2 x3 x4 x5 x6 (-9) g
set_option maxRecDepth 100000 in
theorem w_X6_twoFigures_59 {b : BX} {D : va_G} {A : Nat → Prop} {cy : Nat → ClassId} {ad : Nat → Nat} {g : SG} {post : Int32 → Prop} (X : Cx (kM b D A cy ad) cX6_twoFigures RX6 7 2 46) (hR : Rx (kM b D A cy ad) (some .int) (oR g post)) (x1 x2 x3 x4 x5 x6 : Int32) (h : B_X6_twoFigures_59 post x1 x2 x3 x4 x5 x6 g) : Gd (kM b D A cy ad) 7 59 [(0, .ref (ad 0)), (1, .int x1), (2, .int x2), (3, .int x3), (4, .int x4), (5, .int x5), (6, .int x6)] [] g := by
  unfold B_X6_twoFigures_59 at h
  refine gd_bipush (v := (-9)) X dX6_twoFigures_59 (by decide) ?_
  exact w_X6_twoFigures_61 X hR _ _ _ _ _ _ _ h
def B_X6_twoFigures_0 (post : Int32 → Prop) (x1 x2 x3 x4 : Int32) (g : SG) : Prop :=
  B_X6_valueOf_0 (fun r1 => B_X6_valueOf_0 (fun r2 => ∀ z3 : Int32, z3 = ((10 * r2) + r1) → B_X6_isClear_0 (fun r4 => ((r4 = 0) → B_X6_twoFigures_59 post x1 x2 x3 x4 r1 z3 g) ∧ ((¬ r4 = 0) → ((10 ≤ r1) → B_X6_twoFigures_59 post x1 x2 x3 x4 r1 z3 g) ∧ ((¬ 10 ≤ r1) → ((x4 < z3) → B_X6_twoFigures_59 post x1 x2 x3 x4 r1 z3 g) ∧ ((¬ x4 < z3) → B_X6_twoFigures_61 post x1 x2 x3 x4 r1 z3 z3 g)))) x1 x2 x3 g) x1 (x2 + 4) ((x3 - x2) - 3) g) x1 x2 4 g
set_option maxRecDepth 100000 in
theorem w_X6_twoFigures_0 {b : BX} {D : va_G} {A : Nat → Prop} {cy : Nat → ClassId} {ad : Nat → Nat} {g : SG} {post : Int32 → Prop} (X : Cx (kM b D A cy ad) cX6_twoFigures RX6 7 2 46) (hR : Rx (kM b D A cy ad) (some .int) (oR g post)) (x1 x2 x3 x4 : Int32) (h : B_X6_twoFigures_0 post x1 x2 x3 x4 g) : Gd (kM b D A cy ad) 7 0 [(0, .ref (ad 0)), (1, .int x1), (2, .int x2), (3, .int x3), (4, .int x4)] [] g := by
  unfold B_X6_twoFigures_0 at h
  refine gd_aload_n X dX6_twoFigures_0 0 rfl ?_
  refine gd_iload_n X dX6_twoFigures_1 1 rfl ?_
  refine gd_iload_n X dX6_twoFigures_2 2 rfl ?_
  refine gd_iconst (v := 4) X dX6_twoFigures_3 (by decide) ?_
  refine gd_callVr (As := [.int x1, .int x2, .int 4]) (rest := []) X lk_X6_123 (c_X6_valueOf _ _ _ _ _ _ _ _ _ _ h) 0 rfl rfl ⟨by decide, by decide⟩ rfl rfl (Nat.le_of_ble_eq_true rfl) dX6_twoFigures_4 (fun r1 h => ?_)
  refine gd_istore (lv' := [(5, .int r1), (0, .ref (ad 0)), (1, .int x1), (2, .int x2), (3, .int x3), (4, .int x4)]) X dX6_twoFigures_7 (by decide) rfl ?_
  refine gd_bipush (v := 10) X dX6_twoFigures_9 (by decide) ?_
  refine gd_aload_n X dX6_twoFigures_11 1 rfl ?_
  refine gd_iload_n X dX6_twoFigures_12 2 rfl ?_
  refine gd_iload_n X dX6_twoFigures_13 3 rfl ?_
  refine gd_iconst (v := 4) X dX6_twoFigures_14 (by decide) ?_
  refine gd_iadd X dX6_twoFigures_15 ?_
  refine gd_iload_n X dX6_twoFigures_16 4 rfl ?_
  refine gd_iload_n X dX6_twoFigures_17 3 rfl ?_
  refine gd_isub X dX6_twoFigures_18 ?_
  refine gd_iconst (v := 3) X dX6_twoFigures_19 (by decide) ?_
  refine gd_isub X dX6_twoFigures_20 ?_
  refine gd_callVr (As := [.int x1, .int ((x2 + 4)), .int (((x3 - x2) - 3))]) (rest := [.int 10]) X lk_X6_123 (c_X6_valueOf _ _ _ _ _ _ _ _ _ _ h) 0 rfl rfl ⟨by decide, by decide⟩ rfl rfl (Nat.le_of_ble_eq_true rfl) dX6_twoFigures_21 (fun r2 h => ?_)
  refine gd_imul X dX6_twoFigures_24 ?_
  refine gd_iload X dX6_twoFigures_25 0 rfl ?_
  refine gd_iadd X dX6_twoFigures_27 ?_
  refine gd_topi (fun z3 ez3 => ?_)
  have h := h z3 ez3
  refine gd_istore (lv' := [(6, .int z3), (5, .int r1), (0, .ref (ad 0)), (1, .int x1), (2, .int x2), (3, .int x3), (4, .int x4)]) X dX6_twoFigures_28 (by decide) rfl ?_
  refine gd_aload_n X dX6_twoFigures_30 2 rfl ?_
  refine gd_iload_n X dX6_twoFigures_31 3 rfl ?_
  refine gd_iload_n X dX6_twoFigures_32 4 rfl ?_
  refine gd_iload_n X dX6_twoFigures_33 5 rfl ?_
  refine gd_callVr (As := [.int x1, .int x2, .int x3]) (rest := []) X lk_X6_120 (c_X6_isClear _ _ _ _ _ _ _ _ _ _ h) 0 rfl rfl ⟨by decide, by decide⟩ rfl rfl (Nat.le_of_ble_eq_true rfl) dX6_twoFigures_34 (fun r4 h => ?_)
  refine gd_if_eq (tgt := 59) X dX6_twoFigures_37 (by decide) (fun c5 => ?_) (fun c5 => ?_)
  · have h := h.1 c5
    refine gd_sub [2, 3, 4, 5, 6, 1, 0] rfl ?_
    exact w_X6_twoFigures_59 X hR _ _ _ _ _ _ h
  · have h := h.2 c5
    refine gd_iload X dX6_twoFigures_40 1 rfl ?_
    refine gd_bipush (v := 10) X dX6_twoFigures_42 (by decide) ?_
    refine gd_icmp_ge (tgt := 59) X dX6_twoFigures_44 (by decide) (fun c6 => ?_) (fun c6 => ?_)
    · have h := h.1 c6
      refine gd_sub [2, 3, 4, 5, 6, 1, 0] rfl ?_
      exact w_X6_twoFigures_59 X hR _ _ _ _ _ _ h
    · have h := h.2 c6
      refine gd_iload X dX6_twoFigures_47 0 rfl ?_
      refine gd_iload X dX6_twoFigures_49 6 rfl ?_
      refine gd_icmp_gt (tgt := 59) X dX6_twoFigures_51 (by decide) (fun c7 => ?_) (fun c7 => ?_)
      · have h := h.1 c7
        refine gd_sub [2, 3, 4, 5, 6, 1, 0] rfl ?_
        exact w_X6_twoFigures_59 X hR _ _ _ _ _ _ h
      · have h := h.2 c7
        refine gd_iload X dX6_twoFigures_54 0 rfl ?_
        refine gd_goto (tgt := 61) X dX6_twoFigures_56 (by decide) ?_
        refine gd_sub [2, 3, 4, 5, 6, 1, 0] rfl ?_
        exact w_X6_twoFigures_61 X hR _ _ _ _ _ _ _ h
set_option maxRecDepth 100000 in
theorem c_X6_twoFigures (l : Launch) (D : va_G) (A : Nat → Prop) (cy : Nat → ClassId) (ad : Nat → Nat) (post : Int32 → Prop) (x1 x2 x3 x4 : Int32) (g : SG) (hB : B_X6_twoFigures_0 post x1 x2 x3 x4 g) : Mt l (eM D A cy ad) yX6_twoFigures cX6_twoFigures 7 (some .int) 2 46 [.ref (ad 0), .int x1, .int x2, .int x3, .int x4] g (oR g post) := mt_of (plainFor_of_name (by decide)) (Nat.le_of_ble_eq_true rfl) (fun b X hR => w_X6_twoFigures_0 X hR x1 x2 x3 x4 hB)
def B_X6_bits_26 (post : Int32 → Prop) (x1 x2 x3 x4 y0 : Int32) (g : SG) : Prop :=
  post y0
set_option maxRecDepth 100000 in
theorem w_X6_bits_26 {b : BX} {D : va_G} {A : Nat → Prop} {cy : Nat → ClassId} {ad : Nat → Nat} {g : SG} {post : Int32 → Prop} (X : Cx (kM b D A cy ad) cX6_bits RX6 5 2 46) (hR : Rx (kM b D A cy ad) (some .int) (oR g post)) (x1 x2 x3 x4 y0 : Int32) (h : B_X6_bits_26 post x1 x2 x3 x4 y0 g) : Gd (kM b D A cy ad) 5 26 [(0, .ref (ad 0)), (1, .int x1), (2, .int x2), (3, .int x3), (4, .int x4)] [.int y0] g := by
  unfold B_X6_bits_26 at h
  exact gd_iret X hR dX6_bits_26 ⟨_, rfl, rfl, h⟩
def B_X6_bits_0 (post : Int32 → Prop) (x1 x2 x3 x4 : Int32) (g : SG) : Prop :=
  B_X6_isTime_0 (fun r1 => ((r1 = 0) → B_X6_bits_26 post x1 x2 x3 x4 (-1) g) ∧ ((¬ r1 = 0) → B_X6_codeOf_0 (fun r3 => B_X6_bitsOf_0 (fun r4 => B_X6_bits_26 post x1 x2 x3 x4 r4 g) r3) x1 x2 x3 x4)) x1 x2 x3 x4
set_option maxRecDepth 100000 in
theorem w_X6_bits_0 {b : BX} {D : va_G} {A : Nat → Prop} {cy : Nat → ClassId} {ad : Nat → Nat} {g : SG} {post : Int32 → Prop} (X : Cx (kM b D A cy ad) cX6_bits RX6 5 2 46) (hR : Rx (kM b D A cy ad) (some .int) (oR g post)) (x1 x2 x3 x4 : Int32) (h : B_X6_bits_0 post x1 x2 x3 x4 g) : Gd (kM b D A cy ad) 5 0 [(0, .ref (ad 0)), (1, .int x1), (2, .int x2), (3, .int x3), (4, .int x4)] [] g := by
  unfold B_X6_bits_0 at h
  refine gd_iload_n X dX6_bits_0 1 rfl ?_
  refine gd_iload_n X dX6_bits_1 2 rfl ?_
  refine gd_iload_n X dX6_bits_2 3 rfl ?_
  refine gd_iload X dX6_bits_3 4 rfl ?_
  refine gd_callSr (As := [.int x1, .int x2, .int x3, .int x4]) (rest := []) X lk_X6_137 (c_X6_isTime _ _ _ _ _ _ _ _ h) ⟨by decide, by decide⟩ rfl rfl (Nat.le_of_ble_eq_true rfl) dX6_bits_5 (fun r1 h => ?_)
  refine gd_if_eq (tgt := 25) X dX6_bits_8 (by decide) (fun c2 => ?_) (fun c2 => ?_)
  · have h := h.1 c2
    refine gd_iconst (v := (-1)) X dX6_bits_25 (by decide) ?_
    exact w_X6_bits_26 X hR _ _ _ _ _ h
  · have h := h.2 c2
    refine gd_iload_n X dX6_bits_11 1 rfl ?_
    refine gd_iload_n X dX6_bits_12 2 rfl ?_
    refine gd_iload_n X dX6_bits_13 3 rfl ?_
    refine gd_iload X dX6_bits_14 4 rfl ?_
    refine gd_callSr (As := [.int x1, .int x2, .int x3, .int x4]) (rest := []) X lk_X6_141 (c_X6_codeOf _ _ _ _ _ _ _ _ h) ⟨by decide, by decide⟩ rfl rfl (Nat.le_of_ble_eq_true rfl) dX6_bits_16 (fun r3 h => ?_)
    refine gd_callSr (As := [.int r3]) (rest := []) X lk_X6_85 (c_X6_bitsOf _ _ _ _ _ h) ⟨by decide, by decide⟩ rfl rfl (Nat.le_of_ble_eq_true rfl) dX6_bits_19 (fun r4 h => ?_)
    refine gd_goto (tgt := 26) X dX6_bits_22 (by decide) ?_
    exact w_X6_bits_26 X hR _ _ _ _ _ h
set_option maxRecDepth 100000 in
theorem c_X6_bits (l : Launch) (D : va_G) (A : Nat → Prop) (cy : Nat → ClassId) (ad : Nat → Nat) (post : Int32 → Prop) (x1 x2 x3 x4 : Int32) (g : SG) (hB : B_X6_bits_0 post x1 x2 x3 x4 g) : Mt l (eM D A cy ad) yX6_bits cX6_bits 5 (some .int) 2 46 [.ref (ad 0), .int x1, .int x2, .int x3, .int x4] g (oR g post) := mt_of (plainFor_of_name (by decide)) (Nat.le_of_ble_eq_true rfl) (fun b X hR => w_X6_bits_0 X hR x1 x2 x3 x4 hB)
