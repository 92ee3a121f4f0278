def B_X0_findPhase_54 (post : SG → Prop) (k23 : Int32 → SG → Prop) (x2 : Int32) (g : SG) : Prop :=
  ∀ z1 : Int32, z1 = x2 + 1 → k23 z1 g
set_option maxRecDepth 100000 in
theorem w_X0_findPhase_54 {b : BX} {D : va_G} {A : Nat → Prop} {cy : Nat → ClassId} {ad : Nat → Nat} {post : SG → Prop} {k23 : Int32 → SG → Prop} (X : Cx (kC b D A cy ad) cX0_findPhase RX0 3 0 0) (hR : Rx (kC b D A cy ad) none (oV post)) (hk23 : ∀ (x2 : Int32) (g : SG), k23 x2 g → Gd (kC b D A cy ad) 3 23 [(0, .ref (ad 5)), (1, .ref (ad 19)), (2, .int x2)] [] g) (x2 : Int32) (g : SG) (h : B_X0_findPhase_54 post k23 x2 g) : Gd (kC b D A cy ad) 3 54 [(0, .ref (ad 5)), (1, .ref (ad 19)), (2, .int x2)] [] g := by
  unfold B_X0_findPhase_54 at h
  refine gd_incn X 2 1 dX0_findPhase_54 rfl (by decide) (by decide) (fun z1 => [(2, .int z1), (0, .ref (ad 5)), (1, .ref (ad 19))]) (fun _ => rfl) (fun z1 ez1 => ?_)
  have h := h z1 ez1
  refine gd_goto (tgt := 23) X dX0_findPhase_57 (by decide) ?_
  refine gd_sub [1, 2, 0] rfl ?_
  exact hk23 _ _ h
def B_X0_findPhase_96 (post : SG → Prop) (k67 : Int32 → SG → Prop) (x2 : Int32) (g : SG) : Prop :=
  ∀ z1 : Int32, z1 = x2 + 1 → k67 z1 g
set_option maxRecDepth 100000 in
theorem w_X0_findPhase_96 {b : BX} {D : va_G} {A : Nat → Prop} {cy : Nat → ClassId} {ad : Nat → Nat} {post : SG → Prop} {k67 : Int32 → SG → Prop} (X : Cx (kC b D A cy ad) cX0_findPhase RX0 3 0 0) (hR : Rx (kC b D A cy ad) none (oV post)) (hk67 : ∀ (x2 : Int32) (g : SG), k67 x2 g → Gd (kC b D A cy ad) 3 67 [(0, .ref (ad 5)), (1, .ref (ad 19)), (2, .int x2)] [] g) (x2 : Int32) (g : SG) (h : B_X0_findPhase_96 post k67 x2 g) : Gd (kC b D A cy ad) 3 96 [(0, .ref (ad 5)), (1, .ref (ad 19)), (2, .int x2)] [] g := by
  unfold B_X0_findPhase_96 at h
  refine gd_incn X 2 1 dX0_findPhase_96 rfl (by decide) (by decide) (fun z1 => [(2, .int z1), (0, .ref (ad 5)), (1, .ref (ad 19))]) (fun _ => rfl) (fun z1 ez1 => ?_)
  have h := h z1 ez1
  refine gd_goto (tgt := 67) X dX0_findPhase_99 (by decide) ?_
  refine gd_sub [1, 2, 0] rfl ?_
  exact hk67 _ _ h
def B_X0_findPhase_67 (post : SG → Prop) (k67 : Int32 → SG → Prop) (x2 : Int32) (g : SG) : Prop :=
  ((20 ≤ x2) → post g) ∧ ((¬ 20 ≤ x2) → vp_in x2 20 ∧ (vp_in (g 0 4) 20 ∧ ((((g 2 x2.toNatClampNeg) ≤ (g 2 (g 0 4).toNatClampNeg)) → B_X0_findPhase_96 post k67 x2 g) ∧ ((¬ (g 2 x2.toNatClampNeg) ≤ (g 2 (g 0 4).toNatClampNeg)) → ∀ g3 : SG, g3 = sput g 0 4 x2 → B_X0_findPhase_96 post k67 x2 g3))))
set_option maxRecDepth 100000 in
theorem w_X0_findPhase_67 {b : BX} {D : va_G} {A : Nat → Prop} {cy : Nat → ClassId} {ad : Nat → Nat} {post : SG → Prop} {k67 : Int32 → SG → Prop} (X : Cx (kC b D A cy ad) cX0_findPhase RX0 3 0 0) (hR : Rx (kC b D A cy ad) none (oV post)) (hk67 : ∀ (x2 : Int32) (g : SG), k67 x2 g → Gd (kC b D A cy ad) 3 67 [(0, .ref (ad 5)), (1, .ref (ad 19)), (2, .int x2)] [] g) (x2 : Int32) (g : SG) (h : B_X0_findPhase_67 post k67 x2 g) : Gd (kC b D A cy ad) 3 67 [(0, .ref (ad 5)), (1, .ref (ad 19)), (2, .int x2)] [] g := by
  unfold B_X0_findPhase_67 at h
  refine gd_iload_n X dX0_findPhase_67 2 rfl ?_
  refine gd_bipush (v := 20) X dX0_findPhase_68 (by decide) ?_
  refine gd_icmp_ge (tgt := 102) X dX0_findPhase_70 (by decide) (fun c1 => ?_) (fun c1 => ?_)
  · have h := h.1 c1
    exact gd_vret X hR dX0_findPhase_102 ⟨rfl, h⟩
  · have h := h.2 c1
    refine gd_aload_n X dX0_findPhase_73 0 rfl ?_
    refine gX0_9 X dX0_findPhase_74 ?_
    refine gd_iload_n X dX0_findPhase_77 2 rfl ?_
    refine al_C6 X h.1 _ rfl dX0_findPhase_78 ?_
    have h := h.2
    refine gd_aload_n X dX0_findPhase_79 0 rfl ?_
    refine gX0_9 X dX0_findPhase_80 ?_
    refine gd_aload_n X dX0_findPhase_83 0 rfl ?_
    refine gX0_46 X dX0_findPhase_84 ?_
    refine al_C6 X h.1 _ rfl dX0_findPhase_87 ?_
    have h := h.2
    refine gd_icmp_le (tgt := 96) X dX0_findPhase_88 (by decide) (fun c2 => ?_) (fun c2 => ?_)
    · have h := h.1 c2
      exact w_X0_findPhase_96 X hR hk67 _ _ h
    · have h := h.2 c2
      refine gd_aload_n X dX0_findPhase_91 0 rfl ?_
      refine gd_iload_n X dX0_findPhase_92 2 rfl ?_
      refine pX0_46 X dX0_findPhase_93 (fun g3 eg3 => ?_)
      have h := h g3 eg3
      exact w_X0_findPhase_96 X hR hk67 _ _ h
def P_X0_findPhase_67 (post : SG → Prop) (n : Nat) : Int32 → SG → Prop := Nat.rec (motive := fun _ => Int32 → SG → Prop) (fun _ _ => False) (fun _ kk x2 g => B_X0_findPhase_67 post kk x2 g) n
set_option maxRecDepth 100000 in
theorem wL_X0_findPhase_67 {b : BX} {D : va_G} {A : Nat → Prop} {cy : Nat → ClassId} {ad : Nat → Nat} {post : SG → Prop} (X : Cx (kC b D A cy ad) cX0_findPhase RX0 3 0 0) (hR : Rx (kC b D A cy ad) none (oV post)) : ∀ (n : Nat) (x2 : Int32) (g : SG), P_X0_findPhase_67 post n x2 g → Gd (kC b D A cy ad) 3 67 [(0, .ref (ad 5)), (1, .ref (ad 19)), (2, .int x2)] [] g := by
  intro n
  induction n with
  | zero => intro x2 g h; exact h.elim
  | succ n ih => intro x2 g h; exact w_X0_findPhase_67 X hR ih x2 g h
def B_X0_findPhase_23 (post : SG → Prop) (k23 : Int32 → SG → Prop) (x2 : Int32) (g : SG) : Prop :=
  (((g 20 0) ≤ x2) → ∀ g2 : SG, g2 = sput g 0 4 0 → ∃ n : Nat, P_X0_findPhase_67 post n 1 g2) ∧ ((¬ (g 20 0) ≤ x2) → vp_in x2 120 ∧ (((¬ (g 40 x2.toNatClampNeg) = 3) → B_X0_findPhase_54 post k23 x2 g) ∧ (((g 40 x2.toNatClampNeg) = 3) → vp_in (jrem x2 20) 20 ∧ (vp_in (jrem x2 20) 20 ∧ (∀ g4 : SG, g4 = sput g 2 (jrem x2 20).toNatClampNeg ((g 2 (jrem x2 20).toNatClampNeg) + 1) → B_X0_findPhase_54 post k23 x2 g4)))))
set_option maxRecDepth 100000 in
theorem w_X0_findPhase_23 {b : BX} {D : va_G} {A : Nat → Prop} {cy : Nat → ClassId} {ad : Nat → Nat} {post : SG → Prop} {k23 : Int32 → SG → Prop} (X : Cx (kC b D A cy ad) cX0_findPhase RX0 3 0 0) (hR : Rx (kC b D A cy ad) none (oV post)) (hk23 : ∀ (x2 : Int32) (g : SG), k23 x2 g → Gd (kC b D A cy ad) 3 23 [(0, .ref (ad 5)), (1, .ref (ad 19)), (2, .int x2)] [] g) (x2 : Int32) (g : SG) (h : B_X0_findPhase_23 post k23 x2 g) : Gd (kC b D A cy ad) 3 23 [(0, .ref (ad 5)), (1, .ref (ad 19)), (2, .int x2)] [] g := by
  unfold B_X0_findPhase_23 at h
  refine gd_iload_n X dX0_findPhase_23 2 rfl ?_
  refine gd_aload_n X dX0_findPhase_24 1 rfl ?_
  refine gX0_33 0 (by decide) X dX0_findPhase_25 ?_
  refine gd_icmp_ge (tgt := 60) X dX0_findPhase_28 (by decide) (fun c1 => ?_) (fun c1 => ?_)
  · have h := h.1 c1
    refine gd_aload_n X dX0_findPhase_60 0 rfl ?_
    refine gd_iconst (v := 0) X dX0_findPhase_61 (by decide) ?_
    refine pX0_46 X dX0_findPhase_62 (fun g2 eg2 => ?_)
    have h := h g2 eg2
    refine gd_iconst (v := 1) X dX0_findPhase_65 (by decide) ?_
    refine gd_istore_n (lv' := [(2, .int 1), (0, .ref (ad 5)), (1, .ref (ad 19))]) X dX0_findPhase_66 (by decide) rfl ?_
    refine gd_sub [1, 2, 0] rfl ?_
    obtain ⟨n, h⟩ := h
    exact wL_X0_findPhase_67 X hR n _ _ h
  · have h := h.2 c1
    refine gd_aload_n X dX0_findPhase_31 1 rfl ?_
    refine gX0_42 0 (by decide) X dX0_findPhase_32 ?_
    refine gd_iload_n X dX0_findPhase_35 2 rfl ?_
    refine al_held 0 (by decide) X h.1 dX0_findPhase_36 ?_
    have h := h.2
    refine gd_iconst (v := 3) X dX0_findPhase_37 (by decide) ?_
    refine gd_icmp_ne (tgt := 54) X dX0_findPhase_38 (by decide) (fun c3 => ?_) (fun c3 => ?_)
    · have h := h.1 c3
      exact w_X0_findPhase_54 X hR hk23 _ _ h
    · have h := h.2 c3
      refine gd_aload_n X dX0_findPhase_41 0 rfl ?_
      refine gX0_9 X dX0_findPhase_42 ?_
      refine gd_iload_n X dX0_findPhase_45 2 rfl ?_
      refine gd_bipush (v := 20) X dX0_findPhase_46 (by decide) ?_
      refine gd_jrem X dX0_findPhase_48 (by decide) ?_
      refine gd_dup2 X dX0_findPhase_49 rfl rfl ?_
      refine al_C6 X h.1 _ rfl dX0_findPhase_50 ?_
      have h := h.2
      refine gd_iconst (v := 1) X dX0_findPhase_51 (by decide) ?_
      refine gd_iadd X dX0_findPhase_52 ?_
      refine as_C6 X h.1 _ rfl dX0_findPhase_53 (fun g4 eg4 => ?_)
      have h := h.2 g4 eg4
      exact w_X0_findPhase_54 X hR hk23 _ _ h
def P_X0_findPhase_23 (post : SG → Prop) (n : Nat) : Int32 → SG → Prop := Nat.rec (motive := fun _ => Int32 → SG → Prop) (fun _ _ => False) (fun _ kk x2 g => B_X0_findPhase_23 post kk x2 g) n
set_option maxRecDepth 100000 in
theorem wL_X0_findPhase_23 {b : BX} {D : va_G} {A : Nat → Prop} {cy : Nat → ClassId} {ad : Nat → Nat} {post : SG → Prop} (X : Cx (kC b D A cy ad) cX0_findPhase RX0 3 0 0) (hR : Rx (kC b D A cy ad) none (oV post)) : ∀ (n : Nat) (x2 : Int32) (g : SG), P_X0_findPhase_23 post n x2 g → Gd (kC b D A cy ad) 3 23 [(0, .ref (ad 5)), (1, .ref (ad 19)), (2, .int x2)] [] g := by
  intro n
  induction n with
  | zero => intro x2 g h; exact h.elim
  | succ n ih => intro x2 g h; exact w_X0_findPhase_23 X hR ih x2 g h
def B_X0_findPhase_2 (post : SG → Prop) (k2 : Int32 → SG → Prop) (x2 : Int32) (g : SG) : Prop :=
  ((20 ≤ x2) → ∃ n : Nat, P_X0_findPhase_23 post n 0 g) ∧ ((¬ 20 ≤ x2) → vp_in x2 20 ∧ (∀ g2 : SG, g2 = sput g 2 x2.toNatClampNeg 0 → ∀ z3 : Int32, z3 = x2 + 1 → k2 z3 g2))
set_option maxRecDepth 100000 in
theorem w_X0_findPhase_2 {b : BX} {D : va_G} {A : Nat → Prop} {cy : Nat → ClassId} {ad : Nat → Nat} {post : SG → Prop} {k2 : Int32 → SG → Prop} (X : Cx (kC b D A cy ad) cX0_findPhase RX0 3 0 0) (hR : Rx (kC b D A cy ad) none (oV post)) (hk2 : ∀ (x2 : Int32) (g : SG), k2 x2 g → Gd (kC b D A cy ad) 3 2 [(0, .ref (ad 5)), (1, .ref (ad 19)), (2, .int x2)] [] g) (x2 : Int32) (g : SG) (h : B_X0_findPhase_2 post k2 x2 g) : Gd (kC b D A cy ad) 3 2 [(0, .ref (ad 5)), (1, .ref (ad 19)), (2, .int x2)] [] g := by
  unfold B_X0_findPhase_2 at h
  refine gd_iload_n X dX0_findPhase_2 2 rfl ?_
  refine gd_bipush (v := 20) X dX0_findPhase_3 (by decide) ?_
  refine gd_icmp_ge (tgt := 21) X dX0_findPhase_5 (by decide) (fun c1 => ?_) (fun c1 => ?_)
  · have h := h.1 c1
    refine gd_iconst (v := 0) X dX0_findPhase_21 (by decide) ?_
    refine gd_istore_n (lv' := [(2, .int 0), (0, .ref (ad 5)), (1, .ref (ad 19))]) X dX0_findPhase_22 (by decide) rfl ?_
    refine gd_sub [1, 2, 0] rfl ?_
    obtain ⟨n, h⟩ := h
    exact wL_X0_findPhase_23 X hR n _ _ h
  · have h := h.2 c1
    refine gd_aload_n X dX0_findPhase_8 0 rfl ?_
    refine gX0_9 X dX0_findPhase_9 ?_
    refine gd_iload_n X dX0_findPhase_12 2 rfl ?_
    refine gd_iconst (v := 0) X dX0_findPhase_13 (by decide) ?_
    refine as_C6 X h.1 _ rfl dX0_findPhase_14 (fun g2 eg2 => ?_)
    have h := h.2 g2 eg2
    refine gd_incn X 2 1 dX0_findPhase_15 rfl (by decide) (by decide) (fun z3 => [(2, .int z3), (0, .ref (ad 5)), (1, .ref (ad 19))]) (fun _ => rfl) (fun z3 ez3 => ?_)
    have h := h z3 ez3
    refine gd_goto (tgt := 2) X dX0_findPhase_18 (by decide) ?_
    refine gd_sub [1, 2, 0] rfl ?_
    exact hk2 _ _ h
def P_X0_findPhase_2 (post : SG → Prop) (n : Nat) : Int32 → SG → Prop := Nat.rec (motive := fun _ => Int32 → SG → Prop) (fun _ _ => False) (fun _ kk x2 g => B_X0_findPhase_2 post kk x2 g) n
set_option maxRecDepth 100000 in
theorem wL_X0_findPhase_2 {b : BX} {D : va_G} {A : Nat → Prop} {cy : Nat → ClassId} {ad : Nat → Nat} {post : SG → Prop} (X : Cx (kC b D A cy ad) cX0_findPhase RX0 3 0 0) (hR : Rx (kC b D A cy ad) none (oV post)) : ∀ (n : Nat) (x2 : Int32) (g : SG), P_X0_findPhase_2 post n x2 g → Gd (kC b D A cy ad) 3 2 [(0, .ref (ad 5)), (1, .ref (ad 19)), (2, .int x2)] [] g := by
  intro n
  induction n with
  | zero => intro x2 g h; exact h.elim
  | succ n ih => intro x2 g h; exact w_X0_findPhase_2 X hR ih x2 g h
def B_X0_findPhase_0 (post : SG → Prop) (g : SG) : Prop :=
  ∃ n : Nat, P_X0_findPhase_2 post n 0 g
set_option maxRecDepth 100000 in
theorem w_X0_findPhase_0 {b : BX} {D : va_G} {A : Nat → Prop} {cy : Nat → ClassId} {ad : Nat → Nat} {post : SG → Prop} (X : Cx (kC b D A cy ad) cX0_findPhase RX0 3 0 0) (hR : Rx (kC b D A cy ad) none (oV post)) (g : SG) (h : B_X0_findPhase_0 post g) : Gd (kC b D A cy ad) 3 0 [(0, .ref (ad 5)), (1, .ref (ad 19))] [] g := by
  unfold B_X0_findPhase_0 at h
  refine gd_iconst (v := 0) X dX0_findPhase_0 (by decide) ?_
  refine gd_istore_n (lv' := [(2, .int 0), (0, .ref (ad 5)), (1, .ref (ad 19))]) X dX0_findPhase_1 (by decide) rfl ?_
  refine gd_sub [1, 2, 0] rfl ?_
  obtain ⟨n, h⟩ := h
  exact wL_X0_findPhase_2 X hR n _ _ h
set_option maxRecDepth 100000 in
theorem c_X0_findPhase (l : Launch) (D : va_G) (A : Nat → Prop) (cy : Nat → ClassId) (ad : Nat → Nat) (post : SG → Prop) (g : SG) (hB : B_X0_findPhase_0 post g) : Mt l (eC D A cy ad) yX0_findPhase cX0_findPhase 3 none 0 0 [.ref (ad 5), .ref (ad 19)] g (oV post) := mt_of (plainFor_of_name (by decide)) (Nat.le_of_ble_eq_true rfl) (fun b X hR => w_X0_findPhase_0 X hR g hB)
def B_X0_firstOf_0 (post : Int32 → Prop) (x1 : Int32) (g : SG) : Prop :=
  post ((jrem ((g 0 4) + 1) 20) + (20 * x1))
set_option maxRecDepth 100000 in
theorem w_X0_firstOf_0 {b : BX} {D : va_G} {A : Nat → Prop} {cy : Nat → ClassId} {ad : Nat → Nat} {g : SG} {post : Int32 → Prop} (X : Cx (kC b D A cy ad) cX0_firstOf RX0 2 0 0) (hR : Rx (kC b D A cy ad) (some .int) (oR g post)) (x1 : Int32) (h : B_X0_firstOf_0 post x1 g) : Gd (kC b D A cy ad) 2 0 [(0, .ref (ad 5)), (1, .int x1)] [] g := by
  unfold B_X0_firstOf_0 at h
  refine gd_aload_n X dX0_firstOf_0 0 rfl ?_
  refine gX0_46 X dX0_firstOf_1 ?_
  refine gd_iconst (v := 1) X dX0_firstOf_4 (by decide) ?_
  refine gd_iadd X dX0_firstOf_5 ?_
  refine gd_bipush (v := 20) X dX0_firstOf_6 (by decide) ?_
  refine gd_jrem X dX0_firstOf_8 (by decide) ?_
  refine gd_bipush (v := 20) X dX0_firstOf_9 (by decide) ?_
  refine gd_iload_n X dX0_firstOf_11 1 rfl ?_
  refine gd_imul X dX0_firstOf_12 ?_
  refine gd_iadd X dX0_firstOf_13 ?_
  exact gd_iret X hR dX0_firstOf_14 ⟨_, rfl, rfl, h⟩
set_option maxRecDepth 100000 in
theorem c_X0_firstOf (l : Launch) (D : va_G) (A : Nat → Prop) (cy : Nat → ClassId) (ad : Nat → Nat) (post : Int32 → Prop) (x1 : Int32) (g : SG) (hB : B_X0_firstOf_0 post x1 g) : Mt l (eC D A cy ad) yX0_firstOf cX0_firstOf 2 (some .int) 0 0 [.ref (ad 5), .int x1] g (oR g post) := mt_of (plainFor_of_name (by decide)) (Nat.le_of_ble_eq_true rfl) (fun b X hR => w_X0_firstOf_0 X hR x1 hB)
def B_X0_takeFrame_59 (post : SG → Prop) (k8 : Int32 → Int32 → Int32 → Int32 → SG → Prop) (x2 x3 x4 x5 x6 : Int32) (g : SG) : Prop :=
  ∀ z1 : Int32, z1 = x5 + 1 → k8 x2 x3 x4 z1 g
set_option maxRecDepth 100000 in
theorem w_X0_takeFrame_59 {b : BX} {D : va_G} {A : Nat → Prop} {cy : Nat → ClassId} {ad : Nat → Nat} {post : SG → Prop} {k8 : Int32 → Int32 → Int32 → Int32 → SG → Prop} (X : Cx (kC b D A cy ad) cX0_takeFrame RX0 7 0 0) (hR : Rx (kC b D A cy ad) none (oV post)) (hk8 : ∀ (x2 x3 x4 x5 : Int32) (g : SG), k8 x2 x3 x4 x5 g → Gd (kC b D A cy ad) 7 8 [(0, .ref (ad 5)), (1, .ref (ad 19)), (2, .int x2), (3, .int x3), (4, .int x4), (5, .int x5)] [] g) (x2 x3 x4 x5 x6 : Int32) (g : SG) (h : B_X0_takeFrame_59 post k8 x2 x3 x4 x5 x6 g) : Gd (kC b D A cy ad) 7 59 [(0, .ref (ad 5)), (1, .ref (ad 19)), (2, .int x2), (3, .int x3), (4, .int x4), (5, .int x5), (6, .int x6)] [] g := by
  unfold B_X0_takeFrame_59 at h
  refine gd_incn X 5 1 dX0_takeFrame_59 rfl (by decide) (by decide) (fun z1 => [(5, .int z1), (0, .ref (ad 5)), (1, .ref (ad 19)), (2, .int x2), (3, .int x3), (4, .int x4), (6, .int x6)]) (fun _ => rfl) (fun z1 ez1 => ?_)
  have h := h z1 ez1
  refine gd_goto (tgt := 8) X dX0_takeFrame_62 (by decide) ?_
  refine gd_sub [1, 2, 3, 4, 5, 0] rfl ?_
  exact hk8 _ _ _ _ _ h
def B_X0_takeFrame_50 (post : SG → Prop) (k8 : Int32 → Int32 → Int32 → Int32 → SG → Prop) (x2 x3 x4 x5 x6 : Int32) (g : SG) : Prop :=
  ∀ z1 : Int32, z1 = (x4 ||| (jshl 1 x5)) → B_X0_takeFrame_59 post k8 x2 x3 z1 x5 x6 g
set_option maxRecDepth 100000 in
theorem w_X0_takeFrame_50 {b : BX} {D : va_G} {A : Nat → Prop} {cy : Nat → ClassId} {ad : Nat → Nat} {post : SG → Prop} {k8 : Int32 → Int32 → Int32 → Int32 → SG → Prop} (X : Cx (kC b D A cy ad) cX0_takeFrame RX0 7 0 0) (hR : Rx (kC b D A cy ad) none (oV post)) (hk8 : ∀ (x2 x3 x4 x5 : Int32) (g : SG), k8 x2 x3 x4 x5 g → Gd (kC b D A cy ad) 7 8 [(0, .ref (ad 5)), (1, .ref (ad 19)), (2, .int x2), (3, .int x3), (4, .int x4), (5, .int x5)] [] g) (x2 x3 x4 x5 x6 : Int32) (g : SG) (h : B_X0_takeFrame_50 post k8 x2 x3 x4 x5 x6 g) : Gd (kC b D A cy ad) 7 50 [(0, .ref (ad 5)), (1, .ref (ad 19)), (2, .int x2), (3, .int x3), (4, .int x4), (5, .int x5), (6, .int x6)] [] g := by
  unfold B_X0_takeFrame_50 at h
  refine gd_iload X dX0_takeFrame_50 4 rfl ?_
  refine gd_iconst (v := 1) X dX0_takeFrame_52 (by decide) ?_
  refine gd_iload X dX0_takeFrame_53 5 rfl ?_
  refine gd_jshl X dX0_takeFrame_55 ?_
  refine gd_ior X dX0_takeFrame_56 ?_
  refine gd_topi (fun z1 ez1 => ?_)
  have h := h z1 ez1
  refine gd_istore (lv' := [(4, .int z1), (0, .ref (ad 5)), (1, .ref (ad 19)), (2, .int x2), (3, .int x3), (5, .int x5), (6, .int x6)]) X dX0_takeFrame_57 (by decide) rfl ?_
  refine gd_sub [1, 2, 3, 4, 0, 5, 6] rfl ?_
  exact w_X0_takeFrame_59 X hR hk8 _ _ _ _ _ _ h
def B_X0_takeFrame_39 (post : SG → Prop) (k8 : Int32 → Int32 → Int32 → Int32 → SG → Prop) (x2 x3 x4 x5 x6 : Int32) (g : SG) : Prop :=
  ((x6 = 1) → B_X0_takeFrame_50 post k8 x2 x3 x4 x5 x6 g) ∧ ((¬ x6 = 1) → ((¬ x6 = 0) → B_X0_takeFrame_59 post k8 x2 x3 x4 x5 x6 g) ∧ ((x6 = 0) → B_X0_takeFrame_50 post k8 x2 x3 x4 x5 x6 g))
set_option maxRecDepth 100000 in
theorem w_X0_takeFrame_39 {b : BX} {D : va_G} {A : Nat → Prop} {cy : Nat → ClassId} {ad : Nat → Nat} {post : SG → Prop} {k8 : Int32 → Int32 → Int32 → Int32 → SG → Prop} (X : Cx (kC b D A cy ad) cX0_takeFrame RX0 7 0 0) (hR : Rx (kC b D A cy ad) none (oV post)) (hk8 : ∀ (x2 x3 x4 x5 : Int32) (g : SG), k8 x2 x3 x4 x5 g → Gd (kC b D A cy ad) 7 8 [(0, .ref (ad 5)), (1, .ref (ad 19)), (2, .int x2), (3, .int x3), (4, .int x4), (5, .int x5)] [] g) (x2 x3 x4 x5 x6 : Int32) (g : SG) (h : B_X0_takeFrame_39 post k8 x2 x3 x4 x5 x6 g) : Gd (kC b D A cy ad) 7 39 [(0, .ref (ad 5)), (1, .ref (ad 19)), (2, .int x2), (3, .int x3), (4, .int x4), (5, .int x5), (6, .int x6)] [] g := by
  unfold B_X0_takeFrame_39 at h
  refine gd_iload X dX0_takeFrame_39 6 rfl ?_
  refine gd_iconst (v := 1) X dX0_takeFrame_41 (by decide) ?_
  refine gd_icmp_eq (tgt := 50) X dX0_takeFrame_42 (by decide) (fun c1 => ?_) (fun c1 => ?_)
  · have h := h.1 c1
    exact w_X0_takeFrame_50 X hR hk8 _ _ _ _ _ _ h
  · have h := h.2 c1
    refine gd_iload X dX0_takeFrame_45 6 rfl ?_
    refine gd_if_ne (tgt := 59) X dX0_takeFrame_47 (by decide) (fun c2 => ?_) (fun c2 => ?_)
    · have h := h.1 c2
      exact w_X0_takeFrame_59 X hR hk8 _ _ _ _ _ _ h
    · have h := h.2 c2
      exact w_X0_takeFrame_50 X hR hk8 _ _ _ _ _ _ h
def B_X0_takeFrame_8 (post : SG → Prop) (k8 : Int32 → Int32 → Int32 → Int32 → SG → Prop) (x2 x3 x4 x5 : Int32) (g : SG) : Prop :=
  ((19 ≤ x5) → vp_in (g 0 5) 6 ∧ (∀ g2 : SG, g2 = sput g 3 (g 0 5).toNatClampNeg x3 → vp_in (g2 0 5) 6 ∧ (∀ g3 : SG, g3 = sput g2 4 (g2 0 5).toNatClampNeg x4 → post g3))) ∧ ((¬ 19 ≤ x5) → vp_in (x2 + x5) 120 ∧ (∀ z4 : Int32, z4 = (g 40 (x2 + x5).toNatClampNeg) → ((¬ z4 = 1) → B_X0_takeFrame_39 post k8 x2 x3 x4 x5 z4 g) ∧ ((z4 = 1) → ∀ z6 : Int32, z6 = (x3 ||| (jshl 1 x5)) → B_X0_takeFrame_39 post k8 x2 z6 x4 x5 z4 g)))
set_option maxRecDepth 100000 in
theorem w_X0_takeFrame_8 {b : BX} {D : va_G} {A : Nat → Prop} {cy : Nat → ClassId} {ad : Nat → Nat} {post : SG → Prop} {k8 : Int32 → Int32 → Int32 → Int32 → SG → Prop} (X : Cx (kC b D A cy ad) cX0_takeFrame RX0 7 0 0) (hR : Rx (kC b D A cy ad) none (oV post)) (hk8 : ∀ (x2 x3 x4 x5 : Int32) (g : SG), k8 x2 x3 x4 x5 g → Gd (kC b D A cy ad) 7 8 [(0, .ref (ad 5)), (1, .ref (ad 19)), (2, .int x2), (3, .int x3), (4, .int x4), (5, .int x5)] [] g) (x2 x3 x4 x5 : Int32) (g : SG) (h : B_X0_takeFrame_8 post k8 x2 x3 x4 x5 g) : Gd (kC b D A cy ad) 7 8 [(0, .ref (ad 5)), (1, .ref (ad 19)), (2, .int x2), (3, .int x3), (4, .int x4), (5, .int x5)] [] g := by
  unfold B_X0_takeFrame_8 at h
  refine gd_iload X dX0_takeFrame_8 5 rfl ?_
  refine gd_bipush (v := 19) X dX0_takeFrame_10 (by decide) ?_
  refine gd_icmp_ge (tgt := 65) X dX0_takeFrame_12 (by decide) (fun c1 => ?_) (fun c1 => ?_)
  · have h := h.1 c1
    refine gd_aload_n X dX0_takeFrame_65 0 rfl ?_
    refine gX0_15 X dX0_takeFrame_66 ?_
    refine gd_aload_n X dX0_takeFrame_69 0 rfl ?_
    refine gX0_29 X dX0_takeFrame_70 ?_
    refine gd_iload_n X dX0_takeFrame_73 3 rfl ?_
    refine as_C7 X h.1 _ rfl dX0_takeFrame_74 (fun g2 eg2 => ?_)
    have h := h.2 g2 eg2
    refine gd_aload_n X dX0_takeFrame_75 0 rfl ?_
    refine gX0_18 X dX0_takeFrame_76 ?_
    refine gd_aload_n X dX0_takeFrame_79 0 rfl ?_
    refine gX0_29 X dX0_takeFrame_80 ?_
    refine gd_iload X dX0_takeFrame_83 4 rfl ?_
    refine as_C8 X h.1 _ rfl dX0_takeFrame_85 (fun g3 eg3 => ?_)
    have h := h.2 g3 eg3
    exact gd_vret X hR dX0_takeFrame_86 ⟨rfl, h⟩
  · have h := h.2 c1
    refine gd_aload_n X dX0_takeFrame_15 1 rfl ?_
    refine gX0_42 0 (by decide) X dX0_takeFrame_16 ?_
    refine gd_iload_n X dX0_takeFrame_19 2 rfl ?_
    refine gd_iload X dX0_takeFrame_20 5 rfl ?_
    refine gd_iadd X dX0_takeFrame_22 ?_
    refine al_held 0 (by decide) X h.1 dX0_takeFrame_23 ?_
    have h := h.2
    refine gd_topi (fun z4 ez4 => ?_)
    have h := h z4 ez4
    refine gd_istore (lv' := [(6, .int z4), (0, .ref (ad 5)), (1, .ref (ad 19)), (2, .int x2), (3, .int x3), (4, .int x4), (5, .int x5)]) X dX0_takeFrame_24 (by decide) rfl ?_
    refine gd_iload X dX0_takeFrame_26 0 rfl ?_
    refine gd_iconst (v := 1) X dX0_takeFrame_28 (by decide) ?_
    refine gd_icmp_ne (tgt := 39) X dX0_takeFrame_29 (by decide) (fun c5 => ?_) (fun c5 => ?_)
    · have h := h.1 c5
      refine gd_sub [1, 2, 3, 4, 5, 6, 0] rfl ?_
      exact w_X0_takeFrame_39 X hR hk8 _ _ _ _ _ _ h
    · have h := h.2 c5
      refine gd_iload_n X dX0_takeFrame_32 4 rfl ?_
      refine gd_iconst (v := 1) X dX0_takeFrame_33 (by decide) ?_
      refine gd_iload X dX0_takeFrame_34 6 rfl ?_
      refine gd_jshl X dX0_takeFrame_36 ?_
      refine gd_ior X dX0_takeFrame_37 ?_
      refine gd_topi (fun z6 ez6 => ?_)
      have h := h z6 ez6
      refine gd_istore_n (lv' := [(3, .int z6), (6, .int z4), (0, .ref (ad 5)), (1, .ref (ad 19)), (2, .int x2), (4, .int x4), (5, .int x5)]) X dX0_takeFrame_38 (by decide) rfl ?_
      refine gd_sub [2, 3, 4, 0, 5, 6, 1] rfl ?_
      exact w_X0_takeFrame_39 X hR hk8 _ _ _ _ _ _ h
def P_X0_takeFrame_8 (post : SG → Prop) (n : Nat) : Int32 → Int32 → Int32 → Int32 → SG → Prop := Nat.rec (motive := fun _ => Int32 → Int32 → Int32 → Int32 → SG → Prop) (fun _ _ _ _ _ => False) (fun _ kk x2 x3 x4 x5 g => B_X0_takeFrame_8 post kk x2 x3 x4 x5 g) n
set_option maxRecDepth 100000 in
theorem wL_X0_takeFrame_8 {b : BX} {D : va_G} {A : Nat → Prop} {cy : Nat → ClassId} {ad : Nat → Nat} {post : SG → Prop} (X : Cx (kC b D A cy ad) cX0_takeFrame RX0 7 0 0) (hR : Rx (kC b D A cy ad) none (oV post)) : ∀ (n : Nat) (x2 x3 x4 x5 : Int32) (g : SG), P_X0_takeFrame_8 post n x2 x3 x4 x5 g → Gd (kC b D A cy ad) 7 8 [(0, .ref (ad 5)), (1, .ref (ad 19)), (2, .int x2), (3, .int x3), (4, .int x4), (5, .int x5)] [] g := by
  intro n
  induction n with
  | zero => intro x2 x3 x4 x5 g h; exact h.elim
  | succ n ih => intro x2 x3 x4 x5 g h; exact w_X0_takeFrame_8 X hR ih x2 x3 x4 x5 g h
def B_X0_takeFrame_0 (post : SG → Prop) (x2 : Int32) (g : SG) : Prop :=
  ∃ n : Nat, P_X0_takeFrame_8 post n x2 0 0 0 g
set_option maxRecDepth 100000 in
theorem w_X0_takeFrame_0 {b : BX} {D : va_G} {A : Nat → Prop} {cy : Nat → ClassId} {ad : Nat → Nat} {post : SG → Prop} (X : Cx (kC b D A cy ad) cX0_takeFrame RX0 7 0 0) (hR : Rx (kC b D A cy ad) none (oV post)) (x2 : Int32) (g : SG) (h : B_X0_takeFrame_0 post x2 g) : Gd (kC b D A cy ad) 7 0 [(0, .ref (ad 5)), (1, .ref (ad 19)), (2, .int x2)] [] g := by
  unfold B_X0_takeFrame_0 at h
  refine gd_iconst (v := 0) X dX0_takeFrame_0 (by decide) ?_
  refine gd_istore_n (lv' := [(3, .int 0), (0, .ref (ad 5)), (1, .ref (ad 19)), (2, .int x2)]) X dX0_takeFrame_1 (by decide) rfl ?_
  refine gd_iconst (v := 0) X dX0_takeFrame_2 (by decide) ?_
  refine gd_istore (lv' := [(4, .int 0), (3, .int 0), (0, .ref (ad 5)), (1, .ref (ad 19)), (2, .int x2)]) X dX0_takeFrame_3 (by decide) rfl ?_
  refine gd_iconst (v := 0) X dX0_takeFrame_5 (by decide) ?_
  refine gd_istore (lv' := [(5, .int 0), (4, .int 0), (3, .int 0), (0, .ref (ad 5)), (1, .ref (ad 19)), (2, .int x2)]) X dX0_takeFrame_6 (by decide) rfl ?_
  refine gd_sub [3, 4, 5, 2, 1, 0] rfl ?_
  obtain ⟨n, h⟩ := h
  exact wL_X0_takeFrame_8 X hR n _ _ _ _ _ h
set_option maxRecDepth 100000 in
theorem c_X0_takeFrame (l : Launch) (D : va_G) (A : Nat → Prop) (cy : Nat → ClassId) (ad : Nat → Nat) (post : SG → Prop) (x2 : Int32) (g : SG) (hB : B_X0_takeFrame_0 post x2 g) : Mt l (eC D A cy ad) yX0_takeFrame cX0_takeFrame 7 none 0 0 [.ref (ad 5), .ref (ad 19), .int x2] g (oV post) := mt_of (plainFor_of_name (by decide)) (Nat.le_of_ble_eq_true rfl) (fun b X hR => w_X0_takeFrame_0 X hR x2 g hB)
def B_X0_cut_58 (post : SG → Prop) (x2 : Int32) (g : SG) : Prop :=
  post g
set_option maxRecDepth 100000 in
theorem w_X0_cut_58 {b : BX} {D : va_G} {A : Nat → Prop} {cy : Nat → ClassId} {ad : Nat → Nat} {post : SG → Prop} (X : Cx (kC b D A cy ad) cX0_cut RX0 3 1 26) (hR : Rx (kC b D A cy ad) none (oV post)) (x2 : Int32) (g : SG) (h : B_X0_cut_58 post x2 g) : Gd (kC b D A cy ad) 3 58 [(0, .ref (ad 5)), (1, .ref (ad 19)), (2, .int x2)] [] g := by
  unfold B_X0_cut_58 at h
  exact gd_vret X hR dX0_cut_58 ⟨rfl, h⟩
def B_X0_cut_16 (post : SG → Prop) (k16 : Int32 → SG → Prop) (x2 : Int32) (g : SG) : Prop :=
  ((6 ≤ (g 0 5)) → B_X0_cut_58 post x2 g) ∧ ((¬ 6 ≤ (g 0 5)) → (((g 20 0) < (x2 + 19)) → B_X0_cut_58 post x2 g) ∧ ((¬ (g 20 0) < (x2 + 19)) → B_X0_takeFrame_0 (fun g3 => ∀ g4 : SG, g4 = sput g3 0 5 ((g3 0 5) + 1) → ∀ z5 : Int32, z5 = x2 + 20 → k16 z5 g4) x2 g))
set_option maxRecDepth 100000 in
theorem w_X0_cut_16 {b : BX} {D : va_G} {A : Nat → Prop} {cy : Nat → ClassId} {ad : Nat → Nat} {post : SG → Prop} {k16 : Int32 → SG → Prop} (X : Cx (kC b D A cy ad) cX0_cut RX0 3 1 26) (hR : Rx (kC b D A cy ad) none (oV post)) (hk16 : ∀ (x2 : Int32) (g : SG), k16 x2 g → Gd (kC b D A cy ad) 3 16 [(0, .ref (ad 5)), (1, .ref (ad 19)), (2, .int x2)] [] g) (x2 : Int32) (g : SG) (h : B_X0_cut_16 post k16 x2 g) : Gd (kC b D A cy ad) 3 16 [(0, .ref (ad 5)), (1, .ref (ad 19)), (2, .int x2)] [] g := by
  unfold B_X0_cut_16 at h
  refine gd_aload_n X dX0_cut_16 0 rfl ?_
  refine gX0_29 X dX0_cut_17 ?_
  refine gd_bipush (v := 6) X dX0_cut_20 (by decide) ?_
  refine gd_icmp_ge (tgt := 58) X dX0_cut_22 (by decide) (fun c1 => ?_) (fun c1 => ?_)
  · have h := h.1 c1
    exact w_X0_cut_58 X hR _ _ h
  · have h := h.2 c1
    refine gd_iload_n X dX0_cut_25 2 rfl ?_
    refine gd_bipush (v := 19) X dX0_cut_26 (by decide) ?_
    refine gd_iadd X dX0_cut_28 ?_
    refine gd_aload_n X dX0_cut_29 1 rfl ?_
    refine gX0_33 0 (by decide) X dX0_cut_30 ?_
    refine gd_icmp_gt (tgt := 58) X dX0_cut_33 (by decide) (fun c2 => ?_) (fun c2 => ?_)
    · have h := h.1 c2
      exact w_X0_cut_58 X hR _ _ h
    · have h := h.2 c2
      refine gd_aload_n X dX0_cut_36 0 rfl ?_
      refine gd_aload_n X dX0_cut_37 1 rfl ?_
      refine gd_iload_n X dX0_cut_38 2 rfl ?_
      refine gd_callVv (As := [.ref (ad 19), .int x2]) (rest := []) X lk_X0_38 (c_X0_takeFrame _ _ _ _ _ _ _ _ h) 5 rfl rfl ⟨by decide, by decide⟩ rfl rfl (Nat.le_of_ble_eq_true rfl) dX0_cut_39 (fun g3 h => ?_)
      refine gd_aload_n X dX0_cut_42 0 rfl ?_
      refine gd_dup X dX0_cut_43 rfl ?_
      refine gX0_29 X dX0_cut_44 ?_
      refine gd_iconst (v := 1) X dX0_cut_47 (by decide) ?_
      refine gd_iadd X dX0_cut_48 ?_
      refine pX0_29 X dX0_cut_49 (fun g4 eg4 => ?_)
      have h := h g4 eg4
      refine gd_incn X 2 20 dX0_cut_52 rfl (by decide) (by decide) (fun z5 => [(2, .int z5), (0, .ref (ad 5)), (1, .ref (ad 19))]) (fun _ => rfl) (fun z5 ez5 => ?_)
      have h := h z5 ez5
      refine gd_goto (tgt := 16) X dX0_cut_55 (by decide) ?_
      refine gd_sub [1, 2, 0] rfl ?_
      exact hk16 _ _ h
def P_X0_cut_16 (post : SG → Prop) (n : Nat) : Int32 → SG → Prop := Nat.rec (motive := fun _ => Int32 → SG → Prop) (fun _ _ => False) (fun _ kk x2 g => B_X0_cut_16 post kk x2 g) n
set_option maxRecDepth 100000 in
theorem wL_X0_cut_16 {b : BX} {D : va_G} {A : Nat → Prop} {cy : Nat → ClassId} {ad : Nat → Nat} {post : SG → Prop} (X : Cx (kC b D A cy ad) cX0_cut RX0 3 1 26) (hR : Rx (kC b D A cy ad) none (oV post)) : ∀ (n : Nat) (x2 : Int32) (g : SG), P_X0_cut_16 post n x2 g → Gd (kC b D A cy ad) 3 16 [(0, .ref (ad 5)), (1, .ref (ad 19)), (2, .int x2)] [] g := by
  intro n
  induction n with
  | zero => intro x2 g h; exact h.elim
  | succ n ih => intro x2 g h; exact w_X0_cut_16 X hR ih x2 g h
def B_X0_cut_0 (post : SG → Prop) (g : SG) : Prop :=
  B_X0_findPhase_0 (fun g1 => B_X0_firstOf_0 (fun r2 => ∀ g3 : SG, g3 = sput g1 0 5 0 → ∃ n : Nat, P_X0_cut_16 post n r2 g3) 0 g1) g
set_option maxRecDepth 100000 in
theorem w_X0_cut_0 {b : BX} {D : va_G} {A : Nat → Prop} {cy : Nat → ClassId} {ad : Nat → Nat} {post : SG → Prop} (X : Cx (kC b D A cy ad) cX0_cut RX0 3 1 26) (hR : Rx (kC b D A cy ad) none (oV post)) (g : SG) (h : B_X0_cut_0 post g) : Gd (kC b D A cy ad) 3 0 [(0, .ref (ad 5)), (1, .ref (ad 19))] [] g := by
  unfold B_X0_cut_0 at h
  refine gd_aload_n X dX0_cut_0 0 rfl ?_
  refine gd_aload_n X dX0_cut_1 1 rfl ?_
  refine gd_callVv (As := [.ref (ad 19)]) (rest := []) X lk_X0_21 (c_X0_findPhase _ _ _ _ _ _ _ h) 5 rfl rfl ⟨by decide, by decide⟩ rfl rfl (Nat.le_of_ble_eq_true rfl) dX0_cut_2 (fun g1 h => ?_)
  refine gd_aload_n X dX0_cut_5 0 rfl ?_
  refine gd_iconst (v := 0) X dX0_cut_6 (by decide) ?_
  refine gd_callVr (As := [.int 0]) (rest := []) X lk_X0_25 (c_X0_firstOf _ _ _ _ _ _ _ _ h) 5 rfl rfl ⟨by decide, by decide⟩ rfl rfl (Nat.le_of_ble_eq_true rfl) dX0_cut_7 (fun r2 h => ?_)
  refine gd_istore_n (lv' := [(2, .int r2), (0, .ref (ad 5)), (1, .ref (ad 19))]) X dX0_cut_10 (by decide) rfl ?_
  refine gd_aload_n X dX0_cut_11 1 rfl ?_
  refine gd_iconst (v := 0) X dX0_cut_12 (by decide) ?_
  refine pX0_29 X dX0_cut_13 (fun g3 eg3 => ?_)
  have h := h g3 eg3
  refine gd_sub [1, 2, 0] rfl ?_
  obtain ⟨n, h⟩ := h
  exact wL_X0_cut_16 X hR n _ _ h
set_option maxRecDepth 100000 in
theorem c_X0_cut (l : Launch) (D : va_G) (A : Nat → Prop) (cy : Nat → ClassId) (ad : Nat → Nat) (post : SG → Prop) (g : SG) (hB : B_X0_cut_0 post g) : Mt l (eC D A cy ad) yX0_cut cX0_cut 3 none 1 26 [.ref (ad 5), .ref (ad 19)] g (oV post) := mt_of (plainFor_of_name (by decide)) (Nat.le_of_ble_eq_true rfl) (fun b X hR => w_X0_cut_0 X hR g hB)
def B_X0_allClear_17 (post : Int32 → Prop) (x1 x2 y0 : Int32) (g : SG) : Prop :=
  (narrow .boolean (.int y0) = .int y0 ∧ post y0)
set_option maxRecDepth 100000 in
theorem w_X0_allClear_17 {b : BX} {D : va_G} {A : Nat → Prop} {cy : Nat → ClassId} {ad : Nat → Nat} {g : SG} {post : Int32 → Prop} (X : Cx (kC b D A cy ad) cX0_allClear RX0 3 0 0) (hR : Rx (kC b D A cy ad) (some .boolean) (oR g post)) (x1 x2 y0 : Int32) (h : B_X0_allClear_17 post x1 x2 y0 g) : Gd (kC b D A cy ad) 3 17 [(0, .ref (ad 5)), (1, .int x1), (2, .int x2)] [.int y0] g := by
  unfold B_X0_allClear_17 at h
  exact gd_zret X hR dX0_allClear_17 h.1 ⟨_, rfl, rfl, h.2⟩
def B_X0_allClear_0 (post : Int32 → Prop) (x1 x2 : Int32) (g : SG) : Prop :=
  vp_in x1 6 ∧ (((¬ ((g 4 x1.toNatClampNeg) &&& x2) = x2) → B_X0_allClear_17 post x1 x2 0 g) ∧ ((((g 4 x1.toNatClampNeg) &&& x2) = x2) → B_X0_allClear_17 post x1 x2 1 g))
set_option maxRecDepth 100000 in
theorem w_X0_allClear_0 {b : BX} {D : va_G} {A : Nat → Prop} {cy : Nat → ClassId} {ad : Nat → Nat} {g : SG} {post : Int32 → Prop} (X : Cx (kC b D A cy ad) cX0_allClear RX0 3 0 0) (hR : Rx (kC b D A cy ad) (some .boolean) (oR g post)) (x1 x2 : Int32) (h : B_X0_allClear_0 post x1 x2 g) : Gd (kC b D A cy ad) 3 0 [(0, .ref (ad 5)), (1, .int x1), (2, .int x2)] [] g := by
  unfold B_X0_allClear_0 at h
  refine gd_aload_n X dX0_allClear_0 0 rfl ?_
  refine gX0_18 X dX0_allClear_1 ?_
  refine gd_iload_n X dX0_allClear_4 1 rfl ?_
  refine al_C8 X h.1 _ rfl dX0_allClear_5 ?_
  have h := h.2
  refine gd_iload_n X dX0_allClear_6 2 rfl ?_
  refine gd_iand X dX0_allClear_7 ?_
  refine gd_iload_n X dX0_allClear_8 2 rfl ?_
  refine gd_icmp_ne (tgt := 16) X dX0_allClear_9 (by decide) (fun c1 => ?_) (fun c1 => ?_)
  · have h := h.1 c1
    refine gd_iconst (v := 0) X dX0_allClear_16 (by decide) ?_
    exact w_X0_allClear_17 X hR _ _ _ h
  · have h := h.2 c1
    refine gd_iconst (v := 1) X dX0_allClear_12 (by decide) ?_
    refine gd_goto (tgt := 17) X dX0_allClear_13 (by decide) ?_
    exact w_X0_allClear_17 X hR _ _ _ h
set_option maxRecDepth 100000 in
theorem c_X0_allClear (l : Launch) (D : va_G) (A : Nat → Prop) (cy : Nat → ClassId) (ad : Nat → Nat) (post : Int32 → Prop) (x1 x2 : Int32) (g : SG) (hB : B_X0_allClear_0 post x1 x2 g) : Mt l (eC D A cy ad) yX0_allClear cX0_allClear 3 (some .boolean) 0 0 [.ref (ad 5), .int x1, .int x2] g (oR g post) := mt_of (plainFor_of_name (by decide)) (Nat.le_of_ble_eq_true rfl) (fun b X hR => w_X0_allClear_0 X hR x1 x2 hB)
def B_X0_parity_32 (post : Int32 → Prop) (x1 x2 y0 : Int32) (g : SG) : Prop :=
  post y0
set_option maxRecDepth 100000 in
theorem w_X0_parity_32 {b : BX} {D : va_G} {A : Nat → Prop} {cy : Nat → ClassId} {ad : Nat → Nat} {g : SG} {post : Int32 → Prop} (X : Cx (kC b D A cy ad) cX0_parity RX0 3 1 22) (hR : Rx (kC b D A cy ad) (some .int) (oR g post)) (x1 x2 y0 : Int32) (h : B_X0_parity_32 post x1 x2 y0 g) : Gd (kC b D A cy ad) 3 32 [(0, .ref (ad 5)), (1, .int x1), (2, .int x2)] [.int y0] g := by
  unfold B_X0_parity_32 at h
  exact gd_iret X hR dX0_parity_32 ⟨_, rfl, rfl, h⟩
def B_X0_parity_0 (post : Int32 → Prop) (x1 x2 : Int32) (g : SG) : Prop :=
  B_X0_allClear_0 (fun r1 => ((¬ r1 = 0) → vp_in x1 6 ∧ (B_J6_bitCount_0f7a4_0 (fun r3 => ((¬ (jrem r3 2) = 0) → B_X0_parity_32 post x1 x2 0 g) ∧ (((jrem r3 2) = 0) → B_X0_parity_32 post x1 x2 1 g)) ((g 3 x1.toNatClampNeg) &&& x2))) ∧ ((r1 = 0) → post 2)) x1 x2 g
set_option maxRecDepth 100000 in
theorem w_X0_parity_0 {b : BX} {D : va_G} {A : Nat → Prop} {cy : Nat → ClassId} {ad : Nat → Nat} {g : SG} {post : Int32 → Prop} (X : Cx (kC b D A cy ad) cX0_parity RX0 3 1 22) (hR : Rx (kC b D A cy ad) (some .int) (oR g post)) (x1 x2 : Int32) (h : B_X0_parity_0 post x1 x2 g) : Gd (kC b D A cy ad) 3 0 [(0, .ref (ad 5)), (1, .int x1), (2, .int x2)] [] g := by
  unfold B_X0_parity_0 at h
  refine gd_aload_n X dX0_parity_0 0 rfl ?_
  refine gd_iload_n X dX0_parity_1 1 rfl ?_
  refine gd_iload_n X dX0_parity_2 2 rfl ?_
  refine gd_callVr (As := [.int x1, .int x2]) (rest := []) X lk_X0_49 (c_X0_allClear _ _ _ _ _ _ _ _ _ h) 5 rfl rfl ⟨by decide, by decide⟩ rfl rfl (Nat.le_of_ble_eq_true rfl) dX0_parity_3 (fun r1 h => ?_)
  refine gd_if_ne (tgt := 11) X dX0_parity_6 (by decide) (fun c2 => ?_) (fun c2 => ?_)
  · have h := h.1 c2
    refine gd_aload_n X dX0_parity_11 0 rfl ?_
    refine gX0_15 X dX0_parity_12 ?_
    refine gd_iload_n X dX0_parity_15 1 rfl ?_
    refine al_C7 X h.1 _ rfl dX0_parity_16 ?_
    have h := h.2
    refine gd_iload_n X dX0_parity_17 2 rfl ?_
    refine gd_iand X dX0_parity_18 ?_
    refine gd_callSr (As := [.int (((g 3 x1.toNatClampNeg) &&& x2))]) (rest := []) X lk_X0_53 (c_J6_bitCount_0f7a4 _ _ _ _ _ h) ⟨by decide, by decide⟩ rfl rfl (Nat.le_of_ble_eq_true rfl) dX0_parity_19 (fun r3 h => ?_)
    refine gd_iconst (v := 2) X dX0_parity_22 (by decide) ?_
    refine gd_jrem X dX0_parity_23 (by decide) ?_
    refine gd_if_ne (tgt := 31) X dX0_parity_24 (by decide) (fun c4 => ?_) (fun c4 => ?_)
    · have h := h.1 c4
      refine gd_iconst (v := 0) X dX0_parity_31 (by decide) ?_
      exact w_X0_parity_32 X hR _ _ _ h
    · have h := h.2 c4
      refine gd_iconst (v := 1) X dX0_parity_27 (by decide) ?_
      refine gd_goto (tgt := 32) X dX0_parity_28 (by decide) ?_
      exact w_X0_parity_32 X hR _ _ _ h
  · have h := h.2 c2
    refine gd_iconst (v := 2) X dX0_parity_9 (by decide) ?_
    exact gd_iret X hR dX0_parity_10 ⟨_, rfl, rfl, h⟩
set_option maxRecDepth 100000 in
theorem c_X0_parity (l : Launch) (D : va_G) (A : Nat → Prop) (cy : Nat → ClassId) (ad : Nat → Nat) (post : Int32 → Prop) (x1 x2 : Int32) (g : SG) (hB : B_X0_parity_0 post x1 x2 g) : Mt l (eC D A cy ad) yX0_parity cX0_parity 3 (some .int) 1 22 [.ref (ad 5), .int x1, .int x2] g (oR g post) := mt_of (plainFor_of_name (by decide)) (Nat.le_of_ble_eq_true rfl) (fun b X hR => w_X0_parity_0 X hR x1 x2 hB)
def B_X0_minuteOfHour_0 (post : Int32 → Prop) (x1 : Int32) (g : SG) : Prop :=
  B_X0_allClear_0 (fun r1 => ((¬ r1 = 0) → vp_in x1 6 ∧ (vp_in x1 6 ∧ (B_X0_byFigures_0 (fun r3 => post r3) ((jshr (g 3 x1.toNatClampNeg) 8) &&& 7) ((jshr (g 3 x1.toNatClampNeg) 4) &&& 15) 60))) ∧ ((r1 = 0) → post (-9))) x1 2032 g
set_option maxRecDepth 100000 in
theorem w_X0_minuteOfHour_0 {b : BX} {D : va_G} {A : Nat → Prop} {cy : Nat → ClassId} {ad : Nat → Nat} {g : SG} {post : Int32 → Prop} (X : Cx (kC b D A cy ad) cX0_minuteOfHour RX0 2 1 23) (hR : Rx (kC b D A cy ad) (some .int) (oR g post)) (x1 : Int32) (h : B_X0_minuteOfHour_0 post x1 g) : Gd (kC b D A cy ad) 2 0 [(0, .ref (ad 5)), (1, .int x1)] [] g := by
  unfold B_X0_minuteOfHour_0 at h
  refine gd_aload_n X dX0_minuteOfHour_0 0 rfl ?_
  refine gd_iload_n X dX0_minuteOfHour_1 1 rfl ?_
  refine gd_sipush (v := 2032) X dX0_minuteOfHour_2 (by decide) ?_
  refine gd_callVr (As := [.int x1, .int 2032]) (rest := []) X lk_X0_49 (c_X0_allClear _ _ _ _ _ _ _ _ _ h) 5 rfl rfl ⟨by decide, by decide⟩ rfl rfl (Nat.le_of_ble_eq_true rfl) dX0_minuteOfHour_5 (fun r1 h => ?_)
  refine gd_if_ne (tgt := 14) X dX0_minuteOfHour_8 (by decide) (fun c2 => ?_) (fun c2 => ?_)
  · have h := h.1 c2
    refine gd_aload_n X dX0_minuteOfHour_14 0 rfl ?_
    refine gX0_15 X dX0_minuteOfHour_15 ?_
    refine gd_iload_n X dX0_minuteOfHour_18 1 rfl ?_
    refine al_C7 X h.1 _ rfl dX0_minuteOfHour_19 ?_
    have h := h.2
    refine gd_bipush (v := 8) X dX0_minuteOfHour_20 (by decide) ?_
    refine gd_jshr X dX0_minuteOfHour_22 ?_
    refine gd_bipush (v := 7) X dX0_minuteOfHour_23 (by decide) ?_
    refine gd_iand X dX0_minuteOfHour_25 ?_
    refine gd_aload_n X dX0_minuteOfHour_26 0 rfl ?_
    refine gX0_15 X dX0_minuteOfHour_27 ?_
    refine gd_iload_n X dX0_minuteOfHour_30 1 rfl ?_
    refine al_C7 X h.1 _ rfl dX0_minuteOfHour_31 ?_
    have h := h.2
    refine gd_iconst (v := 4) X dX0_minuteOfHour_32 (by decide) ?_
    refine gd_jshr X dX0_minuteOfHour_33 ?_
    refine gd_bipush (v := 15) X dX0_minuteOfHour_34 (by decide) ?_
    refine gd_iand X dX0_minuteOfHour_36 ?_
    refine gd_bipush (v := 60) X dX0_minuteOfHour_37 (by decide) ?_
    refine gd_callSr (As := [.int (((jshr (g 3 x1.toNatClampNeg) 8) &&& 7)), .int (((jshr (g 3 x1.toNatClampNeg) 4) &&& 15)), .int 60]) (rest := []) X lk_X0_58 (c_X0_byFigures _ _ _ _ _ _ _ h) ⟨by decide, by decide⟩ rfl rfl (Nat.le_of_ble_eq_true rfl) dX0_minuteOfHour_39 (fun r3 h => ?_)
    exact gd_iret X hR dX0_minuteOfHour_42 ⟨_, rfl, rfl, h⟩
  · have h := h.2 c2
    refine gd_bipush (v := (-9)) X dX0_minuteOfHour_11 (by decide) ?_
    exact gd_iret X hR dX0_minuteOfHour_13 ⟨_, rfl, rfl, h⟩
set_option maxRecDepth 100000 in
theorem c_X0_minuteOfHour (l : Launch) (D : va_G) (A : Nat → Prop) (cy : Nat → ClassId) (ad : Nat → Nat) (post : Int32 → Prop) (x1 : Int32) (g : SG) (hB : B_X0_minuteOfHour_0 post x1 g) : Mt l (eC D A cy ad) yX0_minuteOfHour cX0_minuteOfHour 2 (some .int) 1 23 [.ref (ad 5), .int x1] g (oR g post) := mt_of (plainFor_of_name (by decide)) (Nat.le_of_ble_eq_true rfl) (fun b X hR => w_X0_minuteOfHour_0 X hR x1 hB)
def B_X0_hour_0 (post : Int32 → Prop) (x1 : Int32) (g : SG) : Prop :=
  B_X0_allClear_0 (fun r1 => ((¬ r1 = 0) → vp_in x1 6 ∧ (vp_in x1 6 ∧ (B_X0_byFigures_0 (fun r3 => post r3) ((jshr (g 3 x1.toNatClampNeg) 16) &&& 3) ((jshr (g 3 x1.toNatClampNeg) 12) &&& 15) 24))) ∧ ((r1 = 0) → post (-9))) x1 258048 g
set_option maxRecDepth 100000 in
theorem w_X0_hour_0 {b : BX} {D : va_G} {A : Nat → Prop} {cy : Nat → ClassId} {ad : Nat → Nat} {g : SG} {post : Int32 → Prop} (X : Cx (kC b D A cy ad) cX0_hour RX0 2 1 23) (hR : Rx (kC b D A cy ad) (some .int) (oR g post)) (x1 : Int32) (h : B_X0_hour_0 post x1 g) : Gd (kC b D A cy ad) 2 0 [(0, .ref (ad 5)), (1, .int x1)] [] g := by
  unfold B_X0_hour_0 at h
  refine gd_aload_n X dX0_hour_0 0 rfl ?_
  refine gd_iload_n X dX0_hour_1 1 rfl ?_
  refine gd_ldc (v := 258048) X q_366 dX0_hour_2 ?_
  refine gd_callVr (As := [.int x1, .int 258048]) (rest := []) X lk_X0_49 (c_X0_allClear _ _ _ _ _ _ _ _ _ h) 5 rfl rfl ⟨by decide, by decide⟩ rfl rfl (Nat.le_of_ble_eq_true rfl) dX0_hour_4 (fun r1 h => ?_)
  refine gd_if_ne (tgt := 13) X dX0_hour_7 (by decide) (fun c2 => ?_) (fun c2 => ?_)
  · have h := h.1 c2
    refine gd_aload_n X dX0_hour_13 0 rfl ?_
    refine gX0_15 X dX0_hour_14 ?_
    refine gd_iload_n X dX0_hour_17 1 rfl ?_
    refine al_C7 X h.1 _ rfl dX0_hour_18 ?_
    have h := h.2
    refine gd_bipush (v := 16) X dX0_hour_19 (by decide) ?_
    refine gd_jshr X dX0_hour_21 ?_
    refine gd_iconst (v := 3) X dX0_hour_22 (by decide) ?_
    refine gd_iand X dX0_hour_23 ?_
    refine gd_aload_n X dX0_hour_24 0 rfl ?_
    refine gX0_15 X dX0_hour_25 ?_
    refine gd_iload_n X dX0_hour_28 1 rfl ?_
    refine al_C7 X h.1 _ rfl dX0_hour_29 ?_
    have h := h.2
    refine gd_bipush (v := 12) X dX0_hour_30 (by decide) ?_
    refine gd_jshr X dX0_hour_32 ?_
    refine gd_bipush (v := 15) X dX0_hour_33 (by decide) ?_
    refine gd_iand X dX0_hour_35 ?_
    refine gd_bipush (v := 24) X dX0_hour_36 (by decide) ?_
    refine gd_callSr (As := [.int (((jshr (g 3 x1.toNatClampNeg) 16) &&& 3)), .int (((jshr (g 3 x1.toNatClampNeg) 12) &&& 15)), .int 24]) (rest := []) X lk_X0_58 (c_X0_byFigures _ _ _ _ _ _ _ h) ⟨by decide, by decide⟩ rfl rfl (Nat.le_of_ble_eq_true rfl) dX0_hour_38 (fun r3 h => ?_)
    exact gd_iret X hR dX0_hour_41 ⟨_, rfl, rfl, h⟩
  · have h := h.2 c2
    refine gd_bipush (v := (-9)) X dX0_hour_10 (by decide) ?_
    exact gd_iret X hR dX0_hour_12 ⟨_, rfl, rfl, h⟩
set_option maxRecDepth 100000 in
theorem c_X0_hour (l : Launch) (D : va_G) (A : Nat → Prop) (cy : Nat → ClassId) (ad : Nat → Nat) (post : Int32 → Prop) (x1 : Int32) (g : SG) (hB : B_X0_hour_0 post x1 g) : Mt l (eC D A cy ad) yX0_hour cX0_hour 2 (some .int) 1 23 [.ref (ad 5), .int x1] g (oR g post) := mt_of (plainFor_of_name (by decide)) (Nat.le_of_ble_eq_true rfl) (fun b X hR => w_X0_hour_0 X hR x1 hB)
def B_X0_wrong_0 (post : Int32 → Prop) (x1 x2 : Int32) (g : SG) : Prop :=
  B_X3_bitsOf_0 (fun r1 => vp_in x1 6 ∧ (vp_in x1 6 ∧ (post ((r1 ^^^ (g 3 x1.toNatClampNeg)) &&& (g 4 x1.toNatClampNeg))))) x2
set_option maxRecDepth 100000 in
theorem w_X0_wrong_0 {b : BX} {D : va_G} {A : Nat → Prop} {cy : Nat → ClassId} {ad : Nat → Nat} {g : SG} {post : Int32 → Prop} (X : Cx (kC b D A cy ad) cX0_wrong RX0 3 2 47) (hR : Rx (kC b D A cy ad) (some .int) (oR g post)) (x1 x2 : Int32) (h : B_X0_wrong_0 post x1 x2 g) : Gd (kC b D A cy ad) 3 0 [(0, .ref (ad 5)), (1, .int x1), (2, .int x2)] [] g := by
  unfold B_X0_wrong_0 at h
  refine gd_iload_n X dX0_wrong_0 2 rfl ?_
  refine gd_callSr (As := [.int x2]) (rest := []) X lk_X0_63 (c_X3_bitsOf _ _ _ _ _ h) ⟨by decide, by decide⟩ rfl rfl (Nat.le_of_ble_eq_true rfl) dX0_wrong_1 (fun r1 h => ?_)
  refine gd_aload_n X dX0_wrong_4 0 rfl ?_
  refine gX0_15 X dX0_wrong_5 ?_
  refine gd_iload_n X dX0_wrong_8 1 rfl ?_
  refine al_C7 X h.1 _ rfl dX0_wrong_9 ?_
  have h := h.2
  refine gd_ixor X dX0_wrong_10 ?_
  refine gd_aload_n X dX0_wrong_11 0 rfl ?_
  refine gX0_18 X dX0_wrong_12 ?_
  refine gd_iload_n X dX0_wrong_15 1 rfl ?_
  refine al_C8 X h.1 _ rfl dX0_wrong_16 ?_
  have h := h.2
  refine gd_iand X dX0_wrong_17 ?_
  exact gd_iret X hR dX0_wrong_18 ⟨_, rfl, rfl, h⟩
set_option maxRecDepth 100000 in
theorem c_X0_wrong (l : Launch) (D : va_G) (A : Nat → Prop) (cy : Nat → ClassId) (ad : Nat → Nat) (post : Int32 → Prop) (x1 x2 : Int32) (g : SG) (hB : B_X0_wrong_0 post x1 x2 g) : Mt l (eC D A cy ad) yX0_wrong cX0_wrong 3 (some .int) 2 47 [.ref (ad 5), .int x1, .int x2] g (oR g post) := mt_of (plainFor_of_name (by decide)) (Nat.le_of_ble_eq_true rfl) (fun b X hR => w_X0_wrong_0 X hR x1 x2 hB)
def B_X0_missesOf_0 (post : Int32 → Prop) (x1 x2 x3 : Int32) (g : SG) : Prop :=
  vp_in x1 6 ∧ (vp_in x1 6 ∧ (B_J6_bitCount_0f7a4_0 (fun r1 => post r1) (((x2 ^^^ (g 3 x1.toNatClampNeg)) &&& (g 4 x1.toNatClampNeg)) &&& x3)))
set_option maxRecDepth 100000 in
theorem w_X0_missesOf_0 {b : BX} {D : va_G} {A : Nat → Prop} {cy : Nat → ClassId} {ad : Nat → Nat} {g : SG} {post : Int32 → Prop} (X : Cx (kC b D A cy ad) cX0_missesOf RX0 4 1 20) (hR : Rx (kC b D A cy ad) (some .int) (oR g post)) (x1 x2 x3 : Int32) (h : B_X0_missesOf_0 post x1 x2 x3 g) : Gd (kC b D A cy ad) 4 0 [(0, .ref (ad 5)), (1, .int x1), (2, .int x2), (3, .int x3)] [] g := by
  unfold B_X0_missesOf_0 at h
  refine gd_iload_n X dX0_missesOf_0 2 rfl ?_
  refine gd_aload_n X dX0_missesOf_1 0 rfl ?_
  refine gX0_15 X dX0_missesOf_2 ?_
  refine gd_iload_n X dX0_missesOf_5 1 rfl ?_
  refine al_C7 X h.1 _ rfl dX0_missesOf_6 ?_
  have h := h.2
  refine gd_ixor X dX0_missesOf_7 ?_
  refine gd_aload_n X dX0_missesOf_8 0 rfl ?_
  refine gX0_18 X dX0_missesOf_9 ?_
  refine gd_iload_n X dX0_missesOf_12 1 rfl ?_
  refine al_C8 X h.1 _ rfl dX0_missesOf_13 ?_
  have h := h.2
  refine gd_iand X dX0_missesOf_14 ?_
  refine gd_iload_n X dX0_missesOf_15 3 rfl ?_
  refine gd_iand X dX0_missesOf_16 ?_
  refine gd_callSr (As := [.int ((((x2 ^^^ (g 3 x1.toNatClampNeg)) &&& (g 4 x1.toNatClampNeg)) &&& x3))]) (rest := []) X lk_X0_53 (c_J6_bitCount_0f7a4 _ _ _ _ _ h) ⟨by decide, by decide⟩ rfl rfl (Nat.le_of_ble_eq_true rfl) dX0_missesOf_17 (fun r1 h => ?_)
  exact gd_iret X hR dX0_missesOf_20 ⟨_, rfl, rfl, h⟩
set_option maxRecDepth 100000 in
theorem c_X0_missesOf (l : Launch) (D : va_G) (A : Nat → Prop) (cy : Nat → ClassId) (ad : Nat → Nat) (post : Int32 → Prop) (x1 x2 x3 : Int32) (g : SG) (hB : B_X0_missesOf_0 post x1 x2 x3 g) : Mt l (eC D A cy ad) yX0_missesOf cX0_missesOf 4 (some .int) 1 20 [.ref (ad 5), .int x1, .int x2, .int x3] g (oR g post) := mt_of (plainFor_of_name (by decide)) (Nat.le_of_ble_eq_true rfl) (fun b X hR => w_X0_missesOf_0 X hR x1 x2 x3 hB)
def B_X0_missesFrom_7 (post : Int32 → Prop) (k7 : Int32 → Int32 → Int32 → Int32 → Prop) (x1 x2 x3 x4 : Int32) (g : SG) : Prop :=
  (((g 0 5) ≤ x4) → post x3) ∧ ((¬ (g 0 5) ≤ x4) → B_X3_bitsOf_0 (fun r2 => B_X0_missesOf_0 (fun r3 => ∀ z4 : Int32, z4 = (x3 + r3) → B_X3_next_0 (fun r5 => ∀ z6 : Int32, z6 = x4 + 1 → k7 x1 r5 z4 z6) x2) x4 r2 524287 g) x2)
set_option maxRecDepth 100000 in
theorem w_X0_missesFrom_7 {b : BX} {D : va_G} {A : Nat → Prop} {cy : Nat → ClassId} {ad : Nat → Nat} {g : SG} {post : Int32 → Prop} {k7 : Int32 → Int32 → Int32 → Int32 → Prop} (X : Cx (kC b D A cy ad) cX0_missesFrom RX0 5 2 47) (hR : Rx (kC b D A cy ad) (some .int) (oR g post)) (hk7 : ∀ (x1 x2 x3 x4 : Int32), k7 x1 x2 x3 x4 → Gd (kC b D A cy ad) 5 7 [(0, .ref (ad 5)), (1, .int x1), (2, .int x2), (3, .int x3), (4, .int x4)] [] g) (x1 x2 x3 x4 : Int32) (h : B_X0_missesFrom_7 post k7 x1 x2 x3 x4 g) : Gd (kC b D A cy ad) 5 7 [(0, .ref (ad 5)), (1, .int x1), (2, .int x2), (3, .int x3), (4, .int x4)] [] g := by
  unfold B_X0_missesFrom_7 at h
  refine gd_iload X dX0_missesFrom_7 4 rfl ?_
  refine gd_aload_n X dX0_missesFrom_9 0 rfl ?_
  refine gX0_29 X dX0_missesFrom_10 ?_
  refine gd_icmp_ge (tgt := 42) X dX0_missesFrom_13 (by decide) (fun c1 => ?_) (fun c1 => ?_)
  · have h := h.1 c1
    refine gd_iload_n X dX0_missesFrom_42 3 rfl ?_
    exact gd_iret X hR dX0_missesFrom_43 ⟨_, rfl, rfl, h⟩
  · have h := h.2 c1
    refine gd_iload_n X dX0_missesFrom_16 3 rfl ?_
    refine gd_aload_n X dX0_missesFrom_17 0 rfl ?_
    refine gd_iload X dX0_missesFrom_18 4 rfl ?_
    refine gd_iload_n X dX0_missesFrom_20 2 rfl ?_
    refine gd_callSr (As := [.int x2]) (rest := [.int x4, .ref (ad 5), .int x3]) X lk_X0_63 (c_X3_bitsOf _ _ _ _ _ h) ⟨by decide, by decide⟩ rfl rfl (Nat.le_of_ble_eq_true rfl) dX0_missesFrom_21 (fun r2 h => ?_)
    refine gd_ldc (v := 524287) X q_395 dX0_missesFrom_24 ?_
    refine gd_callVr (As := [.int x4, .int r2, .int 524287]) (rest := [.int x3]) X lk_X0_69 (c_X0_missesOf _ _ _ _ _ _ _ _ _ _ h) 5 rfl rfl ⟨by decide, by decide⟩ rfl rfl (Nat.le_of_ble_eq_true rfl) dX0_missesFrom_26 (fun r3 h => ?_)
    refine gd_iadd X dX0_missesFrom_29 ?_
    refine gd_topi (fun z4 ez4 => ?_)
    have h := h z4 ez4
    refine gd_istore_n (lv' := [(3, .int z4), (0, .ref (ad 5)), (1, .int x1), (2, .int x2), (4, .int x4)]) X dX0_missesFrom_30 (by decide) rfl ?_
    refine gd_iload_n X dX0_missesFrom_31 3 rfl ?_
    refine gd_callSr (As := [.int x2]) (rest := []) X lk_X0_72 (c_X3_next _ _ _ _ _ h) ⟨by decide, by decide⟩ rfl rfl (Nat.le_of_ble_eq_true rfl) dX0_missesFrom_32 (fun r5 h => ?_)
    refine gd_istore_n (lv' := [(2, .int r5), (3, .int z4), (0, .ref (ad 5)), (1, .int x1), (4, .int x4)]) X dX0_missesFrom_35 (by decide) rfl ?_
    refine gd_incn X 4 1 dX0_missesFrom_36 rfl (by decide) (by decide) (fun z6 => [(4, .int z6), (2, .int r5), (3, .int z4), (0, .ref (ad 5)), (1, .int x1)]) (fun _ => rfl) (fun z6 ez6 => ?_)
    have h := h z6 ez6
    refine gd_goto (tgt := 7) X dX0_missesFrom_39 (by decide) ?_
    refine gd_sub [3, 4, 1, 2, 0] rfl ?_
    exact hk7 _ _ _ _ h
def P_X0_missesFrom_7 (post : Int32 → Prop) (g : SG) (n : Nat) : Int32 → Int32 → Int32 → Int32 → Prop := Nat.rec (motive := fun _ => Int32 → Int32 → Int32 → Int32 → Prop) (fun _ _ _ _ => False) (fun _ kk x1 x2 x3 x4 => B_X0_missesFrom_7 post kk x1 x2 x3 x4 g) n
set_option maxRecDepth 100000 in
theorem wL_X0_missesFrom_7 {b : BX} {D : va_G} {A : Nat → Prop} {cy : Nat → ClassId} {ad : Nat → Nat} {g : SG} {post : Int32 → Prop} (X : Cx (kC b D A cy ad) cX0_missesFrom RX0 5 2 47) (hR : Rx (kC b D A cy ad) (some .int) (oR g post)) : ∀ (n : Nat) (x1 x2 x3 x4 : Int32), P_X0_missesFrom_7 post g n x1 x2 x3 x4 → Gd (kC b D A cy ad) 5 7 [(0, .ref (ad 5)), (1, .int x1), (2, .int x2), (3, .int x3), (4, .int x4)] [] g := by
  intro n
  induction n with
  | zero => intro x1 x2 x3 x4 h; exact h.elim
  | succ n ih => intro x1 x2 x3 x4 h; exact w_X0_missesFrom_7 X hR ih x1 x2 x3 x4 h
def B_X0_missesFrom_0 (post : Int32 → Prop) (x1 : Int32) (g : SG) : Prop :=
  ∃ n : Nat, P_X0_missesFrom_7 post g n x1 x1 0 0
set_option maxRecDepth 100000 in
theorem w_X0_missesFrom_0 {b : BX} {D : va_G} {A : Nat → Prop} {cy : Nat → ClassId} {ad : Nat → Nat} {g : SG} {post : Int32 → Prop} (X : Cx (kC b D A cy ad) cX0_missesFrom RX0 5 2 47) (hR : Rx (kC b D A cy ad) (some .int) (oR g post)) (x1 : Int32) (h : B_X0_missesFrom_0 post x1 g) : Gd (kC b D A cy ad) 5 0 [(0, .ref (ad 5)), (1, .int x1)] [] g := by
  unfold B_X0_missesFrom_0 at h
  refine gd_iload_n X dX0_missesFrom_0 1 rfl ?_
  refine gd_istore_n (lv' := [(2, .int x1), (0, .ref (ad 5)), (1, .int x1)]) X dX0_missesFrom_1 (by decide) rfl ?_
  refine gd_iconst (v := 0) X dX0_missesFrom_2 (by decide) ?_
  refine gd_istore_n (lv' := [(3, .int 0), (2, .int x1), (0, .ref (ad 5)), (1, .int x1)]) X dX0_missesFrom_3 (by decide) rfl ?_
  refine gd_iconst (v := 0) X dX0_missesFrom_4 (by decide) ?_
  refine gd_istore (lv' := [(4, .int 0), (3, .int 0), (2, .int x1), (0, .ref (ad 5)), (1, .int x1)]) X dX0_missesFrom_5 (by decide) rfl ?_
  refine gd_sub [3, 4, 2, 1, 0] rfl ?_
  obtain ⟨n, h⟩ := h
  exact wL_X0_missesFrom_7 X hR n _ _ _ _ h
set_option maxRecDepth 100000 in
theorem c_X0_missesFrom (l : Launch) (D : va_G) (A : Nat → Prop) (cy : Nat → ClassId) (ad : Nat → Nat) (post : Int32 → Prop) (x1 : Int32) (g : SG) (hB : B_X0_missesFrom_0 post x1 g) : Mt l (eC D A cy ad) yX0_missesFrom cX0_missesFrom 5 (some .int) 2 47 [.ref (ad 5), .int x1] g (oR g post) := mt_of (plainFor_of_name (by decide)) (Nat.le_of_ble_eq_true rfl) (fun b X hR => w_X0_missesFrom_0 X hR x1 hB)
def B_X1_append_30 (post : SG → Prop) (x1 : Int32) (g : SG) : Prop :=
  post g
set_option maxRecDepth 100000 in
theorem w_X1_append_30 {b : BX} {D : va_G} {A : Nat → Prop} {cy : Nat → ClassId} {ad : Nat → Nat} {post : SG → Prop} (X : Cx (kC b D A cy ad) cX1_append RX1 2 0 0) (hR : Rx (kC b D A cy ad) none (oV post)) (x1 : Int32) (g : SG) (h : B_X1_append_30 post x1 g) : Gd (kC b D A cy ad) 2 30 [(0, .ref (ad 19)), (1, .int x1)] [] g := by
  unfold B_X1_append_30 at h
  exact gd_vret X hR dX1_append_30 ⟨rfl, h⟩
def B_X1_append_0 (post : SG → Prop) (x1 : Int32) (g : SG) : Prop :=
  ((120 ≤ (g 20 0)) → B_X1_append_30 post x1 g) ∧ ((¬ 120 ≤ (g 20 0)) → vp_in (g 20 0) 120 ∧ (∀ g2 : SG, g2 = sput g 40 (g 20 0).toNatClampNeg (vp_nar .byte (x1.toInt8.toInt32)) → ∀ g3 : SG, g3 = sput g2 20 0 ((g2 20 0) + 1) → B_X1_append_30 post x1 g3))
set_option maxRecDepth 100000 in
theorem w_X1_append_0 {b : BX} {D : va_G} {A : Nat → Prop} {cy : Nat → ClassId} {ad : Nat → Nat} {post : SG → Prop} (X : Cx (kC b D A cy ad) cX1_append RX1 2 0 0) (hR : Rx (kC b D A cy ad) none (oV post)) (x1 : Int32) (g : SG) (h : B_X1_append_0 post x1 g) : Gd (kC b D A cy ad) 2 0 [(0, .ref (ad 19)), (1, .int x1)] [] g := by
  unfold B_X1_append_0 at h
  refine gd_aload_n X dX1_append_0 0 rfl ?_
  refine gX1_25 0 (by decide) X dX1_append_1 ?_
  refine gd_bipush (v := 120) X dX1_append_4 (by decide) ?_
  refine gd_icmp_ge (tgt := 30) X dX1_append_6 (by decide) (fun c1 => ?_) (fun c1 => ?_)
  · have h := h.1 c1
    exact w_X1_append_30 X hR _ _ h
  · have h := h.2 c1
    refine gd_aload_n X dX1_append_9 0 rfl ?_
    refine gX1_9 0 (by decide) X dX1_append_10 ?_
    refine gd_aload_n X dX1_append_13 0 rfl ?_
    refine gX1_25 0 (by decide) X dX1_append_14 ?_
    refine gd_iload_n X dX1_append_17 1 rfl ?_
    refine gd_i2b X dX1_append_18 rfl ?_
    refine as_held 0 (by decide) X h.1 dX1_append_19 (fun g2 eg2 => ?_)
    have h := h.2 g2 eg2
    refine gd_aload_n X dX1_append_20 0 rfl ?_
    refine gd_dup X dX1_append_21 rfl ?_
    refine gX1_25 0 (by decide) X dX1_append_22 ?_
    refine gd_iconst (v := 1) X dX1_append_25 (by decide) ?_
    refine gd_iadd X dX1_append_26 ?_
    refine pX1_25 0 (by decide) X dX1_append_27 (fun g3 eg3 => ?_)
    have h := h g3 eg3
    exact w_X1_append_30 X hR _ _ h
set_option maxRecDepth 100000 in
theorem c_X1_append (l : Launch) (D : va_G) (A : Nat → Prop) (cy : Nat → ClassId) (ad : Nat → Nat) (post : SG → Prop) (x1 : Int32) (g : SG) (hB : B_X1_append_0 post x1 g) : Mt l (eC D A cy ad) yX1_append cX1_append 2 none 0 0 [.ref (ad 19), .int x1] g (oV post) := mt_of (plainFor_of_name (by decide)) (Nat.le_of_ble_eq_true rfl) (fun b X hR => w_X1_append_0 X hR x1 g hB)
def B_X1_dropFirst_12 (post : SG → Prop) (x1 : Int32) (g : SG) : Prop :=
  post g
set_option maxRecDepth 100000 in
theorem w_X1_dropFirst_12 {b : BX} {D : va_G} {A : Nat → Prop} {cy : Nat → ClassId} {ad : Nat → Nat} {post : SG → Prop} (X : Cx (kC b D A cy ad) cX1_dropFirst RX1 3 0 0) (hR : Rx (kC b D A cy ad) none (oV post)) (x1 : Int32) (g : SG) (h : B_X1_dropFirst_12 post x1 g) : Gd (kC b D A cy ad) 3 12 [(0, .ref (ad 19)), (1, .int x1)] [] g := by
  unfold B_X1_dropFirst_12 at h
  exact gd_vret X hR dX1_dropFirst_12 ⟨rfl, h⟩
def B_X1_dropFirst_15 (post : SG → Prop) (k15 : Int32 → Int32 → SG → Prop) (x1 x2 : Int32) (g : SG) : Prop :=
  (((g 20 0) ≤ x2) → ∀ g2 : SG, g2 = sput g 20 0 ((g 20 0) - x1) → post g2) ∧ ((¬ (g 20 0) ≤ x2) → vp_in x2 120 ∧ (vp_in (x2 - x1) 120 ∧ (∀ g3 : SG, g3 = sput g 40 (x2 - x1).toNatClampNeg (vp_nar .byte (g 40 x2.toNatClampNeg)) → ∀ z4 : Int32, z4 = x2 + 1 → k15 x1 z4 g3)))
set_option maxRecDepth 100000 in
theorem w_X1_dropFirst_15 {b : BX} {D : va_G} {A : Nat → Prop} {cy : Nat → ClassId} {ad : Nat → Nat} {post : SG → Prop} {k15 : Int32 → Int32 → SG → Prop} (X : Cx (kC b D A cy ad) cX1_dropFirst RX1 3 0 0) (hR : Rx (kC b D A cy ad) none (oV post)) (hk15 : ∀ (x1 x2 : Int32) (g : SG), k15 x1 x2 g → Gd (kC b D A cy ad) 3 15 [(0, .ref (ad 19)), (1, .int x1), (2, .int x2)] [] g) (x1 x2 : Int32) (g : SG) (h : B_X1_dropFirst_15 post k15 x1 x2 g) : Gd (kC b D A cy ad) 3 15 [(0, .ref (ad 19)), (1, .int x1), (2, .int x2)] [] g := by
  unfold B_X1_dropFirst_15 at h
  refine gd_iload_n X dX1_dropFirst_15 2 rfl ?_
  refine gd_aload_n X dX1_dropFirst_16 0 rfl ?_
  refine gX1_25 0 (by decide) X dX1_dropFirst_17 ?_
  refine gd_icmp_ge (tgt := 43) X dX1_dropFirst_20 (by decide) (fun c1 => ?_) (fun c1 => ?_)
  · have h := h.1 c1
    refine gd_aload_n X dX1_dropFirst_43 0 rfl ?_
    refine gd_dup X dX1_dropFirst_44 rfl ?_
    refine gX1_25 0 (by decide) X dX1_dropFirst_45 ?_
    refine gd_iload_n X dX1_dropFirst_48 1 rfl ?_
    refine gd_isub X dX1_dropFirst_49 ?_
    refine pX1_25 0 (by decide) X dX1_dropFirst_50 (fun g2 eg2 => ?_)
    have h := h g2 eg2
    exact gd_vret X hR dX1_dropFirst_53 ⟨rfl, h⟩
  · have h := h.2 c1
    refine gd_aload_n X dX1_dropFirst_23 0 rfl ?_
    refine gX1_9 0 (by decide) X dX1_dropFirst_24 ?_
    refine gd_iload_n X dX1_dropFirst_27 2 rfl ?_
    refine gd_iload_n X dX1_dropFirst_28 1 rfl ?_
    refine gd_isub X dX1_dropFirst_29 ?_
    refine gd_aload_n X dX1_dropFirst_30 0 rfl ?_
    refine gX1_9 0 (by decide) X dX1_dropFirst_31 ?_
    refine gd_iload_n X dX1_dropFirst_34 2 rfl ?_
    refine al_held 0 (by decide) X h.1 dX1_dropFirst_35 ?_
    have h := h.2
    refine as_held 0 (by decide) X h.1 dX1_dropFirst_36 (fun g3 eg3 => ?_)
    have h := h.2 g3 eg3
    refine gd_incn X 2 1 dX1_dropFirst_37 rfl (by decide) (by decide) (fun z4 => [(2, .int z4), (0, .ref (ad 19)), (1, .int x1)]) (fun _ => rfl) (fun z4 ez4 => ?_)
    have h := h z4 ez4
    refine gd_goto (tgt := 15) X dX1_dropFirst_40 (by decide) ?_
    refine gd_sub [1, 2, 0] rfl ?_
    exact hk15 _ _ _ h
def P_X1_dropFirst_15 (post : SG → Prop) (n : Nat) : Int32 → Int32 → SG → Prop := Nat.rec (motive := fun _ => Int32 → Int32 → SG → Prop) (fun _ _ _ => False) (fun _ kk x1 x2 g => B_X1_dropFirst_15 post kk x1 x2 g) n
set_option maxRecDepth 100000 in
theorem wL_X1_dropFirst_15 {b : BX} {D : va_G} {A : Nat → Prop} {cy : Nat → ClassId} {ad : Nat → Nat} {post : SG → Prop} (X : Cx (kC b D A cy ad) cX1_dropFirst RX1 3 0 0) (hR : Rx (kC b D A cy ad) none (oV post)) : ∀ (n : Nat) (x1 x2 : Int32) (g : SG), P_X1_dropFirst_15 post n x1 x2 g → Gd (kC b D A cy ad) 3 15 [(0, .ref (ad 19)), (1, .int x1), (2, .int x2)] [] g := by
  intro n
  induction n with
  | zero => intro x1 x2 g h; exact h.elim
  | succ n ih => intro x1 x2 g h; exact w_X1_dropFirst_15 X hR ih x1 x2 g h
def B_X1_dropFirst_0 (post : SG → Prop) (x1 : Int32) (g : SG) : Prop :=
  ((x1 < 0) → B_X1_dropFirst_12 post x1 g) ∧ ((¬ x1 < 0) → ((x1 ≤ (g 20 0)) → ∃ n : Nat, P_X1_dropFirst_15 post n x1 x1 g) ∧ ((¬ x1 ≤ (g 20 0)) → B_X1_dropFirst_12 post x1 g))
set_option maxRecDepth 100000 in
theorem w_X1_dropFirst_0 {b : BX} {D : va_G} {A : Nat → Prop} {cy : Nat → ClassId} {ad : Nat → Nat} {post : SG → Prop} (X : Cx (kC b D A cy ad) cX1_dropFirst RX1 3 0 0) (hR : Rx (kC b D A cy ad) none (oV post)) (x1 : Int32) (g : SG) (h : B_X1_dropFirst_0 post x1 g) : Gd (kC b D A cy ad) 3 0 [(0, .ref (ad 19)), (1, .int x1)] [] g := by
  unfold B_X1_dropFirst_0 at h
  refine gd_iload_n X dX1_dropFirst_0 1 rfl ?_
  refine gd_if_lt (tgt := 12) X dX1_dropFirst_1 (by decide) (fun c1 => ?_) (fun c1 => ?_)
  · have h := h.1 c1
    exact w_X1_dropFirst_12 X hR _ _ h
  · have h := h.2 c1
    refine gd_iload_n X dX1_dropFirst_4 1 rfl ?_
    refine gd_aload_n X dX1_dropFirst_5 0 rfl ?_
    refine gX1_25 0 (by decide) X dX1_dropFirst_6 ?_
    refine gd_icmp_le (tgt := 13) X dX1_dropFirst_9 (by decide) (fun c2 => ?_) (fun c2 => ?_)
    · have h := h.1 c2
      refine gd_iload_n X dX1_dropFirst_13 1 rfl ?_
      refine gd_istore_n (lv' := [(2, .int x1), (0, .ref (ad 19)), (1, .int x1)]) X dX1_dropFirst_14 (by decide) rfl ?_
      refine gd_sub [1, 2, 0] rfl ?_
      obtain ⟨n, h⟩ := h
      exact wL_X1_dropFirst_15 X hR n _ _ _ h
    · have h := h.2 c2
      exact w_X1_dropFirst_12 X hR _ _ h
set_option maxRecDepth 100000 in
theorem c_X1_dropFirst (l : Launch) (D : va_G) (A : Nat → Prop) (cy : Nat → ClassId) (ad : Nat → Nat) (post : SG → Prop) (x1 : Int32) (g : SG) (hB : B_X1_dropFirst_0 post x1 g) : Mt l (eC D A cy ad) yX1_dropFirst cX1_dropFirst 3 none 0 0 [.ref (ad 19), .int x1] g (oV post) := mt_of (plainFor_of_name (by decide)) (Nat.le_of_ble_eq_true rfl) (fun b X hR => w_X1_dropFirst_0 X hR x1 g hB)
def B_X1_copyFrom_2 (ja jb : Nat) (post : SG → Prop) (k2 : Int32 → SG → Prop) (x2 : Int32) (g : SG) : Prop :=
  (((g (20 + jb) 0) ≤ x2) → ∀ g2 : SG, g2 = sput g (20 + ja) 0 (g (20 + jb) 0) → ∀ g3 : SG, g3 = sput g2 (20 + ja) 1 (g2 (20 + jb) 1) → ∀ g4 : SG, g4 = sput g3 (20 + ja) 2 (g3 (20 + jb) 2) → ∀ g5 : SG, g5 = sput g4 (20 + ja) 3 (g4 (20 + jb) 3) → ∀ g6 : SG, g6 = sput g5 (20 + ja) 4 (g5 (20 + jb) 4) → post g6) ∧ ((¬ (g (20 + jb) 0) ≤ x2) → vp_in x2 120 ∧ (vp_in x2 120 ∧ (∀ g7 : SG, g7 = sput g (40 + ja) x2.toNatClampNeg (vp_nar .byte (g (40 + jb) x2.toNatClampNeg)) → ∀ z8 : Int32, z8 = x2 + 1 → k2 z8 g7)))
set_option maxRecDepth 100000 in
theorem w_X1_copyFrom_2 (ja jb : Nat) (hja : ja < 13) (hjb : jb < 13) {b : BX} {D : va_G} {A : Nat → Prop} {cy : Nat → ClassId} {ad : Nat → Nat} {post : SG → Prop} {k2 : Int32 → SG → Prop} (X : Cx (kC b D A cy ad) cX1_copyFrom RX1 3 0 0) (hR : Rx (kC b D A cy ad) none (oV post)) (hk2 : ∀ (x2 : Int32) (g : SG), k2 x2 g → Gd (kC b D A cy ad) 3 2 [(0, .ref (ad (19 + 2 * ja))), (1, .ref (ad (19 + 2 * jb))), (2, .int x2)] [] g) (x2 : Int32) (g : SG) (h : B_X1_copyFrom_2 ja jb post k2 x2 g) : Gd (kC b D A cy ad) 3 2 [(0, .ref (ad (19 + 2 * ja))), (1, .ref (ad (19 + 2 * jb))), (2, .int x2)] [] g := by
  unfold B_X1_copyFrom_2 at h
  refine gd_iload_n X dX1_copyFrom_2 2 rfl ?_
  refine gd_aload_n X dX1_copyFrom_3 1 rfl ?_
  refine gX1_25 jb hjb X dX1_copyFrom_4 ?_
  refine gd_icmp_ge (tgt := 28) X dX1_copyFrom_7 (by decide) (fun c1 => ?_) (fun c1 => ?_)
  · have h := h.1 c1
    refine gd_aload_n X dX1_copyFrom_28 0 rfl ?_
    refine gd_aload_n X dX1_copyFrom_29 1 rfl ?_
    refine gX1_25 jb hjb X dX1_copyFrom_30 ?_
    refine pX1_25 ja hja X dX1_copyFrom_33 (fun g2 eg2 => ?_)
    have h := h g2 eg2
    refine gd_aload_n X dX1_copyFrom_36 0 rfl ?_
    refine gd_aload_n X dX1_copyFrom_37 1 rfl ?_
    refine gX1_15 jb hjb X dX1_copyFrom_38 ?_
    refine pX1_15 ja hja X dX1_copyFrom_41 (fun g3 eg3 => ?_)
    have h := h g3 eg3
    refine gd_aload_n X dX1_copyFrom_44 0 rfl ?_
    refine gd_aload_n X dX1_copyFrom_45 1 rfl ?_
    refine gX1_19 jb hjb X dX1_copyFrom_46 ?_
    refine pX1_19 ja hja X dX1_copyFrom_49 (fun g4 eg4 => ?_)
    have h := h g4 eg4
    refine gd_aload_n X dX1_copyFrom_52 0 rfl ?_
    refine gd_aload_n X dX1_copyFrom_53 1 rfl ?_
    refine gX1_22 jb hjb X dX1_copyFrom_54 ?_
    refine pX1_22 ja hja X dX1_copyFrom_57 (fun g5 eg5 => ?_)
    have h := h g5 eg5
    refine gd_aload_n X dX1_copyFrom_60 0 rfl ?_
    refine gd_aload_n X dX1_copyFrom_61 1 rfl ?_
    refine gX1_28 jb hjb X dX1_copyFrom_62 ?_
    refine pX1_28 ja hja X dX1_copyFrom_65 (fun g6 eg6 => ?_)
    have h := h g6 eg6
    exact gd_vret X hR dX1_copyFrom_68 ⟨rfl, h⟩
  · have h := h.2 c1
    refine gd_aload_n X dX1_copyFrom_10 0 rfl ?_
    refine gX1_9 ja hja X dX1_copyFrom_11 ?_
    refine gd_iload_n X dX1_copyFrom_14 2 rfl ?_
    refine gd_aload_n X dX1_copyFrom_15 1 rfl ?_
    refine gX1_9 jb hjb X dX1_copyFrom_16 ?_
    refine gd_iload_n X dX1_copyFrom_19 2 rfl ?_
    refine al_held jb hjb X h.1 dX1_copyFrom_20 ?_
    have h := h.2
    refine as_held ja hja X h.1 dX1_copyFrom_21 (fun g7 eg7 => ?_)
    have h := h.2 g7 eg7
    refine gd_incn X 2 1 dX1_copyFrom_22 rfl (by decide) (by decide) (fun z8 => [(2, .int z8), (0, .ref (ad (19 + 2 * ja))), (1, .ref (ad (19 + 2 * jb)))]) (fun _ => rfl) (fun z8 ez8 => ?_)
    have h := h z8 ez8
    refine gd_goto (tgt := 2) X dX1_copyFrom_25 (by decide) ?_
    refine gd_sub [1, 2, 0] rfl ?_
    exact hk2 _ _ h
def P_X1_copyFrom_2 (ja jb : Nat) (post : SG → Prop) (n : Nat) : Int32 → SG → Prop := Nat.rec (motive := fun _ => Int32 → SG → Prop) (fun _ _ => False) (fun _ kk x2 g => B_X1_copyFrom_2 ja jb post kk x2 g) n
set_option maxRecDepth 100000 in
theorem wL_X1_copyFrom_2 (ja jb : Nat) (hja : ja < 13) (hjb : jb < 13) {b : BX} {D : va_G} {A : Nat → Prop} {cy : Nat → ClassId} {ad : Nat → Nat} {post : SG → Prop} (X : Cx (kC b D A cy ad) cX1_copyFrom RX1 3 0 0) (hR : Rx (kC b D A cy ad) none (oV post)) : ∀ (n : Nat) (x2 : Int32) (g : SG), P_X1_copyFrom_2 ja jb post n x2 g → Gd (kC b D A cy ad) 3 2 [(0, .ref (ad (19 + 2 * ja))), (1, .ref (ad (19 + 2 * jb))), (2, .int x2)] [] g := by
  intro n
  induction n with
  | zero => intro x2 g h; exact h.elim
  | succ n ih => intro x2 g h; exact w_X1_copyFrom_2 ja jb hja hjb X hR ih x2 g h
def B_X1_copyFrom_0 (ja jb : Nat) (post : SG → Prop) (g : SG) : Prop :=
  ∃ n : Nat, P_X1_copyFrom_2 ja jb post n 0 g
set_option maxRecDepth 100000 in
theorem w_X1_copyFrom_0 (ja jb : Nat) (hja : ja < 13) (hjb : jb < 13) {b : BX} {D : va_G} {A : Nat → Prop} {cy : Nat → ClassId} {ad : Nat → Nat} {post : SG → Prop} (X : Cx (kC b D A cy ad) cX1_copyFrom RX1 3 0 0) (hR : Rx (kC b D A cy ad) none (oV post)) (g : SG) (h : B_X1_copyFrom_0 ja jb post g) : Gd (kC b D A cy ad) 3 0 [(0, .ref (ad (19 + 2 * ja))), (1, .ref (ad (19 + 2 * jb)))] [] g := by
  unfold B_X1_copyFrom_0 at h
  refine gd_iconst (v := 0) X dX1_copyFrom_0 (by decide) ?_
  refine gd_istore_n (lv' := [(2, .int 0), (0, .ref (ad (19 + 2 * ja))), (1, .ref (ad (19 + 2 * jb)))]) X dX1_copyFrom_1 (by decide) rfl ?_
  refine gd_sub [1, 2, 0] rfl ?_
  obtain ⟨n, h⟩ := h
  exact wL_X1_copyFrom_2 ja jb hja hjb X hR n _ _ h
set_option maxRecDepth 100000 in
theorem c_X1_copyFrom (ja jb : Nat) (hja : ja < 13) (hjb : jb < 13) (l : Launch) (D : va_G) (A : Nat → Prop) (cy : Nat → ClassId) (ad : Nat → Nat) (post : SG → Prop) (g : SG) (hB : B_X1_copyFrom_0 ja jb post g) : Mt l (eC D A cy ad) yX1_copyFrom cX1_copyFrom 3 none 0 0 [.ref (ad (19 + 2 * ja)), .ref (ad (19 + 2 * jb))] g (oV post) := mt_of (plainFor_of_name (by decide)) (Nat.le_of_ble_eq_true rfl) (fun b X hR => w_X1_copyFrom_0 ja jb hja hjb X hR g hB)
def B_X2_remember_0 (post : SG → Prop) (g : SG) : Prop :=
  vp_in (g 0 2) 10 ∧ (B_X1_copyFrom_0 ((g 0 2).toNatClampNeg + 1) 0 (fun g2 => ∀ g3 : SG, g3 = sput g2 0 2 (jrem ((g2 0 2) + 1) 10) → B_J9_min_7cf53_0 (fun r4 => ∀ g5 : SG, g5 = sput g3 0 3 r4 → post g5) ((g3 0 3) + 1) 10) g)
set_option maxRecDepth 100000 in
theorem w_X2_remember_0 {b : BX} {D : va_G} {A : Nat → Prop} {cy : Nat → ClassId} {ad : Nat → Nat} {post : SG → Prop} (X : Cx (kC b D A cy ad) cX2_remember RX2 2 1 22) (hR : Rx (kC b D A cy ad) none (oV post)) (g : SG) (h : B_X2_remember_0 post g) : Gd (kC b D A cy ad) 2 0 [(0, .ref (ad 1)), (1, .ref (ad 19))] [] g := by
  unfold B_X2_remember_0 at h
  refine gd_aload_n X dX2_remember_0 0 rfl ?_
  refine gX2_11 X dX2_remember_1 ?_
  refine gd_aload_n X dX2_remember_4 0 rfl ?_
  refine gX2_18 X dX2_remember_5 ?_
  have hi1 := h.1
  refine aa_states X hi1 dX2_remember_8 ?_
  have h := h.2
  refine gd_aload_n X dX2_remember_9 1 rfl ?_
  refine gd_callVv (As := [.ref (ad 19)]) (rest := []) X lk_X2_22 (c_X1_copyFrom ((g 0 2).toNatClampNeg + 1) 0 (Nat.lt_of_lt_of_le (Nat.succ_lt_succ (vp_clt hi1)) (by decide)) (by decide) _ _ _ _ _ _ _ h) (19 + 2 * ((g 0 2).toNatClampNeg + 1)) rfl (wc_held cy ad _ ((g 0 2).toNatClampNeg + 1) (Nat.lt_of_lt_of_le (Nat.succ_lt_succ (vp_clt hi1)) (by decide))) ⟨by decide, by decide⟩ rfl rfl (Nat.le_of_ble_eq_true rfl) dX2_remember_10 (fun g2 h => ?_)
  refine gd_aload_n X dX2_remember_13 0 rfl ?_
  refine gd_aload_n X dX2_remember_14 0 rfl ?_
  refine gX2_18 X dX2_remember_15 ?_
  refine gd_iconst (v := 1) X dX2_remember_18 (by decide) ?_
  refine gd_iadd X dX2_remember_19 ?_
  refine gd_bipush (v := 10) X dX2_remember_20 (by decide) ?_
  refine gd_jrem X dX2_remember_22 (by decide) ?_
  refine pX2_18 X dX2_remember_23 (fun g3 eg3 => ?_)
  have h := h g3 eg3
  refine gd_aload_n X dX2_remember_26 0 rfl ?_
  refine gd_aload_n X dX2_remember_27 0 rfl ?_
  refine gX2_26 X dX2_remember_28 ?_
  refine gd_iconst (v := 1) X dX2_remember_31 (by decide) ?_
  refine gd_iadd X dX2_remember_32 ?_
  refine gd_bipush (v := 10) X dX2_remember_33 (by decide) ?_
  refine gd_callSr (As := [.int (((g3 0 3) + 1)), .int 10]) (rest := [.ref (ad 1)]) X lk_X2_29 (c_J9_min_7cf53 _ _ _ _ _ _ h) ⟨by decide, by decide⟩ rfl rfl (Nat.le_of_ble_eq_true rfl) dX2_remember_35 (fun r4 h => ?_)
  refine pX2_26 X dX2_remember_38 (fun g5 eg5 => ?_)
  have h := h g5 eg5
  exact gd_vret X hR dX2_remember_41 ⟨rfl, h⟩
set_option maxRecDepth 100000 in
theorem c_X2_remember (l : Launch) (D : va_G) (A : Nat → Prop) (cy : Nat → ClassId) (ad : Nat → Nat) (post : SG → Prop) (g : SG) (hB : B_X2_remember_0 post g) : Mt l (eC D A cy ad) yX2_remember cX2_remember 2 none 1 22 [.ref (ad 1), .ref (ad 19)] g (oV post) := mt_of (plainFor_of_name (by decide)) (Nat.le_of_ble_eq_true rfl) (fun b X hR => w_X2_remember_0 X hR g hB)
def B_X2_recall_0 (post : SG → Prop) (g : SG) : Prop :=
  ((¬ (g 0 3) = 0) → ∀ g2 : SG, g2 = sput g 0 2 (jrem (((g 0 2) + 10) - 1) 10) → ∀ g3 : SG, g3 = sput g2 0 3 ((g2 0 3) - 1) → vp_in (g3 0 2) 10 ∧ (B_X1_copyFrom_0 0 ((g3 0 2).toNatClampNeg + 1) (fun g5 => post g5) g3)) ∧ (((g 0 3) = 0) → post g)
set_option maxRecDepth 100000 in
theorem w_X2_recall_0 {b : BX} {D : va_G} {A : Nat → Prop} {cy : Nat → ClassId} {ad : Nat → Nat} {post : SG → Prop} (X : Cx (kC b D A cy ad) cX2_recall RX2 2 1 22) (hR : Rx (kC b D A cy ad) none (oV post)) (g : SG) (h : B_X2_recall_0 post g) : Gd (kC b D A cy ad) 2 0 [(0, .ref (ad 1)), (1, .ref (ad 19))] [] g := by
  unfold B_X2_recall_0 at h
  refine gd_aload_n X dX2_recall_0 0 rfl ?_
  refine gX2_26 X dX2_recall_1 ?_
  refine gd_if_ne (tgt := 8) X dX2_recall_4 (by decide) (fun c1 => ?_) (fun c1 => ?_)
  · have h := h.1 c1
    refine gd_aload_n X dX2_recall_8 0 rfl ?_
    refine gd_aload_n X dX2_recall_9 0 rfl ?_
    refine gX2_18 X dX2_recall_10 ?_
    refine gd_bipush (v := 10) X dX2_recall_13 (by decide) ?_
    refine gd_iadd X dX2_recall_15 ?_
    refine gd_iconst (v := 1) X dX2_recall_16 (by decide) ?_
    refine gd_isub X dX2_recall_17 ?_
    refine gd_bipush (v := 10) X dX2_recall_18 (by decide) ?_
    refine gd_jrem X dX2_recall_20 (by decide) ?_
    refine pX2_18 X dX2_recall_21 (fun g2 eg2 => ?_)
    have h := h g2 eg2
    refine gd_aload_n X dX2_recall_24 0 rfl ?_
    refine gd_dup X dX2_recall_25 rfl ?_
    refine gX2_26 X dX2_recall_26 ?_
    refine gd_iconst (v := 1) X dX2_recall_29 (by decide) ?_
    refine gd_isub X dX2_recall_30 ?_
    refine pX2_26 X dX2_recall_31 (fun g3 eg3 => ?_)
    have h := h g3 eg3
    refine gd_aload_n X dX2_recall_34 1 rfl ?_
    refine gd_aload_n X dX2_recall_35 0 rfl ?_
    refine gX2_11 X dX2_recall_36 ?_
    refine gd_aload_n X dX2_recall_39 0 rfl ?_
    refine gX2_18 X dX2_recall_40 ?_
    have hi4 := h.1
    refine aa_states X hi4 dX2_recall_43 ?_
    have h := h.2
    refine gd_callVv (As := [.ref (ad (19 + 2 * ((g3 0 2).toNatClampNeg + 1)))]) (rest := []) X lk_X2_22 (c_X1_copyFrom 0 ((g3 0 2).toNatClampNeg + 1) (by decide) (Nat.lt_of_lt_of_le (Nat.succ_lt_succ (vp_clt hi4)) (by decide)) _ _ _ _ _ _ _ h) (19 + 2 * 0) rfl (wc_held cy ad _ 0 (by decide)) ⟨by decide, by decide⟩ rfl rfl (Nat.le_of_ble_eq_true rfl) dX2_recall_44 (fun g5 h => ?_)
    exact gd_vret X hR dX2_recall_47 ⟨rfl, h⟩
  · have h := h.2 c1
    exact gd_vret X hR dX2_recall_7 ⟨rfl, h⟩
set_option maxRecDepth 100000 in
theorem c_X2_recall (l : Launch) (D : va_G) (A : Nat → Prop) (cy : Nat → ClassId) (ad : Nat → Nat) (post : SG → Prop) (g : SG) (hB : B_X2_recall_0 post g) : Mt l (eC D A cy ad) yX2_recall cX2_recall 2 none 1 22 [.ref (ad 1), .ref (ad 19)] g (oV post) := mt_of (plainFor_of_name (by decide)) (Nat.le_of_ble_eq_true rfl) (fun b X hR => w_X2_recall_0 X hR g hB)
def B_X2_forget_0 (post : SG → Prop) (g : SG) : Prop :=
  ∀ g1 : SG, g1 = sput g 0 3 0 → post g1
set_option maxRecDepth 100000 in
theorem w_X2_forget_0 {b : BX} {D : va_G} {A : Nat → Prop} {cy : Nat → ClassId} {ad : Nat → Nat} {post : SG → Prop} (X : Cx (kC b D A cy ad) cX2_forget RX2 1 0 0) (hR : Rx (kC b D A cy ad) none (oV post)) (g : SG) (h : B_X2_forget_0 post g) : Gd (kC b D A cy ad) 1 0 [(0, .ref (ad 1))] [] g := by
  unfold B_X2_forget_0 at h
  refine gd_aload_n X dX2_forget_0 0 rfl ?_
  refine gd_iconst (v := 0) X dX2_forget_1 (by decide) ?_
  refine pX2_26 X dX2_forget_2 (fun g1 eg1 => ?_)
  have h := h g1 eg1
  exact gd_vret X hR dX2_forget_5 ⟨rfl, h⟩
set_option maxRecDepth 100000 in
theorem c_X2_forget (l : Launch) (D : va_G) (A : Nat → Prop) (cy : Nat → ClassId) (ad : Nat → Nat) (post : SG → Prop) (g : SG) (hB : B_X2_forget_0 post g) : Mt l (eC D A cy ad) yX2_forget cX2_forget 1 none 0 0 [.ref (ad 1)] g (oV post) := mt_of (plainFor_of_name (by decide)) (Nat.le_of_ble_eq_true rfl) (fun b X hR => w_X2_forget_0 X hR g hB)
def B_X4_countByMinute_13 (post : SG → Prop) (k2 : Int32 → SG → Prop) (k13 : Int32 → Int32 → Int32 → SG → Prop) (x2 x3 x4 : Int32) (g : SG) : Prop :=
  (((g 0 10) ≤ x4) → vp_in x2 60 ∧ (∀ g2 : SG, g2 = sput g 6 x2.toNatClampNeg x3 → ∀ z3 : Int32, z3 = x2 + 1 → k2 z3 g2)) ∧ ((¬ (g 0 10) ≤ x4) → B_X3_bitsOf_0 (fun r4 => B_X0_missesOf_0 (fun r5 => ∀ z6 : Int32, z6 = (x3 + r5) → ∀ z7 : Int32, z7 = x4 + 1 → k13 x2 z6 z7 g) x4 r4 4080 g) (8 * (jrem (x2 + x4) 60)))
set_option maxRecDepth 100000 in
theorem w_X4_countByMinute_13 {b : BX} {D : va_G} {A : Nat → Prop} {cy : Nat → ClassId} {ad : Nat → Nat} {post : SG → Prop} {k2 : Int32 → SG → Prop} {k13 : Int32 → Int32 → Int32 → SG → Prop} (X : Cx (kC b D A cy ad) cX4_countByMinute RX4 6 2 47) (hR : Rx (kC b D A cy ad) none (oV post)) (hk2 : ∀ (x2 : Int32) (g : SG), k2 x2 g → Gd (kC b D A cy ad) 6 2 [(0, .ref (ad 9)), (1, .ref (ad 5)), (2, .int x2)] [] g) (hk13 : ∀ (x2 x3 x4 : Int32) (g : SG), k13 x2 x3 x4 g → Gd (kC b D A cy ad) 6 13 [(0, .ref (ad 9)), (1, .ref (ad 5)), (2, .int x2), (3, .int x3), (4, .int x4)] [] g) (x2 x3 x4 : Int32) (g : SG) (h : B_X4_countByMinute_13 post k2 k13 x2 x3 x4 g) : Gd (kC b D A cy ad) 6 13 [(0, .ref (ad 9)), (1, .ref (ad 5)), (2, .int x2), (3, .int x3), (4, .int x4)] [] g := by
  unfold B_X4_countByMinute_13 at h
  refine gd_iload X dX4_countByMinute_13 4 rfl ?_
  refine gd_aload_n X dX4_countByMinute_15 0 rfl ?_
  refine gX4_26 X dX4_countByMinute_16 ?_
  refine gd_icmp_ge (tgt := 57) X dX4_countByMinute_19 (by decide) (fun c1 => ?_) (fun c1 => ?_)
  · have h := h.1 c1
    refine gd_aload_n X dX4_countByMinute_57 0 rfl ?_
    refine gX4_9 X dX4_countByMinute_58 ?_
    refine gd_iload_n X dX4_countByMinute_61 2 rfl ?_
    refine gd_iload_n X dX4_countByMinute_62 3 rfl ?_
    refine as_C10 X h.1 _ rfl dX4_countByMinute_63 (fun g2 eg2 => ?_)
    have h := h.2 g2 eg2
    refine gd_incn X 2 1 dX4_countByMinute_64 rfl (by decide) (by decide) (fun z3 => [(2, .int z3), (0, .ref (ad 9)), (1, .ref (ad 5)), (3, .int x3), (4, .int x4)]) (fun _ => rfl) (fun z3 ez3 => ?_)
    have h := h z3 ez3
    refine gd_goto (tgt := 2) X dX4_countByMinute_67 (by decide) ?_
    refine gd_sub [1, 2, 0] rfl ?_
    exact hk2 _ _ h
  · have h := h.2 c1
    refine gd_bipush (v := 8) X dX4_countByMinute_22 (by decide) ?_
    refine gd_iload_n X dX4_countByMinute_24 2 rfl ?_
    refine gd_iload X dX4_countByMinute_25 4 rfl ?_
    refine gd_iadd X dX4_countByMinute_27 ?_
    refine gd_bipush (v := 60) X dX4_countByMinute_28 (by decide) ?_
    refine gd_jrem X dX4_countByMinute_30 (by decide) ?_
    refine gd_imul X dX4_countByMinute_31 ?_
    refine gd_callSr (As := [.int ((8 * (jrem (x2 + x4) 60)))]) (rest := []) X lk_X4_49 (c_X3_bitsOf _ _ _ _ _ h) ⟨by decide, by decide⟩ rfl rfl (Nat.le_of_ble_eq_true rfl) dX4_countByMinute_32 (fun r4 h => ?_)
    refine gd_istore (lv' := [(5, .int r4), (0, .ref (ad 9)), (1, .ref (ad 5)), (2, .int x2), (3, .int x3), (4, .int x4)]) X dX4_countByMinute_35 (by decide) rfl ?_
    refine gd_iload_n X dX4_countByMinute_37 4 rfl ?_
    refine gd_aload_n X dX4_countByMinute_38 2 rfl ?_
    refine gd_iload X dX4_countByMinute_39 5 rfl ?_
    refine gd_iload X dX4_countByMinute_41 0 rfl ?_
    refine gd_sipush (v := 4080) X dX4_countByMinute_43 (by decide) ?_
    refine gd_callVr (As := [.int x4, .int r4, .int 4080]) (rest := [.int x3]) X lk_X4_53 (c_X0_missesOf _ _ _ _ _ _ _ _ _ _ h) 5 rfl rfl ⟨by decide, by decide⟩ rfl rfl (Nat.le_of_ble_eq_true rfl) dX4_countByMinute_46 (fun r5 h => ?_)
    refine gd_iadd X dX4_countByMinute_49 ?_
    refine gd_topi (fun z6 ez6 => ?_)
    have h := h z6 ez6
    refine gd_istore_n (lv' := [(3, .int z6), (5, .int r4), (0, .ref (ad 9)), (1, .ref (ad 5)), (2, .int x2), (4, .int x4)]) X dX4_countByMinute_50 (by decide) rfl ?_
    refine gd_incn X 5 1 dX4_countByMinute_51 rfl (by decide) (by decide) (fun z7 => [(4, .int z7), (3, .int z6), (5, .int r4), (0, .ref (ad 9)), (1, .ref (ad 5)), (2, .int x2)]) (fun _ => rfl) (fun z7 ez7 => ?_)
    have h := h z7 ez7
    refine gd_goto (tgt := 13) X dX4_countByMinute_54 (by decide) ?_
    refine gd_sub [3, 4, 5, 1, 0] rfl ?_
    exact hk13 _ _ _ _ h
def P_X4_countByMinute_13 (post : SG → Prop) (k2 : Int32 → SG → Prop) (n : Nat) : Int32 → Int32 → Int32 → SG → Prop := Nat.rec (motive := fun _ => Int32 → Int32 → Int32 → SG → Prop) (fun _ _ _ _ => False) (fun _ kk x2 x3 x4 g => B_X4_countByMinute_13 post k2 kk x2 x3 x4 g) n
set_option maxRecDepth 100000 in
theorem wL_X4_countByMinute_13 {b : BX} {D : va_G} {A : Nat → Prop} {cy : Nat → ClassId} {ad : Nat → Nat} {post : SG → Prop} {k2 : Int32 → SG → Prop} (X : Cx (kC b D A cy ad) cX4_countByMinute RX4 6 2 47) (hR : Rx (kC b D A cy ad) none (oV post)) (hk2 : ∀ (x2 : Int32) (g : SG), k2 x2 g → Gd (kC b D A cy ad) 6 2 [(0, .ref (ad 9)), (1, .ref (ad 5)), (2, .int x2)] [] g) : ∀ (n : Nat) (x2 x3 x4 : Int32) (g : SG), P_X4_countByMinute_13 post k2 n x2 x3 x4 g → Gd (kC b D A cy ad) 6 13 [(0, .ref (ad 9)), (1, .ref (ad 5)), (2, .int x2), (3, .int x3), (4, .int x4)] [] g := by
  intro n
  induction n with
  | zero => intro x2 x3 x4 g h; exact h.elim
  | succ n ih => intro x2 x3 x4 g h; exact w_X4_countByMinute_13 X hR hk2 ih x2 x3 x4 g h
def B_X4_countByMinute_2 (post : SG → Prop) (k2 : Int32 → SG → Prop) (x2 : Int32) (g : SG) : Prop :=
  ((60 ≤ x2) → post g) ∧ ((¬ 60 ≤ x2) → ∃ n : Nat, P_X4_countByMinute_13 post k2 n x2 0 0 g)
set_option maxRecDepth 100000 in
theorem w_X4_countByMinute_2 {b : BX} {D : va_G} {A : Nat → Prop} {cy : Nat → ClassId} {ad : Nat → Nat} {post : SG → Prop} {k2 : Int32 → SG → Prop} (X : Cx (kC b D A cy ad) cX4_countByMinute RX4 6 2 47) (hR : Rx (kC b D A cy ad) none (oV post)) (hk2 : ∀ (x2 : Int32) (g : SG), k2 x2 g → Gd (kC b D A cy ad) 6 2 [(0, .ref (ad 9)), (1, .ref (ad 5)), (2, .int x2)] [] g) (x2 : Int32) (g : SG) (h : B_X4_countByMinute_2 post k2 x2 g) : Gd (kC b D A cy ad) 6 2 [(0, .ref (ad 9)), (1, .ref (ad 5)), (2, .int x2)] [] g := by
  unfold B_X4_countByMinute_2 at h
  refine gd_iload_n X dX4_countByMinute_2 2 rfl ?_
  refine gd_bipush (v := 60) X dX4_countByMinute_3 (by decide) ?_
  refine gd_icmp_ge (tgt := 70) X dX4_countByMinute_5 (by decide) (fun c1 => ?_) (fun c1 => ?_)
  · have h := h.1 c1
    exact gd_vret X hR dX4_countByMinute_70 ⟨rfl, h⟩
  · have h := h.2 c1
    refine gd_iconst (v := 0) X dX4_countByMinute_8 (by decide) ?_
    refine gd_istore_n (lv' := [(3, .int 0), (0, .ref (ad 9)), (1, .ref (ad 5)), (2, .int x2)]) X dX4_countByMinute_9 (by decide) rfl ?_
    refine gd_iconst (v := 0) X dX4_countByMinute_10 (by decide) ?_
    refine gd_istore (lv' := [(4, .int 0), (3, .int 0), (0, .ref (ad 9)), (1, .ref (ad 5)), (2, .int x2)]) X dX4_countByMinute_11 (by decide) rfl ?_
    refine gd_sub [2, 3, 4, 1, 0] rfl ?_
    obtain ⟨n, h⟩ := h
    exact wL_X4_countByMinute_13 X hR hk2 n _ _ _ _ h
def P_X4_countByMinute_2 (post : SG → Prop) (n : Nat) : Int32 → SG → Prop := Nat.rec (motive := fun _ => Int32 → SG → Prop) (fun _ _ => False) (fun _ kk x2 g => B_X4_countByMinute_2 post kk x2 g) n
set_option maxRecDepth 100000 in
theorem wL_X4_countByMinute_2 {b : BX} {D : va_G} {A : Nat → Prop} {cy : Nat → ClassId} {ad : Nat → Nat} {post : SG → Prop} (X : Cx (kC b D A cy ad) cX4_countByMinute RX4 6 2 47) (hR : Rx (kC b D A cy ad) none (oV post)) : ∀ (n : Nat) (x2 : Int32) (g : SG), P_X4_countByMinute_2 post n x2 g → Gd (kC b D A cy ad) 6 2 [(0, .ref (ad 9)), (1, .ref (ad 5)), (2, .int x2)] [] g := by
  intro n
  induction n with
  | zero => intro x2 g h; exact h.elim
  | succ n ih => intro x2 g h; exact w_X4_countByMinute_2 X hR ih x2 g h
def B_X4_countByMinute_0 (post : SG → Prop) (g : SG) : Prop :=
  ∃ n : Nat, P_X4_countByMinute_2 post n 0 g
set_option maxRecDepth 100000 in
theorem w_X4_countByMinute_0 {b : BX} {D : va_G} {A : Nat → Prop} {cy : Nat → ClassId} {ad : Nat → Nat} {post : SG → Prop} (X : Cx (kC b D A cy ad) cX4_countByMinute RX4 6 2 47) (hR : Rx (kC b D A cy ad) none (oV post)) (g : SG) (h : B_X4_countByMinute_0 post g) : Gd (kC b D A cy ad) 6 0 [(0, .ref (ad 9)), (1, .ref (ad 5))] [] g := by
  unfold B_X4_countByMinute_0 at h
  refine gd_iconst (v := 0) X dX4_countByMinute_0 (by decide) ?_
  refine gd_istore_n (lv' := [(2, .int 0), (0, .ref (ad 9)), (1, .ref (ad 5))]) X dX4_countByMinute_1 (by decide) rfl ?_
  refine gd_sub [1, 2, 0] rfl ?_
  obtain ⟨n, h⟩ := h
  exact wL_X4_countByMinute_2 X hR n _ _ h
set_option maxRecDepth 100000 in
theorem c_X4_countByMinute (l : Launch) (D : va_G) (A : Nat → Prop) (cy : Nat → ClassId) (ad : Nat → Nat) (post : SG → Prop) (g : SG) (hB : B_X4_countByMinute_0 post g) : Mt l (eC D A cy ad) yX4_countByMinute cX4_countByMinute 6 none 2 47 [.ref (ad 9), .ref (ad 5)] g (oV post) := mt_of (plainFor_of_name (by decide)) (Nat.le_of_ble_eq_true rfl) (fun b X hR => w_X4_countByMinute_0 X hR g hB)
def B_X4_countByHour_81 (post : SG → Prop) (k2 : Int32 → SG → Prop) (k81 : Int32 → Int32 → Int32 → Int32 → Int32 → SG → Prop) (x2 x3 x4 x5 x6 : Int32) (g : SG) : Prop :=
  (((g 0 10) ≤ x6) → ∀ z2 : Int32, z2 = x2 + 1 → k2 z2 g) ∧ ((¬ (g 0 10) ≤ x6) → B_X0_missesOf_0 (fun r3 => ∀ z4 : Int32, z4 = (x5 + r3) → B_X0_missesOf_0 (fun r5 => ∀ z6 : Int32, z6 = (z4 - r5) → vp_in (x6 + 1) 7 ∧ (vp_in x2 192 ∧ (∀ g8 : SG, g8 = sput g (7 + ((x6 + 1).toNatClampNeg)) x2.toNatClampNeg z6 → ∀ z9 : Int32, z9 = x6 + 1 → k81 x2 x3 x4 z6 z9 g8))) x6 x4 520207 g) x6 x3 520207 g)
set_option maxRecDepth 100000 in
theorem w_X4_countByHour_81 {b : BX} {D : va_G} {A : Nat → Prop} {cy : Nat → ClassId} {ad : Nat → Nat} {post : SG → Prop} {k2 : Int32 → SG → Prop} {k81 : Int32 → Int32 → Int32 → Int32 → Int32 → SG → Prop} (X : Cx (kC b D A cy ad) cX4_countByHour RX4 7 2 47) (hR : Rx (kC b D A cy ad) none (oV post)) (hk2 : ∀ (x2 : Int32) (g : SG), k2 x2 g → Gd (kC b D A cy ad) 7 2 [(0, .ref (ad 9)), (1, .ref (ad 5)), (2, .int x2)] [] g) (hk81 : ∀ (x2 x3 x4 x5 x6 : Int32) (g : SG), k81 x2 x3 x4 x5 x6 g → Gd (kC b D A cy ad) 7 81 [(0, .ref (ad 9)), (1, .ref (ad 5)), (2, .int x2), (3, .int x3), (4, .int x4), (5, .int x5), (6, .int x6)] [] g) (x2 x3 x4 x5 x6 : Int32) (g : SG) (h : B_X4_countByHour_81 post k2 k81 x2 x3 x4 x5 x6 g) : Gd (kC b D A cy ad) 7 81 [(0, .ref (ad 9)), (1, .ref (ad 5)), (2, .int x2), (3, .int x3), (4, .int x4), (5, .int x5), (6, .int x6)] [] g := by
  unfold B_X4_countByHour_81 at h
  refine gd_iload X dX4_countByHour_81 6 rfl ?_
  refine gd_aload_n X dX4_countByHour_83 0 rfl ?_
  refine gX4_26 X dX4_countByHour_84 ?_
  refine gd_icmp_ge (tgt := 138) X dX4_countByHour_87 (by decide) (fun c1 => ?_) (fun c1 => ?_)
  · have h := h.1 c1
    refine gd_incn X 2 1 dX4_countByHour_138 rfl (by decide) (by decide) (fun z2 => [(2, .int z2), (0, .ref (ad 9)), (1, .ref (ad 5)), (3, .int x3), (4, .int x4), (5, .int x5), (6, .int x6)]) (fun _ => rfl) (fun z2 ez2 => ?_)
    have h := h z2 ez2
    refine gd_goto (tgt := 2) X dX4_countByHour_141 (by decide) ?_
    refine gd_sub [1, 2, 0] rfl ?_
    exact hk2 _ _ h
  · have h := h.2 c1
    refine gd_iload X dX4_countByHour_90 5 rfl ?_
    refine gd_aload_n X dX4_countByHour_92 1 rfl ?_
    refine gd_iload X dX4_countByHour_93 6 rfl ?_
    refine gd_iload_n X dX4_countByHour_95 3 rfl ?_
    refine gd_ldc (v := 520207) X q_307 dX4_countByHour_96 ?_
    refine gd_callVr (As := [.int x6, .int x3, .int 520207]) (rest := [.int x5]) X lk_X4_53 (c_X0_missesOf _ _ _ _ _ _ _ _ _ _ h) 5 rfl rfl ⟨by decide, by decide⟩ rfl rfl (Nat.le_of_ble_eq_true rfl) dX4_countByHour_98 (fun r3 h => ?_)
    refine gd_iadd X dX4_countByHour_101 ?_
    refine gd_topi (fun z4 ez4 => ?_)
    have h := h z4 ez4
    refine gd_istore (lv' := [(5, .int z4), (0, .ref (ad 9)), (1, .ref (ad 5)), (2, .int x2), (3, .int x3), (4, .int x4), (6, .int x6)]) X dX4_countByHour_102 (by decide) rfl ?_
    refine gd_iload X dX4_countByHour_104 0 rfl ?_
    refine gd_aload_n X dX4_countByHour_106 2 rfl ?_
    refine gd_iload X dX4_countByHour_107 6 rfl ?_
    refine gd_iload X dX4_countByHour_109 5 rfl ?_
    refine gd_ldc (v := 520207) X q_307 dX4_countByHour_111 ?_
    refine gd_callVr (As := [.int x6, .int x4, .int 520207]) (rest := [.int z4]) X lk_X4_53 (c_X0_missesOf _ _ _ _ _ _ _ _ _ _ h) 5 rfl rfl ⟨by decide, by decide⟩ rfl rfl (Nat.le_of_ble_eq_true rfl) dX4_countByHour_113 (fun r5 h => ?_)
    refine gd_isub X dX4_countByHour_116 ?_
    refine gd_topi (fun z6 ez6 => ?_)
    have h := h z6 ez6
    refine gd_istore (lv' := [(5, .int z6), (0, .ref (ad 9)), (1, .ref (ad 5)), (2, .int x2), (3, .int x3), (4, .int x4), (6, .int x6)]) X dX4_countByHour_117 (by decide) rfl ?_
    refine gd_aload_n X dX4_countByHour_119 1 rfl ?_
    refine gX4_17 X dX4_countByHour_120 ?_
    refine gd_iload X dX4_countByHour_123 6 rfl ?_
    refine gd_iconst (v := 1) X dX4_countByHour_125 (by decide) ?_
    refine gd_iadd X dX4_countByHour_126 ?_
    have hi7 := h.1
    refine aa_rows X hi7 dX4_countByHour_127 ?_
    have h := h.2
    refine gd_iload_n X dX4_countByHour_128 3 rfl ?_
    refine gd_iload X dX4_countByHour_129 0 rfl ?_
    refine as_row ((x6 + 1).toNatClampNeg) (vp_clt hi7) X h.1 dX4_countByHour_131 (fun g8 eg8 => ?_)
    have h := h.2 g8 eg8
    refine gd_incn X 6 1 dX4_countByHour_132 rfl (by decide) (by decide) (fun z9 => [(6, .int z9), (5, .int z6), (0, .ref (ad 9)), (1, .ref (ad 5)), (2, .int x2), (3, .int x3), (4, .int x4)]) (fun _ => rfl) (fun z9 ez9 => ?_)
    have h := h z9 ez9
    refine gd_goto (tgt := 81) X dX4_countByHour_135 (by decide) ?_
    refine gd_sub [2, 3, 4, 5, 6, 1, 0] rfl ?_
    exact hk81 _ _ _ _ _ _ h
def P_X4_countByHour_81 (post : SG → Prop) (k2 : Int32 → SG → Prop) (n : Nat) : Int32 → Int32 → Int32 → Int32 → Int32 → SG → Prop := Nat.rec (motive := fun _ => Int32 → Int32 → Int32 → Int32 → Int32 → SG → Prop) (fun _ _ _ _ _ _ => False) (fun _ kk x2 x3 x4 x5 x6 g => B_X4_countByHour_81 post k2 kk x2 x3 x4 x5 x6 g) n
set_option maxRecDepth 100000 in
theorem wL_X4_countByHour_81 {b : BX} {D : va_G} {A : Nat → Prop} {cy : Nat → ClassId} {ad : Nat → Nat} {post : SG → Prop} {k2 : Int32 → SG → Prop} (X : Cx (kC b D A cy ad) cX4_countByHour RX4 7 2 47) (hR : Rx (kC b D A cy ad) none (oV post)) (hk2 : ∀ (x2 : Int32) (g : SG), k2 x2 g → Gd (kC b D A cy ad) 7 2 [(0, .ref (ad 9)), (1, .ref (ad 5)), (2, .int x2)] [] g) : ∀ (n : Nat) (x2 x3 x4 x5 x6 : Int32) (g : SG), P_X4_countByHour_81 post k2 n x2 x3 x4 x5 x6 g → Gd (kC b D A cy ad) 7 81 [(0, .ref (ad 9)), (1, .ref (ad 5)), (2, .int x2), (3, .int x3), (4, .int x4), (5, .int x5), (6, .int x6)] [] g := by
  intro n
  induction n with
  | zero => intro x2 x3 x4 x5 x6 g h; exact h.elim
  | succ n ih => intro x2 x3 x4 x5 x6 g h; exact w_X4_countByHour_81 X hR hk2 ih x2 x3 x4 x5 x6 g h
def B_X4_countByHour_38 (post : SG → Prop) (k2 : Int32 → SG → Prop) (k38 : Int32 → Int32 → Int32 → Int32 → Int32 → SG → Prop) (x2 x3 x4 x5 x6 : Int32) (g : SG) : Prop :=
  (((g 0 10) ≤ x6) → vp_in (0 : Int32) 7 ∧ (vp_in x2 192 ∧ (∀ g3 : SG, g3 = sput g (7 + ((0 : Int32).toNatClampNeg)) x2.toNatClampNeg x5 → ∃ n : Nat, P_X4_countByHour_81 post k2 n x2 x3 x4 x5 0 g3))) ∧ ((¬ (g 0 10) ≤ x6) → B_X0_missesOf_0 (fun r4 => ∀ z5 : Int32, z5 = (x5 + r4) → ∀ z6 : Int32, z6 = x6 + 1 → k38 x2 x3 x4 z5 z6 g) x6 x4 520207 g)
set_option maxRecDepth 100000 in
theorem w_X4_countByHour_38 {b : BX} {D : va_G} {A : Nat → Prop} {cy : Nat → ClassId} {ad : Nat → Nat} {post : SG → Prop} {k2 : Int32 → SG → Prop} {k38 : Int32 → Int32 → Int32 → Int32 → Int32 → SG → Prop} (X : Cx (kC b D A cy ad) cX4_countByHour RX4 7 2 47) (hR : Rx (kC b D A cy ad) none (oV post)) (hk2 : ∀ (x2 : Int32) (g : SG), k2 x2 g → Gd (kC b D A cy ad) 7 2 [(0, .ref (ad 9)), (1, .ref (ad 5)), (2, .int x2)] [] g) (hk38 : ∀ (x2 x3 x4 x5 x6 : Int32) (g : SG), k38 x2 x3 x4 x5 x6 g → Gd (kC b D A cy ad) 7 38 [(0, .ref (ad 9)), (1, .ref (ad 5)), (2, .int x2), (3, .int x3), (4, .int x4), (5, .int x5), (6, .int x6)] [] g) (x2 x3 x4 x5 x6 : Int32) (g : SG) (h : B_X4_countByHour_38 post k2 k38 x2 x3 x4 x5 x6 g) : Gd (kC b D A cy ad) 7 38 [(0, .ref (ad 9)), (1, .ref (ad 5)), (2, .int x2), (3, .int x3), (4, .int x4), (5, .int x5), (6, .int x6)] [] g := by
  unfold B_X4_countByHour_38 at h
  refine gd_iload X dX4_countByHour_38 6 rfl ?_
  refine gd_aload_n X dX4_countByHour_40 0 rfl ?_
  refine gX4_26 X dX4_countByHour_41 ?_
  refine gd_icmp_ge (tgt := 68) X dX4_countByHour_44 (by decide) (fun c1 => ?_) (fun c1 => ?_)
  · have h := h.1 c1
    refine gd_aload_n X dX4_countByHour_68 0 rfl ?_
    refine gX4_17 X dX4_countByHour_69 ?_
    refine gd_iconst (v := 0) X dX4_countByHour_72 (by decide) ?_
    have hi2 := h.1
    refine aa_rows X hi2 dX4_countByHour_73 ?_
    have h := h.2
    refine gd_iload_n X dX4_countByHour_74 2 rfl ?_
    refine gd_iload X dX4_countByHour_75 5 rfl ?_
    refine as_row ((0 : Int32).toNatClampNeg) (vp_clt hi2) X h.1 dX4_countByHour_77 (fun g3 eg3 => ?_)
    have h := h.2 g3 eg3
    refine gd_iconst (v := 0) X dX4_countByHour_78 (by decide) ?_
    refine gd_istore (lv' := [(6, .int 0), (0, .ref (ad 9)), (1, .ref (ad 5)), (2, .int x2), (3, .int x3), (4, .int x4), (5, .int x5)]) X dX4_countByHour_79 (by decide) rfl ?_
    refine gd_sub [1, 2, 3, 4, 5, 6, 0] rfl ?_
    obtain ⟨n, h⟩ := h
    exact wL_X4_countByHour_81 X hR hk2 n _ _ _ _ _ _ h
  · have h := h.2 c1
    refine gd_iload X dX4_countByHour_47 5 rfl ?_
    refine gd_aload_n X dX4_countByHour_49 1 rfl ?_
    refine gd_iload X dX4_countByHour_50 6 rfl ?_
    refine gd_iload X dX4_countByHour_52 4 rfl ?_
    refine gd_ldc (v := 520207) X q_307 dX4_countByHour_54 ?_
    refine gd_callVr (As := [.int x6, .int x4, .int 520207]) (rest := [.int x5]) X lk_X4_53 (c_X0_missesOf _ _ _ _ _ _ _ _ _ _ h) 5 rfl rfl ⟨by decide, by decide⟩ rfl rfl (Nat.le_of_ble_eq_true rfl) dX4_countByHour_56 (fun r4 h => ?_)
    refine gd_iadd X dX4_countByHour_59 ?_
    refine gd_topi (fun z5 ez5 => ?_)
    have h := h z5 ez5
    refine gd_istore (lv' := [(5, .int z5), (0, .ref (ad 9)), (1, .ref (ad 5)), (2, .int x2), (3, .int x3), (4, .int x4), (6, .int x6)]) X dX4_countByHour_60 (by decide) rfl ?_
    refine gd_incn X 6 1 dX4_countByHour_62 rfl (by decide) (by decide) (fun z6 => [(6, .int z6), (5, .int z5), (0, .ref (ad 9)), (1, .ref (ad 5)), (2, .int x2), (3, .int x3), (4, .int x4)]) (fun _ => rfl) (fun z6 ez6 => ?_)
    have h := h z6 ez6
    refine gd_goto (tgt := 38) X dX4_countByHour_65 (by decide) ?_
    refine gd_sub [2, 3, 4, 5, 6, 1, 0] rfl ?_
    exact hk38 _ _ _ _ _ _ h
def P_X4_countByHour_38 (post : SG → Prop) (k2 : Int32 → SG → Prop) (n : Nat) : Int32 → Int32 → Int32 → Int32 → Int32 → SG → Prop := Nat.rec (motive := fun _ => Int32 → Int32 → Int32 → Int32 → Int32 → SG → Prop) (fun _ _ _ _ _ _ => False) (fun _ kk x2 x3 x4 x5 x6 g => B_X4_countByHour_38 post k2 kk x2 x3 x4 x5 x6 g) n
set_option maxRecDepth 100000 in
theorem wL_X4_countByHour_38 {b : BX} {D : va_G} {A : Nat → Prop} {cy : Nat → ClassId} {ad : Nat → Nat} {post : SG → Prop} {k2 : Int32 → SG → Prop} (X : Cx (kC b D A cy ad) cX4_countByHour RX4 7 2 47) (hR : Rx (kC b D A cy ad) none (oV post)) (hk2 : ∀ (x2 : Int32) (g : SG), k2 x2 g → Gd (kC b D A cy ad) 7 2 [(0, .ref (ad 9)), (1, .ref (ad 5)), (2, .int x2)] [] g) : ∀ (n : Nat) (x2 x3 x4 x5 x6 : Int32) (g : SG), P_X4_countByHour_38 post k2 n x2 x3 x4 x5 x6 g → Gd (kC b D A cy ad) 7 38 [(0, .ref (ad 9)), (1, .ref (ad 5)), (2, .int x2), (3, .int x3), (4, .int x4), (5, .int x5), (6, .int x6)] [] g := by
  intro n
  induction n with
  | zero => intro x2 x3 x4 x5 x6 g h; exact h.elim
  | succ n ih => intro x2 x3 x4 x5 x6 g h; exact w_X4_countByHour_38 X hR hk2 ih x2 x3 x4 x5 x6 g h
def B_X4_countByHour_2 (post : SG → Prop) (k2 : Int32 → SG → Prop) (x2 : Int32) (g : SG) : Prop :=
  ((192 ≤ x2) → post g) ∧ ((¬ 192 ≤ x2) → B_X4_timeAt_0 (fun r2 => B_X3_bitsOf_0 (fun r3 => B_X4_timeAt_0 (fun r4 => B_X3_next_0 (fun r5 => B_X3_bitsOf_0 (fun r6 => ∃ n : Nat, P_X4_countByHour_38 post k2 n x2 r3 r6 0 0 g) r5) r4) x2 59) r2) x2 0)
set_option maxRecDepth 100000 in
theorem w_X4_countByHour_2 {b : BX} {D : va_G} {A : Nat → Prop} {cy : Nat → ClassId} {ad : Nat → Nat} {post : SG → Prop} {k2 : Int32 → SG → Prop} (X : Cx (kC b D A cy ad) cX4_countByHour RX4 7 2 47) (hR : Rx (kC b D A cy ad) none (oV post)) (hk2 : ∀ (x2 : Int32) (g : SG), k2 x2 g → Gd (kC b D A cy ad) 7 2 [(0, .ref (ad 9)), (1, .ref (ad 5)), (2, .int x2)] [] g) (x2 : Int32) (g : SG) (h : B_X4_countByHour_2 post k2 x2 g) : Gd (kC b D A cy ad) 7 2 [(0, .ref (ad 9)), (1, .ref (ad 5)), (2, .int x2)] [] g := by
  unfold B_X4_countByHour_2 at h
  refine gd_iload_n X dX4_countByHour_2 2 rfl ?_
  refine gd_sipush (v := 192) X dX4_countByHour_3 (by decide) ?_
  refine gd_icmp_ge (tgt := 144) X dX4_countByHour_6 (by decide) (fun c1 => ?_) (fun c1 => ?_)
  · have h := h.1 c1
    exact gd_vret X hR dX4_countByHour_144 ⟨rfl, h⟩
  · have h := h.2 c1
    refine gd_iload_n X dX4_countByHour_9 2 rfl ?_
    refine gd_iconst (v := 0) X dX4_countByHour_10 (by decide) ?_
    refine gd_callSr (As := [.int x2, .int 0]) (rest := []) X lk_X4_57 (c_X4_timeAt _ _ _ _ _ _ h) ⟨by decide, by decide⟩ rfl rfl (Nat.le_of_ble_eq_true rfl) dX4_countByHour_11 (fun r2 h => ?_)
    refine gd_callSr (As := [.int r2]) (rest := []) X lk_X4_49 (c_X3_bitsOf _ _ _ _ _ h) ⟨by decide, by decide⟩ rfl rfl (Nat.le_of_ble_eq_true rfl) dX4_countByHour_14 (fun r3 h => ?_)
    refine gd_istore_n (lv' := [(3, .int r3), (0, .ref (ad 9)), (1, .ref (ad 5)), (2, .int x2)]) X dX4_countByHour_17 (by decide) rfl ?_
    refine gd_iload_n X dX4_countByHour_18 3 rfl ?_
    refine gd_bipush (v := 59) X dX4_countByHour_19 (by decide) ?_
    refine gd_callSr (As := [.int x2, .int 59]) (rest := []) X lk_X4_57 (c_X4_timeAt _ _ _ _ _ _ h) ⟨by decide, by decide⟩ rfl rfl (Nat.le_of_ble_eq_true rfl) dX4_countByHour_21 (fun r4 h => ?_)
    refine gd_callSr (As := [.int r4]) (rest := []) X lk_X4_60 (c_X3_next _ _ _ _ _ h) ⟨by decide, by decide⟩ rfl rfl (Nat.le_of_ble_eq_true rfl) dX4_countByHour_24 (fun r5 h => ?_)
    refine gd_callSr (As := [.int r5]) (rest := []) X lk_X4_49 (c_X3_bitsOf _ _ _ _ _ h) ⟨by decide, by decide⟩ rfl rfl (Nat.le_of_ble_eq_true rfl) dX4_countByHour_27 (fun r6 h => ?_)
    refine gd_istore (lv' := [(4, .int r6), (3, .int r3), (0, .ref (ad 9)), (1, .ref (ad 5)), (2, .int x2)]) X dX4_countByHour_30 (by decide) rfl ?_
    refine gd_iconst (v := 0) X dX4_countByHour_32 (by decide) ?_
    refine gd_istore (lv' := [(5, .int 0), (4, .int r6), (3, .int r3), (0, .ref (ad 9)), (1, .ref (ad 5)), (2, .int x2)]) X dX4_countByHour_33 (by decide) rfl ?_
    refine gd_iconst (v := 0) X dX4_countByHour_35 (by decide) ?_
    refine gd_istore (lv' := [(6, .int 0), (5, .int 0), (4, .int r6), (3, .int r3), (0, .ref (ad 9)), (1, .ref (ad 5)), (2, .int x2)]) X dX4_countByHour_36 (by decide) rfl ?_
    refine gd_sub [4, 5, 6, 3, 2, 1, 0] rfl ?_
    obtain ⟨n, h⟩ := h
    exact wL_X4_countByHour_38 X hR hk2 n _ _ _ _ _ _ h
def P_X4_countByHour_2 (post : SG → Prop) (n : Nat) : Int32 → SG → Prop := Nat.rec (motive := fun _ => Int32 → SG → Prop) (fun _ _ => False) (fun _ kk x2 g => B_X4_countByHour_2 post kk x2 g) n
set_option maxRecDepth 100000 in
theorem wL_X4_countByHour_2 {b : BX} {D : va_G} {A : Nat → Prop} {cy : Nat → ClassId} {ad : Nat → Nat} {post : SG → Prop} (X : Cx (kC b D A cy ad) cX4_countByHour RX4 7 2 47) (hR : Rx (kC b D A cy ad) none (oV post)) : ∀ (n : Nat) (x2 : Int32) (g : SG), P_X4_countByHour_2 post n x2 g → Gd (kC b D A cy ad) 7 2 [(0, .ref (ad 9)), (1, .ref (ad 5)), (2, .int x2)] [] g := by
  intro n
  induction n with
  | zero => intro x2 g h; exact h.elim
  | succ n ih => intro x2 g h; exact w_X4_countByHour_2 X hR ih x2 g h
def B_X4_countByHour_0 (post : SG → Prop) (g : SG) : Prop :=
  ∃ n : Nat, P_X4_countByHour_2 post n 0 g
set_option maxRecDepth 100000 in
theorem w_X4_countByHour_0 {b : BX} {D : va_G} {A : Nat → Prop} {cy : Nat → ClassId} {ad : Nat → Nat} {post : SG → Prop} (X : Cx (kC b D A cy ad) cX4_countByHour RX4 7 2 47) (hR : Rx (kC b D A cy ad) none (oV post)) (g : SG) (h : B_X4_countByHour_0 post g) : Gd (kC b D A cy ad) 7 0 [(0, .ref (ad 9)), (1, .ref (ad 5))] [] g := by
  unfold B_X4_countByHour_0 at h
  refine gd_iconst (v := 0) X dX4_countByHour_0 (by decide) ?_
  refine gd_istore_n (lv' := [(2, .int 0), (0, .ref (ad 9)), (1, .ref (ad 5))]) X dX4_countByHour_1 (by decide) rfl ?_
  refine gd_sub [1, 2, 0] rfl ?_
  obtain ⟨n, h⟩ := h
  exact wL_X4_countByHour_2 X hR n _ _ h
set_option maxRecDepth 100000 in
theorem c_X4_countByHour (l : Launch) (D : va_G) (A : Nat → Prop) (cy : Nat → ClassId) (ad : Nat → Nat) (post : SG → Prop) (g : SG) (hB : B_X4_countByHour_0 post g) : Mt l (eC D A cy ad) yX4_countByHour cX4_countByHour 7 none 2 47 [.ref (ad 9), .ref (ad 5)] g (oV post) := mt_of (plainFor_of_name (by decide)) (Nat.le_of_ble_eq_true rfl) (fun b X hR => w_X4_countByHour_0 X hR g hB)
def B_X4_missesAt_0 (post : Int32 → Prop) (x1 : Int32) (g : SG) : Prop :=
  B_X3_minuteOf_0 (fun r1 => ∀ z2 : Int32, z2 = (jrem r1 60) → ∀ z3 : Int32, z3 = (((x1 / 480) * 8) + (jrem x1 8)) → vp_in z2 60 ∧ (B_J9_min_7cf53_0 (fun r4 => vp_in r4 7 ∧ (vp_in z3 192 ∧ (∀ z6 : Int32, z6 = ((g 6 z2.toNatClampNeg) + (g (7 + (r4.toNatClampNeg)) z3.toNatClampNeg)) → post z6))) (g 0 10) (60 - z2))) x1
set_option maxRecDepth 100000 in
theorem w_X4_missesAt_0 {b : BX} {D : va_G} {A : Nat → Prop} {cy : Nat → ClassId} {ad : Nat → Nat} {g : SG} {post : Int32 → Prop} (X : Cx (kC b D A cy ad) cX4_missesAt RX4 4 1 21) (hR : Rx (kC b D A cy ad) (some .int) (oR g post)) (x1 : Int32) (h : B_X4_missesAt_0 post x1 g) : Gd (kC b D A cy ad) 4 0 [(0, .ref (ad 9)), (1, .int x1)] [] g := by
  unfold B_X4_missesAt_0 at h
  refine gd_iload_n X dX4_missesAt_0 1 rfl ?_
  refine gd_callSr (As := [.int x1]) (rest := []) X lk_X4_64 (c_X3_minuteOf _ _ _ _ _ h) ⟨by decide, by decide⟩ rfl rfl (Nat.le_of_ble_eq_true rfl) dX4_missesAt_1 (fun r1 h => ?_)
  refine gd_bipush (v := 60) X dX4_missesAt_4 (by decide) ?_
  refine gd_jrem X dX4_missesAt_6 (by decide) ?_
  refine gd_topi (fun z2 ez2 => ?_)
  have h := h z2 ez2
  refine gd_istore_n (lv' := [(2, .int z2), (0, .ref (ad 9)), (1, .int x1)]) X dX4_missesAt_7 (by decide) rfl ?_
  refine gd_iload_n X dX4_missesAt_8 2 rfl ?_
  refine gd_sipush (v := 480) X dX4_missesAt_9 (by decide) ?_
  refine gd_idiv X dX4_missesAt_12 (by decide) ?_
  refine gd_bipush (v := 8) X dX4_missesAt_13 (by decide) ?_
  refine gd_imul X dX4_missesAt_15 ?_
  refine gd_iload_n X dX4_missesAt_16 2 rfl ?_
  refine gd_bipush (v := 8) X dX4_missesAt_17 (by decide) ?_
  refine gd_jrem X dX4_missesAt_19 (by decide) ?_
  refine gd_iadd X dX4_missesAt_20 ?_
  refine gd_topi (fun z3 ez3 => ?_)
  have h := h z3 ez3
  refine gd_istore_n (lv' := [(3, .int z3), (2, .int z2), (0, .ref (ad 9)), (1, .int x1)]) X dX4_missesAt_21 (by decide) rfl ?_
  refine gd_aload_n X dX4_missesAt_22 2 rfl ?_
  refine gX4_9 X dX4_missesAt_23 ?_
  refine gd_iload_n X dX4_missesAt_26 1 rfl ?_
  refine al_C10 X h.1 _ rfl dX4_missesAt_27 ?_
  have h := h.2
  refine gd_aload_n X dX4_missesAt_28 2 rfl ?_
  refine gX4_17 X dX4_missesAt_29 ?_
  refine gd_aload_n X dX4_missesAt_32 2 rfl ?_
  refine gX4_26 X dX4_missesAt_33 ?_
  refine gd_bipush (v := 60) X dX4_missesAt_36 (by decide) ?_
  refine gd_iload_n X dX4_missesAt_38 1 rfl ?_
  refine gd_isub X dX4_missesAt_39 ?_
  refine gd_callSr (As := [.int ((g 0 10)), .int ((60 - z2))]) (rest := [.ref (ad 11), .int ((g 6 z2.toNatClampNeg))]) X lk_X4_67 (c_J9_min_7cf53 _ _ _ _ _ _ h) ⟨by decide, by decide⟩ rfl rfl (Nat.le_of_ble_eq_true rfl) dX4_missesAt_40 (fun r4 h => ?_)
  have hi5 := h.1
  refine aa_rows X hi5 dX4_missesAt_43 ?_
  have h := h.2
  refine gd_iload_n X dX4_missesAt_44 0 rfl ?_
  refine al_row (r4.toNatClampNeg) (vp_clt hi5) X h.1 dX4_missesAt_45 ?_
  have h := h.2
  refine gd_iadd X dX4_missesAt_46 ?_
  refine gd_topi (fun z6 ez6 => ?_)
  have h := h z6 ez6
  exact gd_iret X hR dX4_missesAt_47 ⟨_, rfl, rfl, h⟩
set_option maxRecDepth 100000 in
theorem c_X4_missesAt (l : Launch) (D : va_G) (A : Nat → Prop) (cy : Nat → ClassId) (ad : Nat → Nat) (post : Int32 → Prop) (x1 : Int32) (g : SG) (hB : B_X4_missesAt_0 post x1 g) : Mt l (eC D A cy ad) yX4_missesAt cX4_missesAt 4 (some .int) 1 21 [.ref (ad 9), .int x1] g (oR g post) := mt_of (plainFor_of_name (by decide)) (Nat.le_of_ble_eq_true rfl) (fun b X hR => w_X4_missesAt_0 X hR x1 hB)
def B_X4_choose_65 (post : SG → Prop) (k19 : Int32 → Int32 → SG → Prop) (x1 x2 x3 : Int32) (g : SG) : Prop :=
  ∀ z1 : Int32, z1 = x2 + 1 → k19 x1 z1 g
set_option maxRecDepth 100000 in
theorem w_X4_choose_65 {b : BX} {D : va_G} {A : Nat → Prop} {cy : Nat → ClassId} {ad : Nat → Nat} {post : SG → Prop} {k19 : Int32 → Int32 → SG → Prop} (X : Cx (kC b D A cy ad) cX4_choose RX4 4 2 44) (hR : Rx (kC b D A cy ad) none (oV post)) (hk19 : ∀ (x1 x2 : Int32) (g : SG), k19 x1 x2 g → Gd (kC b D A cy ad) 4 19 [(0, .ref (ad 9)), (1, .int x1), (2, .int x2)] [] g) (x1 x2 x3 : Int32) (g : SG) (h : B_X4_choose_65 post k19 x1 x2 x3 g) : Gd (kC b D A cy ad) 4 65 [(0, .ref (ad 9)), (1, .int x1), (2, .int x2), (3, .int x3)] [] g := by
  unfold B_X4_choose_65 at h
  refine gd_incn X 2 1 dX4_choose_65 rfl (by decide) (by decide) (fun z1 => [(2, .int z1), (0, .ref (ad 9)), (1, .int x1), (3, .int x3)]) (fun _ => rfl) (fun z1 ez1 => ?_)
  have h := h z1 ez1
  refine gd_goto (tgt := 19) X dX4_choose_68 (by decide) ?_
  refine gd_sub [1, 2, 0] rfl ?_
  exact hk19 _ _ _ h
def B_X4_choose_19 (post : SG → Prop) (k19 : Int32 → Int32 → SG → Prop) (x1 x2 : Int32) (g : SG) : Prop :=
  ((11520 ≤ x2) → ∀ g2 : SG, g2 = sput g 0 8 (x1 - (g 0 7)) → post g2) ∧ ((¬ 11520 ≤ x2) → B_X4_missesAt_0 (fun r3 => (((g 0 7) ≤ r3) → ((x1 ≤ r3) → B_X4_choose_65 post k19 x1 x2 r3 g) ∧ ((¬ x1 ≤ r3) → B_X4_choose_65 post k19 r3 x2 r3 g)) ∧ ((¬ (g 0 7) ≤ r3) → ∀ z6 : Int32, z6 = (g 0 7) → ∀ g7 : SG, g7 = sput g 0 7 r3 → ∀ g8 : SG, g8 = sput g7 0 6 x2 → B_X4_choose_65 post k19 z6 x2 r3 g8)) x2 g)
set_option maxRecDepth 100000 in
theorem w_X4_choose_19 {b : BX} {D : va_G} {A : Nat → Prop} {cy : Nat → ClassId} {ad : Nat → Nat} {post : SG → Prop} {k19 : Int32 → Int32 → SG → Prop} (X : Cx (kC b D A cy ad) cX4_choose RX4 4 2 44) (hR : Rx (kC b D A cy ad) none (oV post)) (hk19 : ∀ (x1 x2 : Int32) (g : SG), k19 x1 x2 g → Gd (kC b D A cy ad) 4 19 [(0, .ref (ad 9)), (1, .int x1), (2, .int x2)] [] g) (x1 x2 : Int32) (g : SG) (h : B_X4_choose_19 post k19 x1 x2 g) : Gd (kC b D A cy ad) 4 19 [(0, .ref (ad 9)), (1, .int x1), (2, .int x2)] [] g := by
  unfold B_X4_choose_19 at h
  refine gd_iload_n X dX4_choose_19 2 rfl ?_
  refine gd_sipush (v := 11520) X dX4_choose_20 (by decide) ?_
  refine gd_icmp_ge (tgt := 71) X dX4_choose_23 (by decide) (fun c1 => ?_) (fun c1 => ?_)
  · have h := h.1 c1
    refine gd_aload_n X dX4_choose_71 0 rfl ?_
    refine gd_iload_n X dX4_choose_72 1 rfl ?_
    refine gd_aload_n X dX4_choose_73 0 rfl ?_
    refine gX4_75 X dX4_choose_74 ?_
    refine gd_isub X dX4_choose_77 ?_
    refine pX4_78 X dX4_choose_78 (fun g2 eg2 => ?_)
    have h := h g2 eg2
    exact gd_vret X hR dX4_choose_81 ⟨rfl, h⟩
  · have h := h.2 c1
    refine gd_aload_n X dX4_choose_26 0 rfl ?_
    refine gd_iload_n X dX4_choose_27 2 rfl ?_
    refine gd_callVr (As := [.int x2]) (rest := []) X lk_X4_72 (c_X4_missesAt _ _ _ _ _ _ _ _ h) 9 rfl rfl ⟨by decide, by decide⟩ rfl rfl (Nat.le_of_ble_eq_true rfl) dX4_choose_28 (fun r3 h => ?_)
    refine gd_istore_n (lv' := [(3, .int r3), (0, .ref (ad 9)), (1, .int x1), (2, .int x2)]) X dX4_choose_31 (by decide) rfl ?_
    refine gd_iload_n X dX4_choose_32 0 rfl ?_
    refine gd_aload_n X dX4_choose_33 1 rfl ?_
    refine gX4_75 X dX4_choose_34 ?_
    refine gd_icmp_ge (tgt := 58) X dX4_choose_37 (by decide) (fun c4 => ?_) (fun c4 => ?_)
    · have h := h.1 c4
      refine gd_iload_n X dX4_choose_58 0 rfl ?_
      refine gd_iload_n X dX4_choose_59 2 rfl ?_
      refine gd_icmp_ge (tgt := 65) X dX4_choose_60 (by decide) (fun c5 => ?_) (fun c5 => ?_)
      · have h := h.1 c5
        refine gd_sub [1, 2, 3, 0] rfl ?_
        exact w_X4_choose_65 X hR hk19 _ _ _ _ h
      · have h := h.2 c5
        refine gd_iload_n X dX4_choose_63 0 rfl ?_
        refine gd_istore_n (lv' := [(1, .int r3), (3, .int r3), (0, .ref (ad 9)), (2, .int x2)]) X dX4_choose_64 (by decide) rfl ?_
        refine gd_sub [2, 0, 3, 1] rfl ?_
        exact w_X4_choose_65 X hR hk19 _ _ _ _ h
    · have h := h.2 c4
      refine gd_aload_n X dX4_choose_40 1 rfl ?_
      refine gX4_75 X dX4_choose_41 ?_
      refine gd_topi (fun z6 ez6 => ?_)
      have h := h z6 ez6
      refine gd_istore_n (lv' := [(1, .int z6), (3, .int r3), (0, .ref (ad 9)), (2, .int x2)]) X dX4_choose_44 (by decide) rfl ?_
      refine gd_aload_n X dX4_choose_45 2 rfl ?_
      refine gd_iload_n X dX4_choose_46 1 rfl ?_
      refine pX4_75 X dX4_choose_47 (fun g7 eg7 => ?_)
      have h := h g7 eg7
      refine gd_aload_n X dX4_choose_50 2 rfl ?_
      refine gd_iload_n X dX4_choose_51 3 rfl ?_
      refine pX4_37 X dX4_choose_52 (fun g8 eg8 => ?_)
      have h := h g8 eg8
      refine gd_goto (tgt := 65) X dX4_choose_55 (by decide) ?_
      refine gd_sub [2, 0, 3, 1] rfl ?_
      exact w_X4_choose_65 X hR hk19 _ _ _ _ h
def P_X4_choose_19 (post : SG → Prop) (n : Nat) : Int32 → Int32 → SG → Prop := Nat.rec (motive := fun _ => Int32 → Int32 → SG → Prop) (fun _ _ _ => False) (fun _ kk x1 x2 g => B_X4_choose_19 post kk x1 x2 g) n
set_option maxRecDepth 100000 in
theorem wL_X4_choose_19 {b : BX} {D : va_G} {A : Nat → Prop} {cy : Nat → ClassId} {ad : Nat → Nat} {post : SG → Prop} (X : Cx (kC b D A cy ad) cX4_choose RX4 4 2 44) (hR : Rx (kC b D A cy ad) none (oV post)) : ∀ (n : Nat) (x1 x2 : Int32) (g : SG), P_X4_choose_19 post n x1 x2 g → Gd (kC b D A cy ad) 4 19 [(0, .ref (ad 9)), (1, .int x1), (2, .int x2)] [] g := by
  intro n
  induction n with
  | zero => intro x1 x2 g h; exact h.elim
  | succ n ih => intro x1 x2 g h; exact w_X4_choose_19 X hR ih x1 x2 g h
def B_X4_choose_0 (post : SG → Prop) (g : SG) : Prop :=
  ∀ g1 : SG, g1 = sput g 0 6 0 → B_X4_missesAt_0 (fun r2 => ∀ g3 : SG, g3 = sput g1 0 7 r2 → ∃ n : Nat, P_X4_choose_19 post n 115 1 g3) 0 g1
set_option maxRecDepth 100000 in
theorem w_X4_choose_0 {b : BX} {D : va_G} {A : Nat → Prop} {cy : Nat → ClassId} {ad : Nat → Nat} {post : SG → Prop} (X : Cx (kC b D A cy ad) cX4_choose RX4 4 2 44) (hR : Rx (kC b D A cy ad) none (oV post)) (g : SG) (h : B_X4_choose_0 post g) : Gd (kC b D A cy ad) 4 0 [(0, .ref (ad 9))] [] g := by
  unfold B_X4_choose_0 at h
  refine gd_aload_n X dX4_choose_0 0 rfl ?_
  refine gd_iconst (v := 0) X dX4_choose_1 (by decide) ?_
  refine pX4_37 X dX4_choose_2 (fun g1 eg1 => ?_)
  have h := h g1 eg1
  refine gd_aload_n X dX4_choose_5 0 rfl ?_
  refine gd_aload_n X dX4_choose_6 0 rfl ?_
  refine gd_iconst (v := 0) X dX4_choose_7 (by decide) ?_
  refine gd_callVr (As := [.int 0]) (rest := [.ref (ad 9)]) X lk_X4_72 (c_X4_missesAt _ _ _ _ _ _ _ _ h) 9 rfl rfl ⟨by decide, by decide⟩ rfl rfl (Nat.le_of_ble_eq_true rfl) dX4_choose_8 (fun r2 h => ?_)
  refine pX4_75 X dX4_choose_11 (fun g3 eg3 => ?_)
  have h := h g3 eg3
  refine gd_bipush (v := 115) X dX4_choose_14 (by decide) ?_
  refine gd_istore_n (lv' := [(1, .int 115), (0, .ref (ad 9))]) X dX4_choose_16 (by decide) rfl ?_
  refine gd_iconst (v := 1) X dX4_choose_17 (by decide) ?_
  refine gd_istore_n (lv' := [(2, .int 1), (1, .int 115), (0, .ref (ad 9))]) X dX4_choose_18 (by decide) rfl ?_
  refine gd_sub [2, 1, 0] rfl ?_
  obtain ⟨n, h⟩ := h
  exact wL_X4_choose_19 X hR n _ _ _ h
set_option maxRecDepth 100000 in
theorem c_X4_choose (l : Launch) (D : va_G) (A : Nat → Prop) (cy : Nat → ClassId) (ad : Nat → Nat) (post : SG → Prop) (g : SG) (hB : B_X4_choose_0 post g) : Mt l (eC D A cy ad) yX4_choose cX4_choose 4 none 2 44 [.ref (ad 9)] g (oV post) := mt_of (plainFor_of_name (by decide)) (Nat.le_of_ble_eq_true rfl) (fun b X hR => w_X4_choose_0 X hR g hB)
def B_X4_take_0 (post : SG → Prop) (g : SG) : Prop :=
  ∀ g1 : SG, g1 = sput g 0 10 (g 0 5) → B_X4_countByMinute_0 (fun g2 => B_X4_countByHour_0 (fun g3 => B_X4_choose_0 (fun g4 => B_X3_later_0 (fun r5 => ∀ g6 : SG, g6 = sput g4 0 9 r5 → post g6) (g4 0 6) ((g4 0 10) - 1)) g3) g2) g1
set_option maxRecDepth 100000 in
theorem w_X4_take_0 {b : BX} {D : va_G} {A : Nat → Prop} {cy : Nat → ClassId} {ad : Nat → Nat} {post : SG → Prop} (X : Cx (kC b D A cy ad) cX4_take RX4 2 3 73) (hR : Rx (kC b D A cy ad) none (oV post)) (g : SG) (h : B_X4_take_0 post g) : Gd (kC b D A cy ad) 2 0 [(0, .ref (ad 9)), (1, .ref (ad 5))] [] g := by
  unfold B_X4_take_0 at h
  refine gd_aload_n X dX4_take_0 0 rfl ?_
  refine gd_aload_n X dX4_take_1 1 rfl ?_
  refine gX4_20 X dX4_take_2 ?_
  refine pX4_26 X dX4_take_5 (fun g1 eg1 => ?_)
  have h := h g1 eg1
  refine gd_aload_n X dX4_take_8 0 rfl ?_
  refine gd_aload_n X dX4_take_9 1 rfl ?_
  refine gd_callVv (As := [.ref (ad 5)]) (rest := []) X lk_X4_27 (c_X4_countByMinute _ _ _ _ _ _ _ h) 9 rfl rfl ⟨by decide, by decide⟩ rfl rfl (Nat.le_of_ble_eq_true rfl) dX4_take_10 (fun g2 h => ?_)
  refine gd_aload_n X dX4_take_13 0 rfl ?_
  refine gd_aload_n X dX4_take_14 1 rfl ?_
  refine gd_callVv (As := [.ref (ad 5)]) (rest := []) X lk_X4_31 (c_X4_countByHour _ _ _ _ _ _ _ h) 9 rfl rfl ⟨by decide, by decide⟩ rfl rfl (Nat.le_of_ble_eq_true rfl) dX4_take_15 (fun g3 h => ?_)
  refine gd_aload_n X dX4_take_18 0 rfl ?_
  refine gd_callVv (As := []) (rest := []) X lk_X4_34 (c_X4_choose _ _ _ _ _ _ _ h) 9 rfl rfl ⟨by decide, by decide⟩ rfl rfl (Nat.le_of_ble_eq_true rfl) dX4_take_19 (fun g4 h => ?_)
  refine gd_aload_n X dX4_take_22 0 rfl ?_
  refine gd_aload_n X dX4_take_23 0 rfl ?_
  refine gX4_37 X dX4_take_24 ?_
  refine gd_aload_n X dX4_take_27 0 rfl ?_
  refine gX4_26 X dX4_take_28 ?_
  refine gd_iconst (v := 1) X dX4_take_31 (by decide) ?_
  refine gd_isub X dX4_take_32 ?_
  refine gd_callSr (As := [.int ((g4 0 6)), .int (((g4 0 10) - 1))]) (rest := [.ref (ad 9)]) X lk_X4_40 (c_X3_later _ _ _ _ _ _ h) ⟨by decide, by decide⟩ rfl rfl (Nat.le_of_ble_eq_true rfl) dX4_take_33 (fun r5 h => ?_)
  refine pX4_46 X dX4_take_36 (fun g6 eg6 => ?_)
  have h := h g6 eg6
  exact gd_vret X hR dX4_take_39 ⟨rfl, h⟩
set_option maxRecDepth 100000 in
theorem c_X4_take (l : Launch) (D : va_G) (A : Nat → Prop) (cy : Nat → ClassId) (ad : Nat → Nat) (post : SG → Prop) (g : SG) (hB : B_X4_take_0 post g) : Mt l (eC D A cy ad) yX4_take cX4_take 2 none 3 73 [.ref (ad 9), .ref (ad 5)] g (oV post) := mt_of (plainFor_of_name (by decide)) (Nat.le_of_ble_eq_true rfl) (fun b X hR => w_X4_take_0 X hR g hB)
def B_X4_closeCount_23 (post : Int32 → Prop) (k4 : Int32 → Int32 → Int32 → Prop) (x1 x2 x3 : Int32) (g : SG) : Prop :=
  ∀ z1 : Int32, z1 = x3 + 1 → k4 x1 x2 z1
set_option maxRecDepth 100000 in
theorem w_X4_closeCount_23 {b : BX} {D : va_G} {A : Nat → Prop} {cy : Nat → ClassId} {ad : Nat → Nat} {g : SG} {post : Int32 → Prop} {k4 : Int32 → Int32 → Int32 → Prop} (X : Cx (kC b D A cy ad) cX4_closeCount RX4 4 2 44) (hR : Rx (kC b D A cy ad) (some .int) (oR g post)) (hk4 : ∀ (x1 x2 x3 : Int32), k4 x1 x2 x3 → Gd (kC b D A cy ad) 4 4 [(0, .ref (ad 9)), (1, .int x1), (2, .int x2), (3, .int x3)] [] g) (x1 x2 x3 : Int32) (h : B_X4_closeCount_23 post k4 x1 x2 x3 g) : Gd (kC b D A cy ad) 4 23 [(0, .ref (ad 9)), (1, .int x1), (2, .int x2), (3, .int x3)] [] g := by
  unfold B_X4_closeCount_23 at h
  refine gd_incn X 3 1 dX4_closeCount_23 rfl (by decide) (by decide) (fun z1 => [(3, .int z1), (0, .ref (ad 9)), (1, .int x1), (2, .int x2)]) (fun _ => rfl) (fun z1 ez1 => ?_)
  have h := h z1 ez1
  refine gd_goto (tgt := 4) X dX4_closeCount_26 (by decide) ?_
  refine gd_sub [1, 2, 3, 0] rfl ?_
  exact hk4 _ _ _ h
def B_X4_closeCount_4 (post : Int32 → Prop) (k4 : Int32 → Int32 → Int32 → Prop) (x1 x2 x3 : Int32) (g : SG) : Prop :=
  ((11520 ≤ x3) → post x2) ∧ ((¬ 11520 ≤ x3) → B_X4_missesAt_0 (fun r2 => ((x1 < r2) → B_X4_closeCount_23 post k4 x1 x2 x3 g) ∧ ((¬ x1 < r2) → ∀ z4 : Int32, z4 = x2 + 1 → B_X4_closeCount_23 post k4 x1 z4 x3 g)) x3 g)
set_option maxRecDepth 100000 in
theorem w_X4_closeCount_4 {b : BX} {D : va_G} {A : Nat → Prop} {cy : Nat → ClassId} {ad : Nat → Nat} {g : SG} {post : Int32 → Prop} {k4 : Int32 → Int32 → Int32 → Prop} (X : Cx (kC b D A cy ad) cX4_closeCount RX4 4 2 44) (hR : Rx (kC b D A cy ad) (some .int) (oR g post)) (hk4 : ∀ (x1 x2 x3 : Int32), k4 x1 x2 x3 → Gd (kC b D A cy ad) 4 4 [(0, .ref (ad 9)), (1, .int x1), (2, .int x2), (3, .int x3)] [] g) (x1 x2 x3 : Int32) (h : B_X4_closeCount_4 post k4 x1 x2 x3 g) : Gd (kC b D A cy ad) 4 4 [(0, .ref (ad 9)), (1, .int x1), (2, .int x2), (3, .int x3)] [] g := by
  unfold B_X4_closeCount_4 at h
  refine gd_iload_n X dX4_closeCount_4 3 rfl ?_
  refine gd_sipush (v := 11520) X dX4_closeCount_5 (by decide) ?_
  refine gd_icmp_ge (tgt := 29) X dX4_closeCount_8 (by decide) (fun c1 => ?_) (fun c1 => ?_)
  · have h := h.1 c1
    refine gd_iload_n X dX4_closeCount_29 2 rfl ?_
    exact gd_iret X hR dX4_closeCount_30 ⟨_, rfl, rfl, h⟩
  · have h := h.2 c1
    refine gd_aload_n X dX4_closeCount_11 0 rfl ?_
    refine gd_iload_n X dX4_closeCount_12 3 rfl ?_
    refine gd_callVr (As := [.int x3]) (rest := []) X lk_X4_72 (c_X4_missesAt _ _ _ _ _ _ _ _ h) 9 rfl rfl ⟨by decide, by decide⟩ rfl rfl (Nat.le_of_ble_eq_true rfl) dX4_closeCount_13 (fun r2 h => ?_)
    refine gd_iload_n X dX4_closeCount_16 1 rfl ?_
    refine gd_icmp_gt (tgt := 23) X dX4_closeCount_17 (by decide) (fun c3 => ?_) (fun c3 => ?_)
    · have h := h.1 c3
      exact w_X4_closeCount_23 X hR hk4 _ _ _ h
    · have h := h.2 c3
      refine gd_incn X 2 1 dX4_closeCount_20 rfl (by decide) (by decide) (fun z4 => [(2, .int z4), (0, .ref (ad 9)), (1, .int x1), (3, .int x3)]) (fun _ => rfl) (fun z4 ez4 => ?_)
      have h := h z4 ez4
      refine gd_sub [1, 2, 0, 3] rfl ?_
      exact w_X4_closeCount_23 X hR hk4 _ _ _ h
def P_X4_closeCount_4 (post : Int32 → Prop) (g : SG) (n : Nat) : Int32 → Int32 → Int32 → Prop := Nat.rec (motive := fun _ => Int32 → Int32 → Int32 → Prop) (fun _ _ _ => False) (fun _ kk x1 x2 x3 => B_X4_closeCount_4 post kk x1 x2 x3 g) n
set_option maxRecDepth 100000 in
theorem wL_X4_closeCount_4 {b : BX} {D : va_G} {A : Nat → Prop} {cy : Nat → ClassId} {ad : Nat → Nat} {g : SG} {post : Int32 → Prop} (X : Cx (kC b D A cy ad) cX4_closeCount RX4 4 2 44) (hR : Rx (kC b D A cy ad) (some .int) (oR g post)) : ∀ (n : Nat) (x1 x2 x3 : Int32), P_X4_closeCount_4 post g n x1 x2 x3 → Gd (kC b D A cy ad) 4 4 [(0, .ref (ad 9)), (1, .int x1), (2, .int x2), (3, .int x3)] [] g := by
  intro n
  induction n with
  | zero => intro x1 x2 x3 h; exact h.elim
  | succ n ih => intro x1 x2 x3 h; exact w_X4_closeCount_4 X hR ih x1 x2 x3 h
def B_X4_closeCount_0 (post : Int32 → Prop) (x1 : Int32) (g : SG) : Prop :=
  ∃ n : Nat, P_X4_closeCount_4 post g n x1 0 0
set_option maxRecDepth 100000 in
theorem w_X4_closeCount_0 {b : BX} {D : va_G} {A : Nat → Prop} {cy : Nat → ClassId} {ad : Nat → Nat} {g : SG} {post : Int32 → Prop} (X : Cx (kC b D A cy ad) cX4_closeCount RX4 4 2 44) (hR : Rx (kC b D A cy ad) (some .int) (oR g post)) (x1 : Int32) (h : B_X4_closeCount_0 post x1 g) : Gd (kC b D A cy ad) 4 0 [(0, .ref (ad 9)), (1, .int x1)] [] g := by
  unfold B_X4_closeCount_0 at h
  refine gd_iconst (v := 0) X dX4_closeCount_0 (by decide) ?_
  refine gd_istore_n (lv' := [(2, .int 0), (0, .ref (ad 9)), (1, .int x1)]) X dX4_closeCount_1 (by decide) rfl ?_
  refine gd_iconst (v := 0) X dX4_closeCount_2 (by decide) ?_
  refine gd_istore_n (lv' := [(3, .int 0), (2, .int 0), (0, .ref (ad 9)), (1, .int x1)]) X dX4_closeCount_3 (by decide) rfl ?_
  refine gd_sub [2, 3, 1, 0] rfl ?_
  obtain ⟨n, h⟩ := h
  exact wL_X4_closeCount_4 X hR n _ _ _ h
set_option maxRecDepth 100000 in
theorem c_X4_closeCount (l : Launch) (D : va_G) (A : Nat → Prop) (cy : Nat → ClassId) (ad : Nat → Nat) (post : Int32 → Prop) (x1 : Int32) (g : SG) (hB : B_X4_closeCount_0 post x1 g) : Mt l (eC D A cy ad) yX4_closeCount cX4_closeCount 4 (some .int) 2 44 [.ref (ad 9), .int x1] g (oR g post) := mt_of (plainFor_of_name (by decide)) (Nat.le_of_ble_eq_true rfl) (fun b X hR => w_X4_closeCount_0 X hR x1 hB)
def B_X4_closeTime_34 (post : Int32 → Prop) (k5 : Int32 → Int32 → Int32 → Int32 → Prop) (x1 x2 x3 x4 : Int32) (g : SG) : Prop :=
  ∀ z1 : Int32, z1 = x4 + 1 → k5 x1 x2 x3 z1
set_option maxRecDepth 100000 in
theorem w_X4_closeTime_34 {b : BX} {D : va_G} {A : Nat → Prop} {cy : Nat → ClassId} {ad : Nat → Nat} {g : SG} {post : Int32 → Prop} {k5 : Int32 → Int32 → Int32 → Int32 → Prop} (X : Cx (kC b D A cy ad) cX4_closeTime RX4 5 2 44) (hR : Rx (kC b D A cy ad) (some .int) (oR g post)) (hk5 : ∀ (x1 x2 x3 x4 : Int32), k5 x1 x2 x3 x4 → Gd (kC b D A cy ad) 5 5 [(0, .ref (ad 9)), (1, .int x1), (2, .int x2), (3, .int x3), (4, .int x4)] [] g) (x1 x2 x3 x4 : Int32) (h : B_X4_closeTime_34 post k5 x1 x2 x3 x4 g) : Gd (kC b D A cy ad) 5 34 [(0, .ref (ad 9)), (1, .int x1), (2, .int x2), (3, .int x3), (4, .int x4)] [] g := by
  unfold B_X4_closeTime_34 at h
  refine gd_incn X 4 1 dX4_closeTime_34 rfl (by decide) (by decide) (fun z1 => [(4, .int z1), (0, .ref (ad 9)), (1, .int x1), (2, .int x2), (3, .int x3)]) (fun _ => rfl) (fun z1 ez1 => ?_)
  have h := h z1 ez1
  refine gd_goto (tgt := 5) X dX4_closeTime_37 (by decide) ?_
  refine gd_sub [1, 2, 3, 4, 0] rfl ?_
  exact hk5 _ _ _ _ h
def B_X4_closeTime_5 (post : Int32 → Prop) (k5 : Int32 → Int32 → Int32 → Int32 → Prop) (x1 x2 x3 x4 : Int32) (g : SG) : Prop :=
  ((11520 ≤ x4) → post (-9)) ∧ ((¬ 11520 ≤ x4) → B_X4_missesAt_0 (fun r2 => ((x1 < r2) → B_X4_closeTime_34 post k5 x1 x2 x3 x4 g) ∧ ((¬ x1 < r2) → ((¬ x3 = x2) → ∀ z5 : Int32, z5 = x3 + 1 → B_X4_closeTime_34 post k5 x1 x2 z5 x4 g) ∧ ((x3 = x2) → post x4))) x4 g)
set_option maxRecDepth 100000 in
theorem w_X4_closeTime_5 {b : BX} {D : va_G} {A : Nat → Prop} {cy : Nat → ClassId} {ad : Nat → Nat} {g : SG} {post : Int32 → Prop} {k5 : Int32 → Int32 → Int32 → Int32 → Prop} (X : Cx (kC b D A cy ad) cX4_closeTime RX4 5 2 44) (hR : Rx (kC b D A cy ad) (some .int) (oR g post)) (hk5 : ∀ (x1 x2 x3 x4 : Int32), k5 x1 x2 x3 x4 → Gd (kC b D A cy ad) 5 5 [(0, .ref (ad 9)), (1, .int x1), (2, .int x2), (3, .int x3), (4, .int x4)] [] g) (x1 x2 x3 x4 : Int32) (h : B_X4_closeTime_5 post k5 x1 x2 x3 x4 g) : Gd (kC b D A cy ad) 5 5 [(0, .ref (ad 9)), (1, .int x1), (2, .int x2), (3, .int x3), (4, .int x4)] [] g := by
  unfold B_X4_closeTime_5 at h
  refine gd_iload X dX4_closeTime_5 4 rfl ?_
  refine gd_sipush (v := 11520) X dX4_closeTime_7 (by decide) ?_
  refine gd_icmp_ge (tgt := 40) X dX4_closeTime_10 (by decide) (fun c1 => ?_) (fun c1 => ?_)
  · have h := h.1 c1
    refine gd_bipush (v := (-9)) X dX4_closeTime_40 (by decide) ?_
    exact gd_iret X hR dX4_closeTime_42 ⟨_, rfl, rfl, h⟩
  · have h := h.2 c1
    refine gd_aload_n X dX4_closeTime_13 0 rfl ?_
    refine gd_iload X dX4_closeTime_14 4 rfl ?_
    refine gd_callVr (As := [.int x4]) (rest := []) X lk_X4_72 (c_X4_missesAt _ _ _ _ _ _ _ _ h) 9 rfl rfl ⟨by decide, by decide⟩ rfl rfl (Nat.le_of_ble_eq_true rfl) dX4_closeTime_16 (fun r2 h => ?_)
    refine gd_iload_n X dX4_closeTime_19 1 rfl ?_
    refine gd_icmp_gt (tgt := 34) X dX4_closeTime_20 (by decide) (fun c3 => ?_) (fun c3 => ?_)
    · have h := h.1 c3
      exact w_X4_closeTime_34 X hR hk5 _ _ _ _ h
    · have h := h.2 c3
      refine gd_iload_n X dX4_closeTime_23 3 rfl ?_
      refine gd_iload_n X dX4_closeTime_24 2 rfl ?_
      refine gd_icmp_ne (tgt := 31) X dX4_closeTime_25 (by decide) (fun c4 => ?_) (fun c4 => ?_)
      · have h := h.1 c4
        refine gd_incn X 3 1 dX4_closeTime_31 rfl (by decide) (by decide) (fun z5 => [(3, .int z5), (0, .ref (ad 9)), (1, .int x1), (2, .int x2), (4, .int x4)]) (fun _ => rfl) (fun z5 ez5 => ?_)
        have h := h z5 ez5
        refine gd_sub [1, 2, 3, 0, 4] rfl ?_
        exact w_X4_closeTime_34 X hR hk5 _ _ _ _ h
      · have h := h.2 c4
        refine gd_iload X dX4_closeTime_28 4 rfl ?_
        exact gd_iret X hR dX4_closeTime_30 ⟨_, rfl, rfl, h⟩
def P_X4_closeTime_5 (post : Int32 → Prop) (g : SG) (n : Nat) : Int32 → Int32 → Int32 → Int32 → Prop := Nat.rec (motive := fun _ => Int32 → Int32 → Int32 → Int32 → Prop) (fun _ _ _ _ => False) (fun _ kk x1 x2 x3 x4 => B_X4_closeTime_5 post kk x1 x2 x3 x4 g) n
set_option maxRecDepth 100000 in
theorem wL_X4_closeTime_5 {b : BX} {D : va_G} {A : Nat → Prop} {cy : Nat → ClassId} {ad : Nat → Nat} {g : SG} {post : Int32 → Prop} (X : Cx (kC b D A cy ad) cX4_closeTime RX4 5 2 44) (hR : Rx (kC b D A cy ad) (some .int) (oR g post)) : ∀ (n : Nat) (x1 x2 x3 x4 : Int32), P_X4_closeTime_5 post g n x1 x2 x3 x4 → Gd (kC b D A cy ad) 5 5 [(0, .ref (ad 9)), (1, .int x1), (2, .int x2), (3, .int x3), (4, .int x4)] [] g := by
  intro n
  induction n with
  | zero => intro x1 x2 x3 x4 h; exact h.elim
  | succ n ih => intro x1 x2 x3 x4 h; exact w_X4_closeTime_5 X hR ih x1 x2 x3 x4 h
def B_X4_closeTime_0 (post : Int32 → Prop) (x1 x2 : Int32) (g : SG) : Prop :=
  ∃ n : Nat, P_X4_closeTime_5 post g n x1 x2 0 0
set_option maxRecDepth 100000 in
theorem w_X4_closeTime_0 {b : BX} {D : va_G} {A : Nat → Prop} {cy : Nat → ClassId} {ad : Nat → Nat} {g : SG} {post : Int32 → Prop} (X : Cx (kC b D A cy ad) cX4_closeTime RX4 5 2 44) (hR : Rx (kC b D A cy ad) (some .int) (oR g post)) (x1 x2 : Int32) (h : B_X4_closeTime_0 post x1 x2 g) : Gd (kC b D A cy ad) 5 0 [(0, .ref (ad 9)), (1, .int x1), (2, .int x2)] [] g := by
  unfold B_X4_closeTime_0 at h
  refine gd_iconst (v := 0) X dX4_closeTime_0 (by decide) ?_
  refine gd_istore_n (lv' := [(3, .int 0), (0, .ref (ad 9)), (1, .int x1), (2, .int x2)]) X dX4_closeTime_1 (by decide) rfl ?_
  refine gd_iconst (v := 0) X dX4_closeTime_2 (by decide) ?_
  refine gd_istore (lv' := [(4, .int 0), (3, .int 0), (0, .ref (ad 9)), (1, .int x1), (2, .int x2)]) X dX4_closeTime_3 (by decide) rfl ?_
  refine gd_sub [2, 3, 4, 1, 0] rfl ?_
  obtain ⟨n, h⟩ := h
  exact wL_X4_closeTime_5 X hR n _ _ _ _ h
set_option maxRecDepth 100000 in
theorem c_X4_closeTime (l : Launch) (D : va_G) (A : Nat → Prop) (cy : Nat → ClassId) (ad : Nat → Nat) (post : Int32 → Prop) (x1 x2 : Int32) (g : SG) (hB : B_X4_closeTime_0 post x1 x2 g) : Mt l (eC D A cy ad) yX4_closeTime cX4_closeTime 5 (some .int) 2 44 [.ref (ad 9), .int x1, .int x2] g (oR g post) := mt_of (plainFor_of_name (by decide)) (Nat.le_of_ble_eq_true rfl) (fun b X hR => w_X4_closeTime_0 X hR x1 x2 hB)
