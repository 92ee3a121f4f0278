def B_X5_rowChanged_0 (post : SG → Prop) (g : SG) : Prop :=
  ∀ g1 : SG, g1 = sput g 0 0 0 → ∀ g2 : SG, g2 = sput g1 0 1 0 → post g2
set_option maxRecDepth 100000 in
theorem w_X5_rowChanged_0 {b : BX} {D : va_G} {A : Nat → Prop} {cy : Nat → ClassId} {ad : Nat → Nat} {post : SG → Prop} (X : Cx (kC b D A cy ad) cX5_rowChanged RX5 1 0 0) (hR : Rx (kC b D A cy ad) none (oV post)) (g : SG) (h : B_X5_rowChanged_0 post g) : Gd (kC b D A cy ad) 1 0 [(0, .ref (ad 0))] [] g := by
  unfold B_X5_rowChanged_0 at h
  refine gd_aload_n X dX5_rowChanged_0 0 rfl ?_
  refine gd_iconst (v := 0) X dX5_rowChanged_1 (by decide) ?_
  refine pX5_188 X rfl rfl dX5_rowChanged_2 (fun g1 eg1 => ?_)
  have h := h g1 eg1
  refine gd_aload_n X dX5_rowChanged_5 0 rfl ?_
  refine gd_iconst (v := 0) X dX5_rowChanged_6 (by decide) ?_
  refine pX5_192 X rfl rfl dX5_rowChanged_7 (fun g2 eg2 => ?_)
  have h := h g2 eg2
  exact gd_vret X hR dX5_rowChanged_10 ⟨rfl, h⟩
set_option maxRecDepth 100000 in
theorem c_X5_rowChanged (l : Launch) (D : va_G) (A : Nat → Prop) (cy : Nat → ClassId) (ad : Nat → Nat) (post : SG → Prop) (g : SG) (hB : B_X5_rowChanged_0 post g) : Mt l (eC D A cy ad) yX5_rowChanged cX5_rowChanged 1 none 0 0 [.ref (ad 0)] g (oV post) := mt_of (plainFor_of_name (by decide)) (Nat.le_of_ble_eq_true rfl) (fun b X hR => w_X5_rowChanged_0 X hR g hB)
def B_X5_hears_10 (post : Int32 → SG → Prop) (x1 : Int32) (g : SG) : Prop :=
  post (-1) g
set_option maxRecDepth 100000 in
theorem w_X5_hears_10 {b : BX} {D : va_G} {A : Nat → Prop} {cy : Nat → ClassId} {ad : Nat → Nat} {post : Int32 → SG → Prop} (X : Cx (kC b D A cy ad) cX5_hears RX5 2 2 43) (hR : Rx (kC b D A cy ad) (some .int) (oI post)) (x1 : Int32) (g : SG) (h : B_X5_hears_10 post x1 g) : Gd (kC b D A cy ad) 2 10 [(0, .ref (ad 0)), (1, .int x1)] [] g := by
  unfold B_X5_hears_10 at h
  refine gd_iconst (v := (-1)) X dX5_hears_10 (by decide) ?_
  exact gd_iret X hR dX5_hears_11 ⟨_, rfl, h⟩
def B_X5_hears_0 (post : Int32 → SG → Prop) (x1 : Int32) (g : SG) : Prop :=
  ((x1 < 0) → B_X5_hears_10 post x1 g) ∧ ((¬ x1 < 0) → ((x1 ≤ 30) → (((g 20 0) < 120) → B_X2_remember_0 (fun g4 => B_X5_symbolOfLength_0 (fun r5 => B_X1_append_0 (fun g6 => B_X5_rowChanged_0 (fun g7 => post (g7 20 0) g7) g6) r5 g4) x1) g) ∧ ((¬ (g 20 0) < 120) → post (-3) g)) ∧ ((¬ x1 ≤ 30) → B_X5_hears_10 post x1 g))
set_option maxRecDepth 100000 in
theorem w_X5_hears_0 {b : BX} {D : va_G} {A : Nat → Prop} {cy : Nat → ClassId} {ad : Nat → Nat} {post : Int32 → SG → Prop} (X : Cx (kC b D A cy ad) cX5_hears RX5 2 2 43) (hR : Rx (kC b D A cy ad) (some .int) (oI post)) (x1 : Int32) (g : SG) (h : B_X5_hears_0 post x1 g) : Gd (kC b D A cy ad) 2 0 [(0, .ref (ad 0)), (1, .int x1)] [] g := by
  unfold B_X5_hears_0 at h
  refine gd_iload_n X dX5_hears_0 1 rfl ?_
  refine gd_if_lt (tgt := 10) X dX5_hears_1 (by decide) (fun c1 => ?_) (fun c1 => ?_)
  · have h := h.1 c1
    exact w_X5_hears_10 X hR _ _ h
  · have h := h.2 c1
    refine gd_iload_n X dX5_hears_4 1 rfl ?_
    refine gd_bipush (v := 30) X dX5_hears_5 (by decide) ?_
    refine gd_icmp_le (tgt := 12) X dX5_hears_7 (by decide) (fun c2 => ?_) (fun c2 => ?_)
    · have h := h.1 c2
      refine gd_aload_n X dX5_hears_12 0 rfl ?_
      refine gX5_12 X dX5_hears_13 ?_
      refine gX5_45 0 (by decide) X dX5_hears_16 ?_
      refine gd_bipush (v := 120) X dX5_hears_19 (by decide) ?_
      refine gd_icmp_lt (tgt := 27) X dX5_hears_21 (by decide) (fun c3 => ?_) (fun c3 => ?_)
      · have h := h.1 c3
        refine gd_aload_n X dX5_hears_27 0 rfl ?_
        refine gX5_19 X dX5_hears_28 ?_
        refine gd_aload_n X dX5_hears_31 0 rfl ?_
        refine gX5_12 X dX5_hears_32 ?_
        refine gd_callVv (As := [.ref (ad 19)]) (rest := []) X lk_X5_49 (c_X2_remember _ _ _ _ _ _ _ h) 1 rfl rfl ⟨by decide, by decide⟩ rfl rfl (Nat.le_of_ble_eq_true rfl) dX5_hears_35 (fun g4 h => ?_)
        refine gd_aload_n X dX5_hears_38 0 rfl ?_
        refine gX5_12 X dX5_hears_39 ?_
        refine gd_iload_n X dX5_hears_42 1 rfl ?_
        refine gd_callSr (As := [.int x1]) (rest := [.ref (ad 19)]) X lk_X5_53 (c_X5_symbolOfLength _ _ _ _ _ h) ⟨by decide, by decide⟩ rfl rfl (Nat.le_of_ble_eq_true rfl) dX5_hears_43 (fun r5 h => ?_)
        refine gd_callVv (As := [.int r5]) (rest := []) X lk_X5_57 (c_X1_append _ _ _ _ _ _ _ _ h) (19 + 2 * 0) rfl (wc_held cy ad _ 0 (by decide)) ⟨by decide, by decide⟩ rfl rfl (Nat.le_of_ble_eq_true rfl) dX5_hears_46 (fun g6 h => ?_)
        refine gd_aload_n X dX5_hears_49 0 rfl ?_
        refine gd_callVv (As := []) (rest := []) X lk_X5_61 (c_X5_rowChanged _ _ _ _ _ _ _ h) 0 rfl rfl ⟨by decide, by decide⟩ rfl rfl (Nat.le_of_ble_eq_true rfl) dX5_hears_50 (fun g7 h => ?_)
        refine gd_aload_n X dX5_hears_53 0 rfl ?_
        refine gX5_12 X dX5_hears_54 ?_
        refine gX5_45 0 (by decide) X dX5_hears_57 ?_
        exact gd_iret X hR dX5_hears_60 ⟨_, rfl, h⟩
      · have h := h.2 c3
        refine gd_bipush (v := (-3)) X dX5_hears_24 (by decide) ?_
        exact gd_iret X hR dX5_hears_26 ⟨_, rfl, h⟩
    · have h := h.2 c2
      exact w_X5_hears_10 X hR _ _ h
set_option maxRecDepth 100000 in
theorem c_X5_hears (l : Launch) (D : va_G) (A : Nat → Prop) (cy : Nat → ClassId) (ad : Nat → Nat) (post : Int32 → SG → Prop) (x1 : Int32) (g : SG) (hB : B_X5_hears_0 post x1 g) : Mt l (eC D A cy ad) yX5_hears cX5_hears 2 (some .int) 2 43 [.ref (ad 0), .int x1] g (oI post) := mt_of (plainFor_of_name (by decide)) (Nat.le_of_ble_eq_true rfl) (fun b X hR => w_X5_hears_0 X hR x1 g hB)
def B_X5_frames_20 (post : Int32 → SG → Prop) (x1 x2 : Int32) (g : SG) : Prop :=
  post (-1) g
set_option maxRecDepth 100000 in
theorem w_X5_frames_20 {b : BX} {D : va_G} {A : Nat → Prop} {cy : Nat → ClassId} {ad : Nat → Nat} {post : Int32 → SG → Prop} (X : Cx (kC b D A cy ad) cX5_frames RX5 5 2 43) (hR : Rx (kC b D A cy ad) (some .int) (oI post)) (x1 x2 : Int32) (g : SG) (h : B_X5_frames_20 post x1 x2 g) : Gd (kC b D A cy ad) 5 20 [(0, .ref (ad 0)), (1, .int x1), (2, .int x2)] [] g := by
  unfold B_X5_frames_20 at h
  refine gd_iconst (v := (-1)) X dX5_frames_20 (by decide) ?_
  exact gd_iret X hR dX5_frames_21 ⟨_, rfl, h⟩
def B_X5_frames_93 (post : Int32 → SG → Prop) (k53 : Int32 → Int32 → Int32 → SG → Prop) (x1 x2 x3 x4 y0 : Int32) (g : SG) : Prop :=
  B_X1_append_0 (fun g1 => ∀ z2 : Int32, z2 = x3 + 1 → k53 x1 x2 z2 g1) y0 g
set_option maxRecDepth 100000 in
theorem w_X5_frames_93 {b : BX} {D : va_G} {A : Nat → Prop} {cy : Nat → ClassId} {ad : Nat → Nat} {post : Int32 → SG → Prop} {k53 : Int32 → Int32 → Int32 → SG → Prop} (X : Cx (kC b D A cy ad) cX5_frames RX5 5 2 43) (hR : Rx (kC b D A cy ad) (some .int) (oI post)) (hk53 : ∀ (x1 x2 x3 : Int32) (g : SG), k53 x1 x2 x3 g → Gd (kC b D A cy ad) 5 53 [(0, .ref (ad 0)), (1, .int x1), (2, .int x2), (3, .int x3)] [] g) (x1 x2 x3 x4 y0 : Int32) (g : SG) (h : B_X5_frames_93 post k53 x1 x2 x3 x4 y0 g) : Gd (kC b D A cy ad) 5 93 [(0, .ref (ad 0)), (1, .int x1), (2, .int x2), (3, .int x3), (4, .int x4)] [.int y0, .ref (ad 19)] g := by
  unfold B_X5_frames_93 at h
  refine gd_callVv (As := [.int y0]) (rest := []) X lk_X5_57 (c_X1_append _ _ _ _ _ _ _ _ h) (19 + 2 * 0) rfl (wc_held cy ad _ 0 (by decide)) ⟨by decide, by decide⟩ rfl rfl (Nat.le_of_ble_eq_true rfl) dX5_frames_93 (fun g1 h => ?_)
  refine gd_incn X 3 1 dX5_frames_96 rfl (by decide) (by decide) (fun z2 => [(3, .int z2), (0, .ref (ad 0)), (1, .int x1), (2, .int x2), (4, .int x4)]) (fun _ => rfl) (fun z2 ez2 => ?_)
  have h := h z2 ez2
  refine gd_goto (tgt := 53) X dX5_frames_99 (by decide) ?_
  refine gd_sub [1, 2, 3, 0] rfl ?_
  exact hk53 _ _ _ _ h
def B_X5_frames_73 (post : Int32 → SG → Prop) (k53 : Int32 → Int32 → Int32 → SG → Prop) (x1 x2 x3 y0 : Int32) (g : SG) : Prop :=
  ((y0 = 0) → B_X5_frames_93 post k53 x1 x2 x3 y0 (((jshr x1 x3) &&& 1)) g) ∧ ((¬ y0 = 0) → B_X5_frames_93 post k53 x1 x2 x3 y0 2 g)
set_option maxRecDepth 100000 in
theorem w_X5_frames_73 {b : BX} {D : va_G} {A : Nat → Prop} {cy : Nat → ClassId} {ad : Nat → Nat} {post : Int32 → SG → Prop} {k53 : Int32 → Int32 → Int32 → SG → Prop} (X : Cx (kC b D A cy ad) cX5_frames RX5 5 2 43) (hR : Rx (kC b D A cy ad) (some .int) (oI post)) (hk53 : ∀ (x1 x2 x3 : Int32) (g : SG), k53 x1 x2 x3 g → Gd (kC b D A cy ad) 5 53 [(0, .ref (ad 0)), (1, .int x1), (2, .int x2), (3, .int x3)] [] g) (x1 x2 x3 y0 : Int32) (g : SG) (h : B_X5_frames_73 post k53 x1 x2 x3 y0 g) : Gd (kC b D A cy ad) 5 73 [(0, .ref (ad 0)), (1, .int x1), (2, .int x2), (3, .int x3)] [.int y0] g := by
  unfold B_X5_frames_73 at h
  refine gd_istore (lv' := [(4, .int y0), (0, .ref (ad 0)), (1, .int x1), (2, .int x2), (3, .int x3)]) X dX5_frames_73 (by decide) rfl ?_
  refine gd_aload_n X dX5_frames_75 1 rfl ?_
  refine gX5_12 X dX5_frames_76 ?_
  refine gd_iload X dX5_frames_79 0 rfl ?_
  refine gd_if_eq (tgt := 88) X dX5_frames_81 (by decide) (fun c1 => ?_) (fun c1 => ?_)
  · have h := h.1 c1
    refine gd_iload_n X dX5_frames_88 2 rfl ?_
    refine gd_iload_n X dX5_frames_89 4 rfl ?_
    refine gd_jshr X dX5_frames_90 ?_
    refine gd_iconst (v := 1) X dX5_frames_91 (by decide) ?_
    refine gd_iand X dX5_frames_92 ?_
    refine gd_sub [1, 2, 3, 4, 0] rfl ?_
    exact w_X5_frames_93 X hR hk53 _ _ _ _ _ _ h
  · have h := h.2 c1
    refine gd_iconst (v := 2) X dX5_frames_84 (by decide) ?_
    refine gd_goto (tgt := 93) X dX5_frames_85 (by decide) ?_
    refine gd_sub [1, 2, 3, 4, 0] rfl ?_
    exact w_X5_frames_93 X hR hk53 _ _ _ _ _ _ h
def B_X5_frames_53 (post : Int32 → SG → Prop) (k53 : Int32 → Int32 → Int32 → SG → Prop) (x1 x2 x3 : Int32) (g : SG) : Prop :=
  ((19 ≤ x3) → B_X1_append_0 (fun g2 => B_X5_rowChanged_0 (fun g3 => post (g3 20 0) g3) g2) 3 g) ∧ ((¬ 19 ≤ x3) → ((¬ ((jshr x2 x3) &&& 1) = 1) → B_X5_frames_73 post k53 x1 x2 x3 0 g) ∧ ((((jshr x2 x3) &&& 1) = 1) → B_X5_frames_73 post k53 x1 x2 x3 1 g))
set_option maxRecDepth 100000 in
theorem w_X5_frames_53 {b : BX} {D : va_G} {A : Nat → Prop} {cy : Nat → ClassId} {ad : Nat → Nat} {post : Int32 → SG → Prop} {k53 : Int32 → Int32 → Int32 → SG → Prop} (X : Cx (kC b D A cy ad) cX5_frames RX5 5 2 43) (hR : Rx (kC b D A cy ad) (some .int) (oI post)) (hk53 : ∀ (x1 x2 x3 : Int32) (g : SG), k53 x1 x2 x3 g → Gd (kC b D A cy ad) 5 53 [(0, .ref (ad 0)), (1, .int x1), (2, .int x2), (3, .int x3)] [] g) (x1 x2 x3 : Int32) (g : SG) (h : B_X5_frames_53 post k53 x1 x2 x3 g) : Gd (kC b D A cy ad) 5 53 [(0, .ref (ad 0)), (1, .int x1), (2, .int x2), (3, .int x3)] [] g := by
  unfold B_X5_frames_53 at h
  refine gd_iload_n X dX5_frames_53 3 rfl ?_
  refine gd_bipush (v := 19) X dX5_frames_54 (by decide) ?_
  refine gd_icmp_ge (tgt := 102) X dX5_frames_56 (by decide) (fun c1 => ?_) (fun c1 => ?_)
  · have h := h.1 c1
    refine gd_aload_n X dX5_frames_102 0 rfl ?_
    refine gX5_12 X dX5_frames_103 ?_
    refine gd_iconst (v := 3) X dX5_frames_106 (by decide) ?_
    refine gd_callVv (As := [.int 3]) (rest := []) X lk_X5_57 (c_X1_append _ _ _ _ _ _ _ _ h) (19 + 2 * 0) rfl (wc_held cy ad _ 0 (by decide)) ⟨by decide, by decide⟩ rfl rfl (Nat.le_of_ble_eq_true rfl) dX5_frames_107 (fun g2 h => ?_)
    refine gd_aload_n X dX5_frames_110 0 rfl ?_
    refine gd_callVv (As := []) (rest := []) X lk_X5_61 (c_X5_rowChanged _ _ _ _ _ _ _ h) 0 rfl rfl ⟨by decide, by decide⟩ rfl rfl (Nat.le_of_ble_eq_true rfl) dX5_frames_111 (fun g3 h => ?_)
    refine gd_aload_n X dX5_frames_114 0 rfl ?_
    refine gX5_12 X dX5_frames_115 ?_
    refine gX5_45 0 (by decide) X dX5_frames_118 ?_
    exact gd_iret X hR dX5_frames_121 ⟨_, rfl, h⟩
  · have h := h.2 c1
    refine gd_iload_n X dX5_frames_59 2 rfl ?_
    refine gd_iload_n X dX5_frames_60 3 rfl ?_
    refine gd_jshr X dX5_frames_61 ?_
    refine gd_iconst (v := 1) X dX5_frames_62 (by decide) ?_
    refine gd_iand X dX5_frames_63 ?_
    refine gd_iconst (v := 1) X dX5_frames_64 (by decide) ?_
    refine gd_icmp_ne (tgt := 72) X dX5_frames_65 (by decide) (fun c4 => ?_) (fun c4 => ?_)
    · have h := h.1 c4
      refine gd_iconst (v := 0) X dX5_frames_72 (by decide) ?_
      exact w_X5_frames_73 X hR hk53 _ _ _ _ _ h
    · have h := h.2 c4
      refine gd_iconst (v := 1) X dX5_frames_68 (by decide) ?_
      refine gd_goto (tgt := 73) X dX5_frames_69 (by decide) ?_
      exact w_X5_frames_73 X hR hk53 _ _ _ _ _ h
def P_X5_frames_53 (post : Int32 → SG → Prop) (n : Nat) : Int32 → Int32 → Int32 → SG → Prop := Nat.rec (motive := fun _ => Int32 → Int32 → Int32 → SG → Prop) (fun _ _ _ _ => False) (fun _ kk x1 x2 x3 g => B_X5_frames_53 post kk x1 x2 x3 g) n
set_option maxRecDepth 100000 in
theorem wL_X5_frames_53 {b : BX} {D : va_G} {A : Nat → Prop} {cy : Nat → ClassId} {ad : Nat → Nat} {post : Int32 → SG → Prop} (X : Cx (kC b D A cy ad) cX5_frames RX5 5 2 43) (hR : Rx (kC b D A cy ad) (some .int) (oI post)) : ∀ (n : Nat) (x1 x2 x3 : Int32) (g : SG), P_X5_frames_53 post n x1 x2 x3 g → Gd (kC b D A cy ad) 5 53 [(0, .ref (ad 0)), (1, .int x1), (2, .int x2), (3, .int x3)] [] g := by
  intro n
  induction n with
  | zero => intro x1 x2 x3 g h; exact h.elim
  | succ n ih => intro x1 x2 x3 g h; exact w_X5_frames_53 X hR ih x1 x2 x3 g h
def B_X5_frames_0 (post : Int32 → SG → Prop) (x1 x2 : Int32) (g : SG) : Prop :=
  ((x1 < 0) → B_X5_frames_20 post x1 x2 g) ∧ ((¬ x1 < 0) → ((524287 < x1) → B_X5_frames_20 post x1 x2 g) ∧ ((¬ 524287 < x1) → ((x2 < 0) → B_X5_frames_20 post x1 x2 g) ∧ ((¬ x2 < 0) → ((x2 ≤ 524287) → ((((g 20 0) + 20) ≤ 120) → B_X2_remember_0 (fun g6 => ∃ n : Nat, P_X5_frames_53 post n x1 x2 0 g6) g) ∧ ((¬ ((g 20 0) + 20) ≤ 120) → post (-3) g)) ∧ ((¬ x2 ≤ 524287) → B_X5_frames_20 post x1 x2 g))))
set_option maxRecDepth 100000 in
theorem w_X5_frames_0 {b : BX} {D : va_G} {A : Nat → Prop} {cy : Nat → ClassId} {ad : Nat → Nat} {post : Int32 → SG → Prop} (X : Cx (kC b D A cy ad) cX5_frames RX5 5 2 43) (hR : Rx (kC b D A cy ad) (some .int) (oI post)) (x1 x2 : Int32) (g : SG) (h : B_X5_frames_0 post x1 x2 g) : Gd (kC b D A cy ad) 5 0 [(0, .ref (ad 0)), (1, .int x1), (2, .int x2)] [] g := by
  unfold B_X5_frames_0 at h
  refine gd_iload_n X dX5_frames_0 1 rfl ?_
  refine gd_if_lt (tgt := 20) X dX5_frames_1 (by decide) (fun c1 => ?_) (fun c1 => ?_)
  · have h := h.1 c1
    exact w_X5_frames_20 X hR _ _ _ h
  · have h := h.2 c1
    refine gd_iload_n X dX5_frames_4 1 rfl ?_
    refine gd_ldc (v := 524287) X q_211 dX5_frames_5 ?_
    refine gd_icmp_gt (tgt := 20) X dX5_frames_7 (by decide) (fun c2 => ?_) (fun c2 => ?_)
    · have h := h.1 c2
      exact w_X5_frames_20 X hR _ _ _ h
    · have h := h.2 c2
      refine gd_iload_n X dX5_frames_10 2 rfl ?_
      refine gd_if_lt (tgt := 20) X dX5_frames_11 (by decide) (fun c3 => ?_) (fun c3 => ?_)
      · have h := h.1 c3
        exact w_X5_frames_20 X hR _ _ _ h
      · have h := h.2 c3
        refine gd_iload_n X dX5_frames_14 2 rfl ?_
        refine gd_ldc (v := 524287) X q_211 dX5_frames_15 ?_
        refine gd_icmp_le (tgt := 22) X dX5_frames_17 (by decide) (fun c4 => ?_) (fun c4 => ?_)
        · have h := h.1 c4
          refine gd_aload_n X dX5_frames_22 0 rfl ?_
          refine gX5_12 X dX5_frames_23 ?_
          refine gX5_45 0 (by decide) X dX5_frames_26 ?_
          refine gd_bipush (v := 20) X dX5_frames_29 (by decide) ?_
          refine gd_iadd X dX5_frames_31 ?_
          refine gd_bipush (v := 120) X dX5_frames_32 (by decide) ?_
          refine gd_icmp_le (tgt := 40) X dX5_frames_34 (by decide) (fun c5 => ?_) (fun c5 => ?_)
          · have h := h.1 c5
            refine gd_aload_n X dX5_frames_40 0 rfl ?_
            refine gX5_19 X dX5_frames_41 ?_
            refine gd_aload_n X dX5_frames_44 0 rfl ?_
            refine gX5_12 X dX5_frames_45 ?_
            refine gd_callVv (As := [.ref (ad 19)]) (rest := []) X lk_X5_49 (c_X2_remember _ _ _ _ _ _ _ h) 1 rfl rfl ⟨by decide, by decide⟩ rfl rfl (Nat.le_of_ble_eq_true rfl) dX5_frames_48 (fun g6 h => ?_)
            refine gd_iconst (v := 0) X dX5_frames_51 (by decide) ?_
            refine gd_istore_n (lv' := [(3, .int 0), (0, .ref (ad 0)), (1, .int x1), (2, .int x2)]) X dX5_frames_52 (by decide) rfl ?_
            refine gd_sub [1, 2, 3, 0] rfl ?_
            obtain ⟨n, h⟩ := h
            exact wL_X5_frames_53 X hR n _ _ _ _ h
          · have h := h.2 c5
            refine gd_bipush (v := (-3)) X dX5_frames_37 (by decide) ?_
            exact gd_iret X hR dX5_frames_39 ⟨_, rfl, h⟩
        · have h := h.2 c4
          exact w_X5_frames_20 X hR _ _ _ h
set_option maxRecDepth 100000 in
theorem c_X5_frames (l : Launch) (D : va_G) (A : Nat → Prop) (cy : Nat → ClassId) (ad : Nat → Nat) (post : Int32 → SG → Prop) (x1 x2 : Int32) (g : SG) (hB : B_X5_frames_0 post x1 x2 g) : Mt l (eC D A cy ad) yX5_frames cX5_frames 5 (some .int) 2 43 [.ref (ad 0), .int x1, .int x2] g (oI post) := mt_of (plainFor_of_name (by decide)) (Nat.le_of_ble_eq_true rfl) (fun b X hR => w_X5_frames_0 X hR x1 x2 g hB)
def B_X5_loses_16 (post : Int32 → SG → Prop) (x1 : Int32) (g : SG) : Prop :=
  post (-1) g
set_option maxRecDepth 100000 in
theorem w_X5_loses_16 {b : BX} {D : va_G} {A : Nat → Prop} {cy : Nat → ClassId} {ad : Nat → Nat} {post : Int32 → SG → Prop} (X : Cx (kC b D A cy ad) cX5_loses RX5 2 2 43) (hR : Rx (kC b D A cy ad) (some .int) (oI post)) (x1 : Int32) (g : SG) (h : B_X5_loses_16 post x1 g) : Gd (kC b D A cy ad) 2 16 [(0, .ref (ad 0)), (1, .int x1)] [] g := by
  unfold B_X5_loses_16 at h
  refine gd_iconst (v := (-1)) X dX5_loses_16 (by decide) ?_
  exact gd_iret X hR dX5_loses_17 ⟨_, rfl, h⟩
def B_X5_loses_0 (post : Int32 → SG → Prop) (x1 : Int32) (g : SG) : Prop :=
  ((x1 < 1) → B_X5_loses_16 post x1 g) ∧ ((¬ x1 < 1) → ((x1 ≤ (g 20 0)) → B_X2_remember_0 (fun g3 => B_X1_dropFirst_0 (fun g4 => B_X5_rowChanged_0 (fun g5 => post (g5 20 0) g5) g4) x1 g3) g) ∧ ((¬ x1 ≤ (g 20 0)) → B_X5_loses_16 post x1 g))
set_option maxRecDepth 100000 in
theorem w_X5_loses_0 {b : BX} {D : va_G} {A : Nat → Prop} {cy : Nat → ClassId} {ad : Nat → Nat} {post : Int32 → SG → Prop} (X : Cx (kC b D A cy ad) cX5_loses RX5 2 2 43) (hR : Rx (kC b D A cy ad) (some .int) (oI post)) (x1 : Int32) (g : SG) (h : B_X5_loses_0 post x1 g) : Gd (kC b D A cy ad) 2 0 [(0, .ref (ad 0)), (1, .int x1)] [] g := by
  unfold B_X5_loses_0 at h
  refine gd_iload_n X dX5_loses_0 1 rfl ?_
  refine gd_iconst (v := 1) X dX5_loses_1 (by decide) ?_
  refine gd_icmp_lt (tgt := 16) X dX5_loses_2 (by decide) (fun c1 => ?_) (fun c1 => ?_)
  · have h := h.1 c1
    exact w_X5_loses_16 X hR _ _ h
  · have h := h.2 c1
    refine gd_iload_n X dX5_loses_5 1 rfl ?_
    refine gd_aload_n X dX5_loses_6 0 rfl ?_
    refine gX5_12 X dX5_loses_7 ?_
    refine gX5_45 0 (by decide) X dX5_loses_10 ?_
    refine gd_icmp_le (tgt := 18) X dX5_loses_13 (by decide) (fun c2 => ?_) (fun c2 => ?_)
    · have h := h.1 c2
      refine gd_aload_n X dX5_loses_18 0 rfl ?_
      refine gX5_19 X dX5_loses_19 ?_
      refine gd_aload_n X dX5_loses_22 0 rfl ?_
      refine gX5_12 X dX5_loses_23 ?_
      refine gd_callVv (As := [.ref (ad 19)]) (rest := []) X lk_X5_49 (c_X2_remember _ _ _ _ _ _ _ h) 1 rfl rfl ⟨by decide, by decide⟩ rfl rfl (Nat.le_of_ble_eq_true rfl) dX5_loses_26 (fun g3 h => ?_)
      refine gd_aload_n X dX5_loses_29 0 rfl ?_
      refine gX5_12 X dX5_loses_30 ?_
      refine gd_iload_n X dX5_loses_33 1 rfl ?_
      refine gd_callVv (As := [.int x1]) (rest := []) X lk_X5_65 (c_X1_dropFirst _ _ _ _ _ _ _ _ h) (19 + 2 * 0) rfl (wc_held cy ad _ 0 (by decide)) ⟨by decide, by decide⟩ rfl rfl (Nat.le_of_ble_eq_true rfl) dX5_loses_34 (fun g4 h => ?_)
      refine gd_aload_n X dX5_loses_37 0 rfl ?_
      refine gd_callVv (As := []) (rest := []) X lk_X5_61 (c_X5_rowChanged _ _ _ _ _ _ _ h) 0 rfl rfl ⟨by decide, by decide⟩ rfl rfl (Nat.le_of_ble_eq_true rfl) dX5_loses_38 (fun g5 h => ?_)
      refine gd_aload_n X dX5_loses_41 0 rfl ?_
      refine gX5_12 X dX5_loses_42 ?_
      refine gX5_45 0 (by decide) X dX5_loses_45 ?_
      exact gd_iret X hR dX5_loses_48 ⟨_, rfl, h⟩
    · have h := h.2 c2
      exact w_X5_loses_16 X hR _ _ h
set_option maxRecDepth 100000 in
theorem c_X5_loses (l : Launch) (D : va_G) (A : Nat → Prop) (cy : Nat → ClassId) (ad : Nat → Nat) (post : Int32 → SG → Prop) (x1 : Int32) (g : SG) (hB : B_X5_loses_0 post x1 g) : Mt l (eC D A cy ad) yX5_loses cX5_loses 2 (some .int) 2 43 [.ref (ad 0), .int x1] g (oI post) := mt_of (plainFor_of_name (by decide)) (Nat.le_of_ble_eq_true rfl) (fun b X hR => w_X5_loses_0 X hR x1 g hB)
def B_X5_needs_11 (post : Int32 → SG → Prop) (x1 : Int32) (g : SG) : Prop :=
  post (-1) g
set_option maxRecDepth 100000 in
theorem w_X5_needs_11 {b : BX} {D : va_G} {A : Nat → Prop} {cy : Nat → ClassId} {ad : Nat → Nat} {post : Int32 → SG → Prop} (X : Cx (kC b D A cy ad) cX5_needs RX5 3 2 43) (hR : Rx (kC b D A cy ad) (some .int) (oI post)) (x1 : Int32) (g : SG) (h : B_X5_needs_11 post x1 g) : Gd (kC b D A cy ad) 3 11 [(0, .ref (ad 0)), (1, .int x1)] [] g := by
  unfold B_X5_needs_11 at h
  refine gd_iconst (v := (-1)) X dX5_needs_11 (by decide) ?_
  exact gd_iret X hR dX5_needs_12 ⟨_, rfl, h⟩
def B_X5_needs_0 (post : Int32 → SG → Prop) (x1 : Int32) (g : SG) : Prop :=
  ((x1 < 1) → B_X5_needs_11 post x1 g) ∧ ((¬ x1 < 1) → ((x1 ≤ 9) → B_X2_remember_0 (fun g3 => ∀ z4 : Int32, z4 = (g3 20 1) → ∀ g5 : SG, g5 = sput g3 20 1 x1 → post z4 g5) g) ∧ ((¬ x1 ≤ 9) → B_X5_needs_11 post x1 g))
set_option maxRecDepth 100000 in
theorem w_X5_needs_0 {b : BX} {D : va_G} {A : Nat → Prop} {cy : Nat → ClassId} {ad : Nat → Nat} {post : Int32 → SG → Prop} (X : Cx (kC b D A cy ad) cX5_needs RX5 3 2 43) (hR : Rx (kC b D A cy ad) (some .int) (oI post)) (x1 : Int32) (g : SG) (h : B_X5_needs_0 post x1 g) : Gd (kC b D A cy ad) 3 0 [(0, .ref (ad 0)), (1, .int x1)] [] g := by
  unfold B_X5_needs_0 at h
  refine gd_iload_n X dX5_needs_0 1 rfl ?_
  refine gd_iconst (v := 1) X dX5_needs_1 (by decide) ?_
  refine gd_icmp_lt (tgt := 11) X dX5_needs_2 (by decide) (fun c1 => ?_) (fun c1 => ?_)
  · have h := h.1 c1
    exact w_X5_needs_11 X hR _ _ h
  · have h := h.2 c1
    refine gd_iload_n X dX5_needs_5 1 rfl ?_
    refine gd_bipush (v := 9) X dX5_needs_6 (by decide) ?_
    refine gd_icmp_le (tgt := 13) X dX5_needs_8 (by decide) (fun c2 => ?_) (fun c2 => ?_)
    · have h := h.1 c2
      refine gd_aload_n X dX5_needs_13 0 rfl ?_
      refine gX5_19 X dX5_needs_14 ?_
      refine gd_aload_n X dX5_needs_17 0 rfl ?_
      refine gX5_12 X dX5_needs_18 ?_
      refine gd_callVv (As := [.ref (ad 19)]) (rest := []) X lk_X5_49 (c_X2_remember _ _ _ _ _ _ _ h) 1 rfl rfl ⟨by decide, by decide⟩ rfl rfl (Nat.le_of_ble_eq_true rfl) dX5_needs_21 (fun g3 h => ?_)
      refine gd_aload_n X dX5_needs_24 0 rfl ?_
      refine gX5_12 X dX5_needs_25 ?_
      refine gX5_68 0 (by decide) X dX5_needs_28 ?_
      refine gd_topi (fun z4 ez4 => ?_)
      have h := h z4 ez4
      refine gd_istore_n (lv' := [(2, .int z4), (0, .ref (ad 0)), (1, .int x1)]) X dX5_needs_31 (by decide) rfl ?_
      refine gd_aload_n X dX5_needs_32 1 rfl ?_
      refine gX5_12 X dX5_needs_33 ?_
      refine gd_iload_n X dX5_needs_36 2 rfl ?_
      refine pX5_68 0 (by decide) X dX5_needs_37 (fun g5 eg5 => ?_)
      have h := h g5 eg5
      refine gd_iload_n X dX5_needs_40 0 rfl ?_
      exact gd_iret X hR dX5_needs_41 ⟨_, rfl, h⟩
    · have h := h.2 c2
      exact w_X5_needs_11 X hR _ _ h
set_option maxRecDepth 100000 in
theorem c_X5_needs (l : Launch) (D : va_G) (A : Nat → Prop) (cy : Nat → ClassId) (ad : Nat → Nat) (post : Int32 → SG → Prop) (x1 : Int32) (g : SG) (hB : B_X5_needs_0 post x1 g) : Mt l (eC D A cy ad) yX5_needs cX5_needs 3 (some .int) 2 43 [.ref (ad 0), .int x1] g (oI post) := mt_of (plainFor_of_name (by decide)) (Nat.le_of_ble_eq_true rfl) (fun b X hR => w_X5_needs_0 X hR x1 g hB)
def B_X5_drifts_10 (post : Int32 → SG → Prop) (x1 : Int32) (g : SG) : Prop :=
  post (-1) g
set_option maxRecDepth 100000 in
theorem w_X5_drifts_10 {b : BX} {D : va_G} {A : Nat → Prop} {cy : Nat → ClassId} {ad : Nat → Nat} {post : Int32 → SG → Prop} (X : Cx (kC b D A cy ad) cX5_drifts RX5 3 2 43) (hR : Rx (kC b D A cy ad) (some .int) (oI post)) (x1 : Int32) (g : SG) (h : B_X5_drifts_10 post x1 g) : Gd (kC b D A cy ad) 3 10 [(0, .ref (ad 0)), (1, .int x1)] [] g := by
  unfold B_X5_drifts_10 at h
  refine gd_iconst (v := (-1)) X dX5_drifts_10 (by decide) ?_
  exact gd_iret X hR dX5_drifts_11 ⟨_, rfl, h⟩
def B_X5_drifts_0 (post : Int32 → SG → Prop) (x1 : Int32) (g : SG) : Prop :=
  ((x1 < 0) → B_X5_drifts_10 post x1 g) ∧ ((¬ x1 < 0) → ((x1 ≤ 50) → B_X2_remember_0 (fun g3 => ∀ z4 : Int32, z4 = (g3 20 2) → ∀ g5 : SG, g5 = sput g3 20 2 x1 → post z4 g5) g) ∧ ((¬ x1 ≤ 50) → B_X5_drifts_10 post x1 g))
set_option maxRecDepth 100000 in
theorem w_X5_drifts_0 {b : BX} {D : va_G} {A : Nat → Prop} {cy : Nat → ClassId} {ad : Nat → Nat} {post : Int32 → SG → Prop} (X : Cx (kC b D A cy ad) cX5_drifts RX5 3 2 43) (hR : Rx (kC b D A cy ad) (some .int) (oI post)) (x1 : Int32) (g : SG) (h : B_X5_drifts_0 post x1 g) : Gd (kC b D A cy ad) 3 0 [(0, .ref (ad 0)), (1, .int x1)] [] g := by
  unfold B_X5_drifts_0 at h
  refine gd_iload_n X dX5_drifts_0 1 rfl ?_
  refine gd_if_lt (tgt := 10) X dX5_drifts_1 (by decide) (fun c1 => ?_) (fun c1 => ?_)
  · have h := h.1 c1
    exact w_X5_drifts_10 X hR _ _ h
  · have h := h.2 c1
    refine gd_iload_n X dX5_drifts_4 1 rfl ?_
    refine gd_bipush (v := 50) X dX5_drifts_5 (by decide) ?_
    refine gd_icmp_le (tgt := 12) X dX5_drifts_7 (by decide) (fun c2 => ?_) (fun c2 => ?_)
    · have h := h.1 c2
      refine gd_aload_n X dX5_drifts_12 0 rfl ?_
      refine gX5_19 X dX5_drifts_13 ?_
      refine gd_aload_n X dX5_drifts_16 0 rfl ?_
      refine gX5_12 X dX5_drifts_17 ?_
      refine gd_callVv (As := [.ref (ad 19)]) (rest := []) X lk_X5_49 (c_X2_remember _ _ _ _ _ _ _ h) 1 rfl rfl ⟨by decide, by decide⟩ rfl rfl (Nat.le_of_ble_eq_true rfl) dX5_drifts_20 (fun g3 h => ?_)
      refine gd_aload_n X dX5_drifts_23 0 rfl ?_
      refine gX5_12 X dX5_drifts_24 ?_
      refine gX5_71 0 (by decide) X dX5_drifts_27 ?_
      refine gd_topi (fun z4 ez4 => ?_)
      have h := h z4 ez4
      refine gd_istore_n (lv' := [(2, .int z4), (0, .ref (ad 0)), (1, .int x1)]) X dX5_drifts_30 (by decide) rfl ?_
      refine gd_aload_n X dX5_drifts_31 1 rfl ?_
      refine gX5_12 X dX5_drifts_32 ?_
      refine gd_iload_n X dX5_drifts_35 2 rfl ?_
      refine pX5_71 0 (by decide) X dX5_drifts_36 (fun g5 eg5 => ?_)
      have h := h g5 eg5
      refine gd_iload_n X dX5_drifts_39 0 rfl ?_
      exact gd_iret X hR dX5_drifts_40 ⟨_, rfl, h⟩
    · have h := h.2 c2
      exact w_X5_drifts_10 X hR _ _ h
set_option maxRecDepth 100000 in
theorem c_X5_drifts (l : Launch) (D : va_G) (A : Nat → Prop) (cy : Nat → ClassId) (ad : Nat → Nat) (post : Int32 → SG → Prop) (x1 : Int32) (g : SG) (hB : B_X5_drifts_0 post x1 g) : Mt l (eC D A cy ad) yX5_drifts cX5_drifts 3 (some .int) 2 43 [.ref (ad 0), .int x1] g (oI post) := mt_of (plainFor_of_name (by decide)) (Nat.le_of_ble_eq_true rfl) (fun b X hR => w_X5_drifts_0 X hR x1 g hB)
def B_X5_fittingFrames_23 (post : SG → Prop) (g : SG) : Prop :=
  post g
set_option maxRecDepth 100000 in
theorem w_X5_fittingFrames_23 {b : BX} {D : va_G} {A : Nat → Prop} {cy : Nat → ClassId} {ad : Nat → Nat} {post : SG → Prop} (X : Cx (kC b D A cy ad) cX5_fittingFrames RX5 1 2 48) (hR : Rx (kC b D A cy ad) (some (.object "MinuteSignal$Frames")) (oA (ad 5) post)) (g : SG) (h : B_X5_fittingFrames_23 post g) : Gd (kC b D A cy ad) 1 23 [(0, .ref (ad 0))] [] g := by
  unfold B_X5_fittingFrames_23 at h
  refine gd_aload_n X dX5_fittingFrames_23 0 rfl ?_
  refine gX5_34 X dX5_fittingFrames_24 ?_
  exact gd_aret X hR dX5_fittingFrames_27 ⟨rfl, h⟩
def B_X5_fittingFrames_0 (post : SG → Prop) (g : SG) : Prop :=
  ((¬ (g 0 0) = 0) → B_X5_fittingFrames_23 post g) ∧ (((g 0 0) = 0) → B_X0_cut_0 (fun g2 => ∀ g3 : SG, g3 = sput g2 0 0 1 → B_X5_fittingFrames_23 post g3) g)
set_option maxRecDepth 100000 in
theorem w_X5_fittingFrames_0 {b : BX} {D : va_G} {A : Nat → Prop} {cy : Nat → ClassId} {ad : Nat → Nat} {post : SG → Prop} (X : Cx (kC b D A cy ad) cX5_fittingFrames RX5 1 2 48) (hR : Rx (kC b D A cy ad) (some (.object "MinuteSignal$Frames")) (oA (ad 5) post)) (g : SG) (h : B_X5_fittingFrames_0 post g) : Gd (kC b D A cy ad) 1 0 [(0, .ref (ad 0))] [] g := by
  unfold B_X5_fittingFrames_0 at h
  refine gd_aload_n X dX5_fittingFrames_0 0 rfl ?_
  refine gX5_188 X dX5_fittingFrames_1 ?_
  refine gd_if_ne (tgt := 23) X dX5_fittingFrames_4 (by decide) (fun c1 => ?_) (fun c1 => ?_)
  · have h := h.1 c1
    exact w_X5_fittingFrames_23 X hR _ h
  · have h := h.2 c1
    refine gd_aload_n X dX5_fittingFrames_7 0 rfl ?_
    refine gX5_34 X dX5_fittingFrames_8 ?_
    refine gd_aload_n X dX5_fittingFrames_11 0 rfl ?_
    refine gX5_12 X dX5_fittingFrames_12 ?_
    refine gd_callVv (As := [.ref (ad 19)]) (rest := []) X lk_X5_195 (c_X0_cut _ _ _ _ _ _ _ h) 5 rfl rfl ⟨by decide, by decide⟩ rfl rfl (Nat.le_of_ble_eq_true rfl) dX5_fittingFrames_15 (fun g2 h => ?_)
    refine gd_aload_n X dX5_fittingFrames_18 0 rfl ?_
    refine gd_iconst (v := 1) X dX5_fittingFrames_19 (by decide) ?_
    refine pX5_188 X rfl rfl dX5_fittingFrames_20 (fun g3 eg3 => ?_)
    have h := h g3 eg3
    exact w_X5_fittingFrames_23 X hR _ h
set_option maxRecDepth 100000 in
theorem c_X5_fittingFrames (l : Launch) (D : va_G) (A : Nat → Prop) (cy : Nat → ClassId) (ad : Nat → Nat) (post : SG → Prop) (g : SG) (hB : B_X5_fittingFrames_0 post g) : Mt l (eC D A cy ad) yX5_fittingFrames cX5_fittingFrames 1 (some (.object "MinuteSignal$Frames")) 2 48 [.ref (ad 0)] g (oA (ad 5) post) := mt_of (plainFor_of_name (by decide)) (Nat.le_of_ble_eq_true rfl) (fun b X hR => w_X5_fittingFrames_0 X hR g hB)
def B_X5_fittingVote_23 (post : SG → Prop) (g : SG) : Prop :=
  post g
set_option maxRecDepth 100000 in
theorem w_X5_fittingVote_23 {b : BX} {D : va_G} {A : Nat → Prop} {cy : Nat → ClassId} {ad : Nat → Nat} {post : SG → Prop} (X : Cx (kC b D A cy ad) cX5_fittingVote RX5 1 4 94) (hR : Rx (kC b D A cy ad) (some (.object "MinuteSignal$Vote")) (oA (ad 9) post)) (g : SG) (h : B_X5_fittingVote_23 post g) : Gd (kC b D A cy ad) 1 23 [(0, .ref (ad 0))] [] g := by
  unfold B_X5_fittingVote_23 at h
  refine gd_aload_n X dX5_fittingVote_23 0 rfl ?_
  refine gX5_41 X dX5_fittingVote_24 ?_
  exact gd_aret X hR dX5_fittingVote_27 ⟨rfl, h⟩
def B_X5_fittingVote_0 (post : SG → Prop) (g : SG) : Prop :=
  ((¬ (g 0 1) = 0) → B_X5_fittingVote_23 post g) ∧ (((g 0 1) = 0) → B_X5_fittingFrames_0 (fun g2 => B_X4_take_0 (fun g3 => ∀ g4 : SG, g4 = sput g3 0 1 1 → B_X5_fittingVote_23 post g4) g2) g)
set_option maxRecDepth 100000 in
theorem w_X5_fittingVote_0 {b : BX} {D : va_G} {A : Nat → Prop} {cy : Nat → ClassId} {ad : Nat → Nat} {post : SG → Prop} (X : Cx (kC b D A cy ad) cX5_fittingVote RX5 1 4 94) (hR : Rx (kC b D A cy ad) (some (.object "MinuteSignal$Vote")) (oA (ad 9) post)) (g : SG) (h : B_X5_fittingVote_0 post g) : Gd (kC b D A cy ad) 1 0 [(0, .ref (ad 0))] [] g := by
  unfold B_X5_fittingVote_0 at h
  refine gd_aload_n X dX5_fittingVote_0 0 rfl ?_
  refine gX5_192 X dX5_fittingVote_1 ?_
  refine gd_if_ne (tgt := 23) X dX5_fittingVote_4 (by decide) (fun c1 => ?_) (fun c1 => ?_)
  · have h := h.1 c1
    exact w_X5_fittingVote_23 X hR _ h
  · have h := h.2 c1
    refine gd_aload_n X dX5_fittingVote_7 0 rfl ?_
    refine gX5_41 X dX5_fittingVote_8 ?_
    refine gd_aload_n X dX5_fittingVote_11 0 rfl ?_
    refine gd_callVa (As := []) (rest := [.ref (ad 9)]) X lk_X5_113 (c_X5_fittingFrames _ _ _ _ _ _ _ h) 0 rfl rfl ⟨by decide, by decide⟩ rfl rfl (Nat.le_of_ble_eq_true rfl) dX5_fittingVote_12 (fun g2 h => ?_)
    refine gd_callVv (As := [.ref (ad 5)]) (rest := []) X lk_X5_198 (c_X4_take _ _ _ _ _ _ _ h) 9 rfl rfl ⟨by decide, by decide⟩ rfl rfl (Nat.le_of_ble_eq_true rfl) dX5_fittingVote_15 (fun g3 h => ?_)
    refine gd_aload_n X dX5_fittingVote_18 0 rfl ?_
    refine gd_iconst (v := 1) X dX5_fittingVote_19 (by decide) ?_
    refine pX5_192 X rfl rfl dX5_fittingVote_20 (fun g4 eg4 => ?_)
    have h := h g4 eg4
    exact w_X5_fittingVote_23 X hR _ h
set_option maxRecDepth 100000 in
theorem c_X5_fittingVote (l : Launch) (D : va_G) (A : Nat → Prop) (cy : Nat → ClassId) (ad : Nat → Nat) (post : SG → Prop) (g : SG) (hB : B_X5_fittingVote_0 post g) : Mt l (eC D A cy ad) yX5_fittingVote cX5_fittingVote 1 (some (.object "MinuteSignal$Vote")) 4 94 [.ref (ad 0)] g (oA (ad 9) post) := mt_of (plainFor_of_name (by decide)) (Nat.le_of_ble_eq_true rfl) (fun b X hR => w_X5_fittingVote_0 X hR g hB)
def B_X5_isShown_32 (post : Int32 → SG → Prop) (y0 : Int32) (g : SG) : Prop :=
  (narrow .boolean (.int y0) = .int y0 ∧ post y0 g)
set_option maxRecDepth 100000 in
theorem w_X5_isShown_32 {b : BX} {D : va_G} {A : Nat → Prop} {cy : Nat → ClassId} {ad : Nat → Nat} {post : Int32 → SG → Prop} (X : Cx (kC b D A cy ad) cX5_isShown RX5 1 5 114) (hR : Rx (kC b D A cy ad) (some .boolean) (oI post)) (y0 : Int32) (g : SG) (h : B_X5_isShown_32 post y0 g) : Gd (kC b D A cy ad) 1 32 [(0, .ref (ad 0))] [.int y0] g := by
  unfold B_X5_isShown_32 at h
  exact gd_zret X hR dX5_isShown_32 h.1 ⟨_, rfl, h.2⟩
def B_X5_isShown_31 (post : Int32 → SG → Prop) (g : SG) : Prop :=
  B_X5_isShown_32 post 0 g
set_option maxRecDepth 100000 in
theorem w_X5_isShown_31 {b : BX} {D : va_G} {A : Nat → Prop} {cy : Nat → ClassId} {ad : Nat → Nat} {post : Int32 → SG → Prop} (X : Cx (kC b D A cy ad) cX5_isShown RX5 1 5 114) (hR : Rx (kC b D A cy ad) (some .boolean) (oI post)) (g : SG) (h : B_X5_isShown_31 post g) : Gd (kC b D A cy ad) 1 31 [(0, .ref (ad 0))] [] g := by
  unfold B_X5_isShown_31 at h
  refine gd_iconst (v := 0) X dX5_isShown_31 (by decide) ?_
  exact w_X5_isShown_32 X hR _ _ h
def B_X5_isShown_0 (post : Int32 → SG → Prop) (g : SG) : Prop :=
  B_X5_fittingFrames_0 (fun g1 => (((g1 0 5) ≤ 0) → B_X5_isShown_31 post g1) ∧ ((¬ (g1 0 5) ≤ 0) → B_X5_fittingVote_0 (fun g3 => (((g3 0 8) < (g3 20 1)) → B_X5_isShown_31 post g3) ∧ ((¬ (g3 0 8) < (g3 20 1)) → B_X5_isShown_32 post 1 g3)) g1)) g
set_option maxRecDepth 100000 in
theorem w_X5_isShown_0 {b : BX} {D : va_G} {A : Nat → Prop} {cy : Nat → ClassId} {ad : Nat → Nat} {post : Int32 → SG → Prop} (X : Cx (kC b D A cy ad) cX5_isShown RX5 1 5 114) (hR : Rx (kC b D A cy ad) (some .boolean) (oI post)) (g : SG) (h : B_X5_isShown_0 post g) : Gd (kC b D A cy ad) 1 0 [(0, .ref (ad 0))] [] g := by
  unfold B_X5_isShown_0 at h
  refine gd_aload_n X dX5_isShown_0 0 rfl ?_
  refine gd_callVa (As := []) (rest := []) X lk_X5_113 (c_X5_fittingFrames _ _ _ _ _ _ _ h) 0 rfl rfl ⟨by decide, by decide⟩ rfl rfl (Nat.le_of_ble_eq_true rfl) dX5_isShown_1 (fun g1 h => ?_)
  refine gX5_117 X dX5_isShown_4 ?_
  refine gd_if_le (tgt := 31) X dX5_isShown_7 (by decide) (fun c2 => ?_) (fun c2 => ?_)
  · have h := h.1 c2
    exact w_X5_isShown_31 X hR _ h
  · have h := h.2 c2
    refine gd_aload_n X dX5_isShown_10 0 rfl ?_
    refine gd_callVa (As := []) (rest := []) X lk_X5_78 (c_X5_fittingVote _ _ _ _ _ _ _ h) 0 rfl rfl ⟨by decide, by decide⟩ rfl rfl (Nat.le_of_ble_eq_true rfl) dX5_isShown_11 (fun g3 h => ?_)
    refine gX5_145 X dX5_isShown_14 ?_
    refine gd_aload_n X dX5_isShown_17 0 rfl ?_
    refine gX5_12 X dX5_isShown_18 ?_
    refine gX5_68 0 (by decide) X dX5_isShown_21 ?_
    refine gd_icmp_lt (tgt := 31) X dX5_isShown_24 (by decide) (fun c4 => ?_) (fun c4 => ?_)
    · have h := h.1 c4
      exact w_X5_isShown_31 X hR _ h
    · have h := h.2 c4
      refine gd_iconst (v := 1) X dX5_isShown_27 (by decide) ?_
      refine gd_goto (tgt := 32) X dX5_isShown_28 (by decide) ?_
      exact w_X5_isShown_32 X hR _ _ h
set_option maxRecDepth 100000 in
theorem c_X5_isShown (l : Launch) (D : va_G) (A : Nat → Prop) (cy : Nat → ClassId) (ad : Nat → Nat) (post : Int32 → SG → Prop) (g : SG) (hB : B_X5_isShown_0 post g) : Mt l (eC D A cy ad) yX5_isShown cX5_isShown 1 (some .boolean) 5 114 [.ref (ad 0)] g (oI post) := mt_of (plainFor_of_name (by decide)) (Nat.le_of_ble_eq_true rfl) (fun b X hR => w_X5_isShown_0 X hR g hB)
def B_X5_sets_0 (post : Int32 → SG → Prop) (g : SG) : Prop :=
  B_X5_isShown_0 (fun r1 g2 => ((¬ r1 = 0) → B_X2_remember_0 (fun g4 => B_X5_fittingVote_0 (fun g5 => ∀ g6 : SG, g6 = sput g5 20 3 (g5 0 9) → ∀ g7 : SG, g7 = sput g6 20 4 0 → B_X3_minuteOf_0 (fun r8 => post r8 g7) (g7 20 3)) g4) g2) ∧ ((r1 = 0) → post (-2) g2)) g
set_option maxRecDepth 100000 in
theorem w_X5_sets_0 {b : BX} {D : va_G} {A : Nat → Prop} {cy : Nat → ClassId} {ad : Nat → Nat} {post : Int32 → SG → Prop} (X : Cx (kC b D A cy ad) cX5_sets RX5 1 6 134) (hR : Rx (kC b D A cy ad) (some .int) (oI post)) (g : SG) (h : B_X5_sets_0 post g) : Gd (kC b D A cy ad) 1 0 [(0, .ref (ad 0))] [] g := by
  unfold B_X5_sets_0 at h
  refine gd_aload_n X dX5_sets_0 0 rfl ?_
  refine gd_callVi (As := []) (rest := []) X lk_X5_74 (c_X5_isShown _ _ _ _ _ _ _ h) 0 rfl rfl ⟨by decide, by decide⟩ rfl rfl (Nat.le_of_ble_eq_true rfl) dX5_sets_1 (fun r1 g2 h => ?_)
  refine gd_if_ne (tgt := 10) X dX5_sets_4 (by decide) (fun c3 => ?_) (fun c3 => ?_)
  · have h := h.1 c3
    refine gd_aload_n X dX5_sets_10 0 rfl ?_
    refine gX5_19 X dX5_sets_11 ?_
    refine gd_aload_n X dX5_sets_14 0 rfl ?_
    refine gX5_12 X dX5_sets_15 ?_
    refine gd_callVv (As := [.ref (ad 19)]) (rest := []) X lk_X5_49 (c_X2_remember _ _ _ _ _ _ _ h) 1 rfl rfl ⟨by decide, by decide⟩ rfl rfl (Nat.le_of_ble_eq_true rfl) dX5_sets_18 (fun g4 h => ?_)
    refine gd_aload_n X dX5_sets_21 0 rfl ?_
    refine gX5_12 X dX5_sets_22 ?_
    refine gd_aload_n X dX5_sets_25 0 rfl ?_
    refine gd_callVa (As := []) (rest := [.ref (ad 19)]) X lk_X5_78 (c_X5_fittingVote _ _ _ _ _ _ _ h) 0 rfl rfl ⟨by decide, by decide⟩ rfl rfl (Nat.le_of_ble_eq_true rfl) dX5_sets_26 (fun g5 h => ?_)
    refine gX5_82 X dX5_sets_29 ?_
    refine pX5_85 0 (by decide) X dX5_sets_32 (fun g6 eg6 => ?_)
    have h := h g6 eg6
    refine gd_aload_n X dX5_sets_35 0 rfl ?_
    refine gX5_12 X dX5_sets_36 ?_
    refine gd_iconst (v := 0) X dX5_sets_39 (by decide) ?_
    refine pX5_88 0 (by decide) X dX5_sets_40 (fun g7 eg7 => ?_)
    have h := h g7 eg7
    refine gd_aload_n X dX5_sets_43 0 rfl ?_
    refine gX5_12 X dX5_sets_44 ?_
    refine gX5_85 0 (by decide) X dX5_sets_47 ?_
    refine gd_callSr (As := [.int ((g7 20 3))]) (rest := []) X lk_X5_91 (c_X3_minuteOf _ _ _ _ _ h) ⟨by decide, by decide⟩ rfl rfl (Nat.le_of_ble_eq_true rfl) dX5_sets_50 (fun r8 h => ?_)
    exact gd_iret X hR dX5_sets_53 ⟨_, rfl, h⟩
  · have h := h.2 c3
    refine gd_bipush (v := (-2)) X dX5_sets_7 (by decide) ?_
    exact gd_iret X hR dX5_sets_9 ⟨_, rfl, h⟩
set_option maxRecDepth 100000 in
theorem c_X5_sets (l : Launch) (D : va_G) (A : Nat → Prop) (cy : Nat → ClassId) (ad : Nat → Nat) (post : Int32 → SG → Prop) (g : SG) (hB : B_X5_sets_0 post g) : Mt l (eC D A cy ad) yX5_sets cX5_sets 1 (some .int) 6 134 [.ref (ad 0)] g (oI post) := mt_of (plainFor_of_name (by decide)) (Nat.le_of_ble_eq_true rfl) (fun b X hR => w_X5_sets_0 X hR g hB)
def B_X5_goes_12 (post : Int32 → SG → Prop) (x1 : Int32) (g : SG) : Prop :=
  post (-1) g
set_option maxRecDepth 100000 in
theorem w_X5_goes_12 {b : BX} {D : va_G} {A : Nat → Prop} {cy : Nat → ClassId} {ad : Nat → Nat} {post : Int32 → SG → Prop} (X : Cx (kC b D A cy ad) cX5_goes RX5 2 3 68) (hR : Rx (kC b D A cy ad) (some .int) (oI post)) (x1 : Int32) (g : SG) (h : B_X5_goes_12 post x1 g) : Gd (kC b D A cy ad) 2 12 [(0, .ref (ad 0)), (1, .int x1)] [] g := by
  unfold B_X5_goes_12 at h
  refine gd_iconst (v := (-1)) X dX5_goes_12 (by decide) ?_
  exact gd_iret X hR dX5_goes_13 ⟨_, rfl, h⟩
def B_X5_goes_0 (post : Int32 → SG → Prop) (x1 : Int32) (g : SG) : Prop :=
  ((x1 < 1) → B_X5_goes_12 post x1 g) ∧ ((¬ x1 < 1) → ((x1 ≤ 999) → ((¬ (g 20 3) = (-1)) → B_X2_remember_0 (fun g4 => B_X3_later_0 (fun r5 => ∀ g6 : SG, g6 = sput g4 20 3 r5 → B_J9_min_7cf53_0 (fun r7 => ∀ g8 : SG, g8 = sput g6 20 4 r7 → B_X3_minuteOf_0 (fun r9 => post r9 g8) (g8 20 3)) ((g6 20 4) + x1) 9999) (g4 20 3) x1) g) ∧ (((g 20 3) = (-1)) → post (-2) g)) ∧ ((¬ x1 ≤ 999) → B_X5_goes_12 post x1 g))
set_option maxRecDepth 100000 in
theorem w_X5_goes_0 {b : BX} {D : va_G} {A : Nat → Prop} {cy : Nat → ClassId} {ad : Nat → Nat} {post : Int32 → SG → Prop} (X : Cx (kC b D A cy ad) cX5_goes RX5 2 3 68) (hR : Rx (kC b D A cy ad) (some .int) (oI post)) (x1 : Int32) (g : SG) (h : B_X5_goes_0 post x1 g) : Gd (kC b D A cy ad) 2 0 [(0, .ref (ad 0)), (1, .int x1)] [] g := by
  unfold B_X5_goes_0 at h
  refine gd_iload_n X dX5_goes_0 1 rfl ?_
  refine gd_iconst (v := 1) X dX5_goes_1 (by decide) ?_
  refine gd_icmp_lt (tgt := 12) X dX5_goes_2 (by decide) (fun c1 => ?_) (fun c1 => ?_)
  · have h := h.1 c1
    exact w_X5_goes_12 X hR _ _ h
  · have h := h.2 c1
    refine gd_iload_n X dX5_goes_5 1 rfl ?_
    refine gd_sipush (v := 999) X dX5_goes_6 (by decide) ?_
    refine gd_icmp_le (tgt := 14) X dX5_goes_9 (by decide) (fun c2 => ?_) (fun c2 => ?_)
    · have h := h.1 c2
      refine gd_aload_n X dX5_goes_14 0 rfl ?_
      refine gX5_12 X dX5_goes_15 ?_
      refine gX5_85 0 (by decide) X dX5_goes_18 ?_
      refine gd_iconst (v := (-1)) X dX5_goes_21 (by decide) ?_
      refine gd_icmp_ne (tgt := 28) X dX5_goes_22 (by decide) (fun c3 => ?_) (fun c3 => ?_)
      · have h := h.1 c3
        refine gd_aload_n X dX5_goes_28 0 rfl ?_
        refine gX5_19 X dX5_goes_29 ?_
        refine gd_aload_n X dX5_goes_32 0 rfl ?_
        refine gX5_12 X dX5_goes_33 ?_
        refine gd_callVv (As := [.ref (ad 19)]) (rest := []) X lk_X5_49 (c_X2_remember _ _ _ _ _ _ _ h) 1 rfl rfl ⟨by decide, by decide⟩ rfl rfl (Nat.le_of_ble_eq_true rfl) dX5_goes_36 (fun g4 h => ?_)
        refine gd_aload_n X dX5_goes_39 0 rfl ?_
        refine gX5_12 X dX5_goes_40 ?_
        refine gd_aload_n X dX5_goes_43 0 rfl ?_
        refine gX5_12 X dX5_goes_44 ?_
        refine gX5_85 0 (by decide) X dX5_goes_47 ?_
        refine gd_iload_n X dX5_goes_50 1 rfl ?_
        refine gd_callSr (As := [.int ((g4 20 3)), .int x1]) (rest := [.ref (ad 19)]) X lk_X5_96 (c_X3_later _ _ _ _ _ _ h) ⟨by decide, by decide⟩ rfl rfl (Nat.le_of_ble_eq_true rfl) dX5_goes_51 (fun r5 h => ?_)
        refine pX5_85 0 (by decide) X dX5_goes_54 (fun g6 eg6 => ?_)
        have h := h g6 eg6
        refine gd_aload_n X dX5_goes_57 0 rfl ?_
        refine gX5_12 X dX5_goes_58 ?_
        refine gd_aload_n X dX5_goes_61 0 rfl ?_
        refine gX5_12 X dX5_goes_62 ?_
        refine gX5_88 0 (by decide) X dX5_goes_65 ?_
        refine gd_iload_n X dX5_goes_68 1 rfl ?_
        refine gd_iadd X dX5_goes_69 ?_
        refine gd_sipush (v := 9999) X dX5_goes_70 (by decide) ?_
        refine gd_callSr (As := [.int (((g6 20 4) + x1)), .int 9999]) (rest := [.ref (ad 19)]) X lk_X5_100 (c_J9_min_7cf53 _ _ _ _ _ _ h) ⟨by decide, by decide⟩ rfl rfl (Nat.le_of_ble_eq_true rfl) dX5_goes_73 (fun r7 h => ?_)
        refine pX5_88 0 (by decide) X dX5_goes_76 (fun g8 eg8 => ?_)
        have h := h g8 eg8
        refine gd_aload_n X dX5_goes_79 0 rfl ?_
        refine gX5_12 X dX5_goes_80 ?_
        refine gX5_85 0 (by decide) X dX5_goes_83 ?_
        refine gd_callSr (As := [.int ((g8 20 3))]) (rest := []) X lk_X5_91 (c_X3_minuteOf _ _ _ _ _ h) ⟨by decide, by decide⟩ rfl rfl (Nat.le_of_ble_eq_true rfl) dX5_goes_86 (fun r9 h => ?_)
        exact gd_iret X hR dX5_goes_89 ⟨_, rfl, h⟩
      · have h := h.2 c3
        refine gd_bipush (v := (-2)) X dX5_goes_25 (by decide) ?_
        exact gd_iret X hR dX5_goes_27 ⟨_, rfl, h⟩
    · have h := h.2 c2
      exact w_X5_goes_12 X hR _ _ h
set_option maxRecDepth 100000 in
theorem c_X5_goes (l : Launch) (D : va_G) (A : Nat → Prop) (cy : Nat → ClassId) (ad : Nat → Nat) (post : Int32 → SG → Prop) (x1 : Int32) (g : SG) (hB : B_X5_goes_0 post x1 g) : Mt l (eC D A cy ad) yX5_goes cX5_goes 2 (some .int) 3 68 [.ref (ad 0), .int x1] g (oI post) := mt_of (plainFor_of_name (by decide)) (Nat.le_of_ble_eq_true rfl) (fun b X hR => w_X5_goes_0 X hR x1 g hB)
def B_X5_undo_0 (post : Int32 → SG → Prop) (g : SG) : Prop :=
  ((¬ (g 0 3) = 0) → B_X2_recall_0 (fun g2 => B_X5_rowChanged_0 (fun g3 => post (g3 0 3) g3) g2) g) ∧ (((g 0 3) = 0) → post (-2) g)
set_option maxRecDepth 100000 in
theorem w_X5_undo_0 {b : BX} {D : va_G} {A : Nat → Prop} {cy : Nat → ClassId} {ad : Nat → Nat} {post : Int32 → SG → Prop} (X : Cx (kC b D A cy ad) cX5_undo RX5 1 2 43) (hR : Rx (kC b D A cy ad) (some .int) (oI post)) (g : SG) (h : B_X5_undo_0 post g) : Gd (kC b D A cy ad) 1 0 [(0, .ref (ad 0))] [] g := by
  unfold B_X5_undo_0 at h
  refine gd_aload_n X dX5_undo_0 0 rfl ?_
  refine gX5_19 X dX5_undo_1 ?_
  refine gX5_105 X dX5_undo_4 ?_
  refine gd_if_ne (tgt := 13) X dX5_undo_7 (by decide) (fun c1 => ?_) (fun c1 => ?_)
  · have h := h.1 c1
    refine gd_aload_n X dX5_undo_13 0 rfl ?_
    refine gX5_19 X dX5_undo_14 ?_
    refine gd_aload_n X dX5_undo_17 0 rfl ?_
    refine gX5_12 X dX5_undo_18 ?_
    refine gd_callVv (As := [.ref (ad 19)]) (rest := []) X lk_X5_106 (c_X2_recall _ _ _ _ _ _ _ h) 1 rfl rfl ⟨by decide, by decide⟩ rfl rfl (Nat.le_of_ble_eq_true rfl) dX5_undo_21 (fun g2 h => ?_)
    refine gd_aload_n X dX5_undo_24 0 rfl ?_
    refine gd_callVv (As := []) (rest := []) X lk_X5_61 (c_X5_rowChanged _ _ _ _ _ _ _ h) 0 rfl rfl ⟨by decide, by decide⟩ rfl rfl (Nat.le_of_ble_eq_true rfl) dX5_undo_25 (fun g3 h => ?_)
    refine gd_aload_n X dX5_undo_28 0 rfl ?_
    refine gX5_19 X dX5_undo_29 ?_
    refine gX5_105 X dX5_undo_32 ?_
    exact gd_iret X hR dX5_undo_35 ⟨_, rfl, h⟩
  · have h := h.2 c1
    refine gd_bipush (v := (-2)) X dX5_undo_10 (by decide) ?_
    exact gd_iret X hR dX5_undo_12 ⟨_, rfl, h⟩
set_option maxRecDepth 100000 in
theorem c_X5_undo (l : Launch) (D : va_G) (A : Nat → Prop) (cy : Nat → ClassId) (ad : Nat → Nat) (post : Int32 → SG → Prop) (g : SG) (hB : B_X5_undo_0 post g) : Mt l (eC D A cy ad) yX5_undo cX5_undo 1 (some .int) 2 43 [.ref (ad 0)] g (oI post) := mt_of (plainFor_of_name (by decide)) (Nat.le_of_ble_eq_true rfl) (fun b X hR => w_X5_undo_0 X hR g hB)
def B_X5_symbol_28 (post : Int32 → Prop) (x1 y0 : Int32) (g : SG) : Prop :=
  post y0
set_option maxRecDepth 100000 in
theorem w_X5_symbol_28 {b : BX} {D : va_G} {A : Nat → Prop} {cy : Nat → ClassId} {ad : Nat → Nat} {g : SG} {post : Int32 → Prop} (X : Cx (kC b D A cy ad) cX5_symbol RX5 2 0 0) (hR : Rx (kC b D A cy ad) (some .int) (oR g post)) (x1 y0 : Int32) (h : B_X5_symbol_28 post x1 y0 g) : Gd (kC b D A cy ad) 2 28 [(0, .ref (ad 0)), (1, .int x1)] [.int y0] g := by
  unfold B_X5_symbol_28 at h
  exact gd_iret X hR dX5_symbol_28 ⟨_, rfl, rfl, h⟩
def B_X5_symbol_15 (post : Int32 → Prop) (x1 : Int32) (g : SG) : Prop :=
  B_X5_symbol_28 post x1 (-1) g
set_option maxRecDepth 100000 in
theorem w_X5_symbol_15 {b : BX} {D : va_G} {A : Nat → Prop} {cy : Nat → ClassId} {ad : Nat → Nat} {g : SG} {post : Int32 → Prop} (X : Cx (kC b D A cy ad) cX5_symbol RX5 2 0 0) (hR : Rx (kC b D A cy ad) (some .int) (oR g post)) (x1 : Int32) (h : B_X5_symbol_15 post x1 g) : Gd (kC b D A cy ad) 2 15 [(0, .ref (ad 0)), (1, .int x1)] [] g := by
  unfold B_X5_symbol_15 at h
  refine gd_iconst (v := (-1)) X dX5_symbol_15 (by decide) ?_
  refine gd_goto (tgt := 28) X dX5_symbol_16 (by decide) ?_
  exact w_X5_symbol_28 X hR _ _ h
def B_X5_symbol_0 (post : Int32 → Prop) (x1 : Int32) (g : SG) : Prop :=
  ((x1 < 0) → B_X5_symbol_15 post x1 g) ∧ ((¬ x1 < 0) → ((x1 < (g 20 0)) → vp_in x1 120 ∧ (B_X5_symbol_28 post x1 ((g 40 x1.toNatClampNeg)) g)) ∧ ((¬ x1 < (g 20 0)) → B_X5_symbol_15 post x1 g))
set_option maxRecDepth 100000 in
theorem w_X5_symbol_0 {b : BX} {D : va_G} {A : Nat → Prop} {cy : Nat → ClassId} {ad : Nat → Nat} {g : SG} {post : Int32 → Prop} (X : Cx (kC b D A cy ad) cX5_symbol RX5 2 0 0) (hR : Rx (kC b D A cy ad) (some .int) (oR g post)) (x1 : Int32) (h : B_X5_symbol_0 post x1 g) : Gd (kC b D A cy ad) 2 0 [(0, .ref (ad 0)), (1, .int x1)] [] g := by
  unfold B_X5_symbol_0 at h
  refine gd_iload_n X dX5_symbol_0 1 rfl ?_
  refine gd_if_lt (tgt := 15) X dX5_symbol_1 (by decide) (fun c1 => ?_) (fun c1 => ?_)
  · have h := h.1 c1
    exact w_X5_symbol_15 X hR _ h
  · have h := h.2 c1
    refine gd_iload_n X dX5_symbol_4 1 rfl ?_
    refine gd_aload_n X dX5_symbol_5 0 rfl ?_
    refine gX5_12 X dX5_symbol_6 ?_
    refine gX5_45 0 (by decide) X dX5_symbol_9 ?_
    refine gd_icmp_lt (tgt := 19) X dX5_symbol_12 (by decide) (fun c2 => ?_) (fun c2 => ?_)
    · have h := h.1 c2
      refine gd_aload_n X dX5_symbol_19 0 rfl ?_
      refine gX5_12 X dX5_symbol_20 ?_
      refine gX5_109 0 (by decide) X dX5_symbol_23 ?_
      refine gd_iload_n X dX5_symbol_26 1 rfl ?_
      refine al_held 0 (by decide) X h.1 dX5_symbol_27 ?_
      have h := h.2
      exact w_X5_symbol_28 X hR _ _ h
    · have h := h.2 c2
      exact w_X5_symbol_15 X hR _ h
set_option maxRecDepth 100000 in
theorem c_X5_symbol (l : Launch) (D : va_G) (A : Nat → Prop) (cy : Nat → ClassId) (ad : Nat → Nat) (post : Int32 → Prop) (x1 : Int32) (g : SG) (hB : B_X5_symbol_0 post x1 g) : Mt l (eC D A cy ad) yX5_symbol cX5_symbol 2 (some .int) 0 0 [.ref (ad 0), .int x1] g (oR g post) := mt_of (plainFor_of_name (by decide)) (Nat.le_of_ble_eq_true rfl) (fun b X hR => w_X5_symbol_0 X hR x1 hB)
def B_X5_read_27 (post : Int32 → SG → Prop) (x1 x2 : Int32) (g : SG) : Prop :=
  post (-1) g
set_option maxRecDepth 100000 in
theorem w_X5_read_27 {b : BX} {D : va_G} {A : Nat → Prop} {cy : Nat → ClassId} {ad : Nat → Nat} {post : Int32 → SG → Prop} (X : Cx (kC b D A cy ad) cX5_read RX5 4 5 114) (hR : Rx (kC b D A cy ad) (some .int) (oI post)) (x1 x2 : Int32) (g : SG) (h : B_X5_read_27 post x1 x2 g) : Gd (kC b D A cy ad) 4 27 [(0, .ref (ad 0)), (1, .int x1), (2, .int x2), (3, .ref (ad 5))] [] g := by
  unfold B_X5_read_27 at h
  refine gd_iconst (v := (-1)) X dX5_read_27 (by decide) ?_
  exact gd_iret X hR dX5_read_28 ⟨_, rfl, h⟩
def B_X5_read_132 (post : Int32 → SG → Prop) (x1 x2 : Int32) (g : SG) : Prop :=
  B_X0_firstOf_0 (fun r1 => B_X5_symbol_0 (fun r2 => post r2 g) ((r1 + x2) - 4) g) x1 g
set_option maxRecDepth 100000 in
theorem w_X5_read_132 {b : BX} {D : va_G} {A : Nat → Prop} {cy : Nat → ClassId} {ad : Nat → Nat} {post : Int32 → SG → Prop} (X : Cx (kC b D A cy ad) cX5_read RX5 4 5 114) (hR : Rx (kC b D A cy ad) (some .int) (oI post)) (x1 x2 : Int32) (g : SG) (h : B_X5_read_132 post x1 x2 g) : Gd (kC b D A cy ad) 4 132 [(0, .ref (ad 0)), (1, .int x1), (2, .int x2), (3, .ref (ad 5))] [] g := by
  unfold B_X5_read_132 at h
  refine gd_aload_n X dX5_read_132 0 rfl ?_
  refine gd_aload_n X dX5_read_133 3 rfl ?_
  refine gd_iload_n X dX5_read_134 1 rfl ?_
  refine gd_callVr (As := [.int x1]) (rest := [.ref (ad 0)]) X lk_X5_120 (c_X0_firstOf _ _ _ _ _ _ _ _ h) 5 rfl rfl ⟨by decide, by decide⟩ rfl rfl (Nat.le_of_ble_eq_true rfl) dX5_read_135 (fun r1 h => ?_)
  refine gd_iload_n X dX5_read_138 2 rfl ?_
  refine gd_iadd X dX5_read_139 ?_
  refine gd_iconst (v := 4) X dX5_read_140 (by decide) ?_
  refine gd_isub X dX5_read_141 ?_
  refine gd_callVr (As := [.int (((r1 + x2) - 4))]) (rest := []) X lk_X5_139 (c_X5_symbol _ _ _ _ _ _ _ _ h) 0 rfl rfl ⟨by decide, by decide⟩ rfl rfl (Nat.le_of_ble_eq_true rfl) dX5_read_142 (fun r2 h => ?_)
  exact gd_iret X hR dX5_read_145 ⟨_, rfl, h⟩
def B_X5_read_0 (post : Int32 → SG → Prop) (x1 x2 : Int32) (g : SG) : Prop :=
  B_X5_fittingFrames_0 (fun g1 => ((x1 < 0) → B_X5_read_27 post x1 x2 g1) ∧ ((¬ x1 < 0) → (((g1 0 5) ≤ x1) → B_X5_read_27 post x1 x2 g1) ∧ ((¬ (g1 0 5) ≤ x1) → ((x2 < 0) → B_X5_read_27 post x1 x2 g1) ∧ ((¬ x2 < 0) → ((x2 ≤ 8) → ((x2.toInt < 0 ∨ 8 < x2.toInt) → B_X5_read_132 post x1 x2 g1) ∧ (x2.toInt = 0 → B_X0_firstOf_0 (fun r6 => post r6 g1) x1 g1) ∧ (x2.toInt = 1 → B_X0_parity_0 (fun r7 => post r7 g1) x1 4080 g1) ∧ (x2.toInt = 2 → B_X0_parity_0 (fun r8 => post r8 g1) x1 520192 g1) ∧ (x2.toInt = 3 → B_X0_minuteOfHour_0 (fun r9 => post r9 g1) x1 g1) ∧ (x2.toInt = 4 → B_X0_hour_0 (fun r10 => post r10 g1) x1 g1) ∧ (x2.toInt = 5 → B_X5_read_132 post x1 x2 g1) ∧ (x2.toInt = 6 → B_X5_read_132 post x1 x2 g1) ∧ (x2.toInt = 7 → B_X5_read_132 post x1 x2 g1) ∧ (x2.toInt = 8 → B_X5_fittingVote_0 (fun g11 => B_X3_later_0 (fun r12 => B_X0_wrong_0 (fun r13 => post r13 g11) x1 r12 g11) (g11 0 6) x1) g1)) ∧ ((¬ x2 ≤ 8) → B_X5_read_27 post x1 x2 g1))))) g
set_option maxRecDepth 100000 in
theorem w_X5_read_0 {b : BX} {D : va_G} {A : Nat → Prop} {cy : Nat → ClassId} {ad : Nat → Nat} {post : Int32 → SG → Prop} (X : Cx (kC b D A cy ad) cX5_read RX5 4 5 114) (hR : Rx (kC b D A cy ad) (some .int) (oI post)) (x1 x2 : Int32) (g : SG) (h : B_X5_read_0 post x1 x2 g) : Gd (kC b D A cy ad) 4 0 [(0, .ref (ad 0)), (1, .int x1), (2, .int x2)] [] g := by
  unfold B_X5_read_0 at h
  refine gd_aload_n X dX5_read_0 0 rfl ?_
  refine gd_callVa (As := []) (rest := []) X lk_X5_113 (c_X5_fittingFrames _ _ _ _ _ _ _ h) 0 rfl rfl ⟨by decide, by decide⟩ rfl rfl (Nat.le_of_ble_eq_true rfl) dX5_read_1 (fun g1 h => ?_)
  refine gd_astore_n (lv' := [(3, .ref (ad 5)), (0, .ref (ad 0)), (1, .int x1), (2, .int x2)]) X dX5_read_4 (by decide) rfl ?_
  refine gd_iload_n X dX5_read_5 2 rfl ?_
  refine gd_if_lt (tgt := 27) X dX5_read_6 (by decide) (fun c2 => ?_) (fun c2 => ?_)
  · have h := h.1 c2
    refine gd_sub [1, 2, 3, 0] rfl ?_
    exact w_X5_read_27 X hR _ _ _ h
  · have h := h.2 c2
    refine gd_iload_n X dX5_read_9 2 rfl ?_
    refine gd_aload_n X dX5_read_10 0 rfl ?_
    refine gX5_117 X dX5_read_11 ?_
    refine gd_icmp_ge (tgt := 27) X dX5_read_14 (by decide) (fun c3 => ?_) (fun c3 => ?_)
    · have h := h.1 c3
      refine gd_sub [1, 2, 3, 0] rfl ?_
      exact w_X5_read_27 X hR _ _ _ h
    · have h := h.2 c3
      refine gd_iload_n X dX5_read_17 3 rfl ?_
      refine gd_if_lt (tgt := 27) X dX5_read_18 (by decide) (fun c4 => ?_) (fun c4 => ?_)
      · have h := h.1 c4
        refine gd_sub [1, 2, 3, 0] rfl ?_
        exact w_X5_read_27 X hR _ _ _ h
      · have h := h.2 c4
        refine gd_iload_n X dX5_read_21 3 rfl ?_
        refine gd_bipush (v := 8) X dX5_read_22 (by decide) ?_
        refine gd_icmp_le (tgt := 29) X dX5_read_24 (by decide) (fun c5 => ?_) (fun c5 => ?_)
        · have h := h.1 c5
          refine gd_iload_n X dX5_read_29 3 rfl ?_
          refine gd_table (tgt := 132) X dX5_read_30 (by decide) [80, 86, 95, 103, 109, 132, 132, 132, 115] (by decide) (by decide) (fun c14 => ?_) ⟨fun c14 => ?_, fun c14 => ?_, fun c14 => ?_, fun c14 => ?_, fun c14 => ?_, fun c14 => ?_, fun c14 => ?_, fun c14 => ?_, fun c14 => ?_, trivial⟩
          · have h := h.1 (by omega)
            refine gd_sub [1, 2, 3, 0] rfl ?_
            exact w_X5_read_132 X hR _ _ _ h
          · have h := h.2.1 (by omega)
            refine gd_aload_n X dX5_read_80 0 rfl ?_
            refine gd_iload_n X dX5_read_81 2 rfl ?_
            refine gd_callVr (As := [.int x1]) (rest := []) X lk_X5_120 (c_X0_firstOf _ _ _ _ _ _ _ _ h) 5 rfl rfl ⟨by decide, by decide⟩ rfl rfl (Nat.le_of_ble_eq_true rfl) dX5_read_82 (fun r6 h => ?_)
            exact gd_iret X hR dX5_read_85 ⟨_, rfl, h⟩
          · have h := h.2.2.1 (by omega)
            refine gd_aload_n X dX5_read_86 0 rfl ?_
            refine gd_iload_n X dX5_read_87 2 rfl ?_
            refine gd_sipush (v := 4080) X dX5_read_88 (by decide) ?_
            refine gd_callVr (As := [.int x1, .int 4080]) (rest := []) X lk_X5_123 (c_X0_parity _ _ _ _ _ _ _ _ _ h) 5 rfl rfl ⟨by decide, by decide⟩ rfl rfl (Nat.le_of_ble_eq_true rfl) dX5_read_91 (fun r7 h => ?_)
            exact gd_iret X hR dX5_read_94 ⟨_, rfl, h⟩
          · have h := h.2.2.2.1 (by omega)
            refine gd_aload_n X dX5_read_95 0 rfl ?_
            refine gd_iload_n X dX5_read_96 2 rfl ?_
            refine gd_ldc (v := 520192) X q_354 dX5_read_97 ?_
            refine gd_callVr (As := [.int x1, .int 520192]) (rest := []) X lk_X5_123 (c_X0_parity _ _ _ _ _ _ _ _ _ h) 5 rfl rfl ⟨by decide, by decide⟩ rfl rfl (Nat.le_of_ble_eq_true rfl) dX5_read_99 (fun r8 h => ?_)
            exact gd_iret X hR dX5_read_102 ⟨_, rfl, h⟩
          · have h := h.2.2.2.2.1 (by omega)
            refine gd_aload_n X dX5_read_103 0 rfl ?_
            refine gd_iload_n X dX5_read_104 2 rfl ?_
            refine gd_callVr (As := [.int x1]) (rest := []) X lk_X5_127 (c_X0_minuteOfHour _ _ _ _ _ _ _ _ h) 5 rfl rfl ⟨by decide, by decide⟩ rfl rfl (Nat.le_of_ble_eq_true rfl) dX5_read_105 (fun r9 h => ?_)
            exact gd_iret X hR dX5_read_108 ⟨_, rfl, h⟩
          · have h := h.2.2.2.2.2.1 (by omega)
            refine gd_aload_n X dX5_read_109 0 rfl ?_
            refine gd_iload_n X dX5_read_110 2 rfl ?_
            refine gd_callVr (As := [.int x1]) (rest := []) X lk_X5_130 (c_X0_hour _ _ _ _ _ _ _ _ h) 5 rfl rfl ⟨by decide, by decide⟩ rfl rfl (Nat.le_of_ble_eq_true rfl) dX5_read_111 (fun r10 h => ?_)
            exact gd_iret X hR dX5_read_114 ⟨_, rfl, h⟩
          · have h := h.2.2.2.2.2.2.1 (by omega)
            refine gd_sub [1, 2, 3, 0] rfl ?_
            exact w_X5_read_132 X hR _ _ _ h
          · have h := h.2.2.2.2.2.2.2.1 (by omega)
            refine gd_sub [1, 2, 3, 0] rfl ?_
            exact w_X5_read_132 X hR _ _ _ h
          · have h := h.2.2.2.2.2.2.2.2.1 (by omega)
            refine gd_sub [1, 2, 3, 0] rfl ?_
            exact w_X5_read_132 X hR _ _ _ h
          · have h := h.2.2.2.2.2.2.2.2.2 (by omega)
            refine gd_aload_n X dX5_read_115 0 rfl ?_
            refine gd_iload_n X dX5_read_116 2 rfl ?_
            refine gd_aload_n X dX5_read_117 1 rfl ?_
            refine gd_callVa (As := []) (rest := [.int x1, .ref (ad 5)]) X lk_X5_78 (c_X5_fittingVote _ _ _ _ _ _ _ h) 0 rfl rfl ⟨by decide, by decide⟩ rfl rfl (Nat.le_of_ble_eq_true rfl) dX5_read_118 (fun g11 h => ?_)
            refine gX5_133 X dX5_read_121 ?_
            refine gd_iload_n X dX5_read_124 2 rfl ?_
            refine gd_callSr (As := [.int ((g11 0 6)), .int x1]) (rest := [.int x1, .ref (ad 5)]) X lk_X5_96 (c_X3_later _ _ _ _ _ _ h) ⟨by decide, by decide⟩ rfl rfl (Nat.le_of_ble_eq_true rfl) dX5_read_125 (fun r12 h => ?_)
            refine gd_callVr (As := [.int x1, .int r12]) (rest := []) X lk_X5_136 (c_X0_wrong _ _ _ _ _ _ _ _ _ h) 5 rfl rfl ⟨by decide, by decide⟩ rfl rfl (Nat.le_of_ble_eq_true rfl) dX5_read_128 (fun r13 h => ?_)
            exact gd_iret X hR dX5_read_131 ⟨_, rfl, h⟩
        · have h := h.2 c5
          refine gd_sub [1, 2, 3, 0] rfl ?_
          exact w_X5_read_27 X hR _ _ _ h
set_option maxRecDepth 100000 in
theorem c_X5_read (l : Launch) (D : va_G) (A : Nat → Prop) (cy : Nat → ClassId) (ad : Nat → Nat) (post : Int32 → SG → Prop) (x1 x2 : Int32) (g : SG) (hB : B_X5_read_0 post x1 x2 g) : Mt l (eC D A cy ad) yX5_read cX5_read 4 (some .int) 5 114 [.ref (ad 0), .int x1, .int x2] g (oI post) := mt_of (plainFor_of_name (by decide)) (Nat.le_of_ble_eq_true rfl) (fun b X hR => w_X5_read_0 X hR x1 x2 g hB)
def B_X5_vote_10 (post : Int32 → SG → Prop) (x1 : Int32) (g : SG) : Prop :=
  post (-1) g
set_option maxRecDepth 100000 in
theorem w_X5_vote_10 {b : BX} {D : va_G} {A : Nat → Prop} {cy : Nat → ClassId} {ad : Nat → Nat} {post : Int32 → SG → Prop} (X : Cx (kC b D A cy ad) cX5_vote RX5 3 6 134) (hR : Rx (kC b D A cy ad) (some .int) (oI post)) (x1 : Int32) (g : SG) (h : B_X5_vote_10 post x1 g) : Gd (kC b D A cy ad) 3 10 [(0, .ref (ad 0)), (1, .int x1)] [] g := by
  unfold B_X5_vote_10 at h
  refine gd_iconst (v := (-1)) X dX5_vote_10 (by decide) ?_
  exact gd_iret X hR dX5_vote_11 ⟨_, rfl, h⟩
def B_X5_vote_78 (post : Int32 → SG → Prop) (x1 y0 : Int32) (g : SG) : Prop :=
  post y0 g
set_option maxRecDepth 100000 in
theorem w_X5_vote_78 {b : BX} {D : va_G} {A : Nat → Prop} {cy : Nat → ClassId} {ad : Nat → Nat} {post : Int32 → SG → Prop} (X : Cx (kC b D A cy ad) cX5_vote RX5 3 6 134) (hR : Rx (kC b D A cy ad) (some .int) (oI post)) (x1 y0 : Int32) (g : SG) (h : B_X5_vote_78 post x1 y0 g) : Gd (kC b D A cy ad) 3 78 [(0, .ref (ad 0)), (1, .int x1), (2, .ref (ad 9))] [.int y0] g := by
  unfold B_X5_vote_78 at h
  exact gd_iret X hR dX5_vote_78 ⟨_, rfl, h⟩
def B_X5_vote_106 (post : Int32 → SG → Prop) (x1 y0 : Int32) (g : SG) : Prop :=
  post y0 g
set_option maxRecDepth 100000 in
theorem w_X5_vote_106 {b : BX} {D : va_G} {A : Nat → Prop} {cy : Nat → ClassId} {ad : Nat → Nat} {post : Int32 → SG → Prop} (X : Cx (kC b D A cy ad) cX5_vote RX5 3 6 134) (hR : Rx (kC b D A cy ad) (some .int) (oI post)) (x1 y0 : Int32) (g : SG) (h : B_X5_vote_106 post x1 y0 g) : Gd (kC b D A cy ad) 3 106 [(0, .ref (ad 0)), (1, .int x1), (2, .ref (ad 9))] [.int y0] g := by
  unfold B_X5_vote_106 at h
  exact gd_iret X hR dX5_vote_106 ⟨_, rfl, h⟩
def B_X5_vote_0 (post : Int32 → SG → Prop) (x1 : Int32) (g : SG) : Prop :=
  ((x1 < 0) → B_X5_vote_10 post x1 g) ∧ ((¬ x1 < 0) → ((x1 ≤ 10) → B_X5_fittingFrames_0 (fun g3 => ((¬ (g3 0 5) = 0) → B_X5_fittingVote_0 (fun g5 => ((x1.toInt < 4 ∨ 6 < x1.toInt) → ((4 ≤ x1) → B_X3_partOf_0 (fun r7 => B_X5_vote_106 post x1 r7 g5) (g5 0 9) (x1 - 7)) ∧ ((¬ 4 ≤ x1) → B_X3_partOf_0 (fun r8 => B_X5_vote_106 post x1 r8 g5) (g5 0 6) x1)) ∧ (x1.toInt = 4 → post (g5 0 7) g5) ∧ (x1.toInt = 5 → post (g5 0 8) g5) ∧ (x1.toInt = 6 → B_X5_isShown_0 (fun r9 g10 => ((r9 = 0) → B_X5_vote_78 post x1 0 g10) ∧ ((¬ r9 = 0) → B_X5_vote_78 post x1 1 g10)) g5)) g3) ∧ (((g3 0 5) = 0) → post (-9) g3)) g) ∧ ((¬ x1 ≤ 10) → B_X5_vote_10 post x1 g))
set_option maxRecDepth 100000 in
theorem w_X5_vote_0 {b : BX} {D : va_G} {A : Nat → Prop} {cy : Nat → ClassId} {ad : Nat → Nat} {post : Int32 → SG → Prop} (X : Cx (kC b D A cy ad) cX5_vote RX5 3 6 134) (hR : Rx (kC b D A cy ad) (some .int) (oI post)) (x1 : Int32) (g : SG) (h : B_X5_vote_0 post x1 g) : Gd (kC b D A cy ad) 3 0 [(0, .ref (ad 0)), (1, .int x1)] [] g := by
  unfold B_X5_vote_0 at h
  refine gd_iload_n X dX5_vote_0 1 rfl ?_
  refine gd_if_lt (tgt := 10) X dX5_vote_1 (by decide) (fun c1 => ?_) (fun c1 => ?_)
  · have h := h.1 c1
    exact w_X5_vote_10 X hR _ _ h
  · have h := h.2 c1
    refine gd_iload_n X dX5_vote_4 1 rfl ?_
    refine gd_bipush (v := 10) X dX5_vote_5 (by decide) ?_
    refine gd_icmp_le (tgt := 12) X dX5_vote_7 (by decide) (fun c2 => ?_) (fun c2 => ?_)
    · have h := h.1 c2
      refine gd_aload_n X dX5_vote_12 0 rfl ?_
      refine gd_callVa (As := []) (rest := []) X lk_X5_113 (c_X5_fittingFrames _ _ _ _ _ _ _ h) 0 rfl rfl ⟨by decide, by decide⟩ rfl rfl (Nat.le_of_ble_eq_true rfl) dX5_vote_13 (fun g3 h => ?_)
      refine gX5_117 X dX5_vote_16 ?_
      refine gd_if_ne (tgt := 25) X dX5_vote_19 (by decide) (fun c4 => ?_) (fun c4 => ?_)
      · have h := h.1 c4
        refine gd_aload_n X dX5_vote_25 0 rfl ?_
        refine gd_callVa (As := []) (rest := []) X lk_X5_78 (c_X5_fittingVote _ _ _ _ _ _ _ h) 0 rfl rfl ⟨by decide, by decide⟩ rfl rfl (Nat.le_of_ble_eq_true rfl) dX5_vote_26 (fun g5 h => ?_)
        refine gd_astore_n (lv' := [(2, .ref (ad 9)), (0, .ref (ad 0)), (1, .int x1)]) X dX5_vote_29 (by decide) rfl ?_
        refine gd_iload_n X dX5_vote_30 2 rfl ?_
        refine gd_table (tgt := 79) X dX5_vote_31 (by decide) [56, 61, 66] (by decide) (by decide) (fun c12 => ?_) ⟨fun c12 => ?_, fun c12 => ?_, fun c12 => ?_, trivial⟩
        · have h := h.1 (by omega)
          refine gd_iload_n X dX5_vote_79 2 rfl ?_
          refine gd_iconst (v := 4) X dX5_vote_80 (by decide) ?_
          refine gd_icmp_ge (tgt := 95) X dX5_vote_81 (by decide) (fun c6 => ?_) (fun c6 => ?_)
          · have h := h.1 c6
            refine gd_aload_n X dX5_vote_95 0 rfl ?_
            refine gX5_82 X dX5_vote_96 ?_
            refine gd_iload_n X dX5_vote_99 2 rfl ?_
            refine gd_bipush (v := 7) X dX5_vote_100 (by decide) ?_
            refine gd_isub X dX5_vote_102 ?_
            refine gd_callSr (As := [.int ((g5 0 9)), .int ((x1 - 7))]) (rest := []) X lk_X5_148 (c_X3_partOf _ _ _ _ _ _ h) ⟨by decide, by decide⟩ rfl rfl (Nat.le_of_ble_eq_true rfl) dX5_vote_103 (fun r7 h => ?_)
            refine gd_sub [1, 2, 0] rfl ?_
            exact w_X5_vote_106 X hR _ _ _ h
          · have h := h.2 c6
            refine gd_aload_n X dX5_vote_84 0 rfl ?_
            refine gX5_133 X dX5_vote_85 ?_
            refine gd_iload_n X dX5_vote_88 2 rfl ?_
            refine gd_callSr (As := [.int ((g5 0 6)), .int x1]) (rest := []) X lk_X5_148 (c_X3_partOf _ _ _ _ _ _ h) ⟨by decide, by decide⟩ rfl rfl (Nat.le_of_ble_eq_true rfl) dX5_vote_89 (fun r8 h => ?_)
            refine gd_goto (tgt := 106) X dX5_vote_92 (by decide) ?_
            refine gd_sub [1, 2, 0] rfl ?_
            exact w_X5_vote_106 X hR _ _ _ h
        · have h := h.2.1 (by omega)
          refine gd_aload_n X dX5_vote_56 0 rfl ?_
          refine gX5_142 X dX5_vote_57 ?_
          exact gd_iret X hR dX5_vote_60 ⟨_, rfl, h⟩
        · have h := h.2.2.1 (by omega)
          refine gd_aload_n X dX5_vote_61 0 rfl ?_
          refine gX5_145 X dX5_vote_62 ?_
          exact gd_iret X hR dX5_vote_65 ⟨_, rfl, h⟩
        · have h := h.2.2.2 (by omega)
          refine gd_aload_n X dX5_vote_66 1 rfl ?_
          refine gd_callVi (As := []) (rest := []) X lk_X5_74 (c_X5_isShown _ _ _ _ _ _ _ h) 0 rfl rfl ⟨by decide, by decide⟩ rfl rfl (Nat.le_of_ble_eq_true rfl) dX5_vote_67 (fun r9 g10 h => ?_)
          refine gd_if_eq (tgt := 77) X dX5_vote_70 (by decide) (fun c11 => ?_) (fun c11 => ?_)
          · have h := h.1 c11
            refine gd_iconst (v := 0) X dX5_vote_77 (by decide) ?_
            refine gd_sub [1, 2, 0] rfl ?_
            exact w_X5_vote_78 X hR _ _ _ h
          · have h := h.2 c11
            refine gd_iconst (v := 1) X dX5_vote_73 (by decide) ?_
            refine gd_goto (tgt := 78) X dX5_vote_74 (by decide) ?_
            refine gd_sub [1, 2, 0] rfl ?_
            exact w_X5_vote_78 X hR _ _ _ h
      · have h := h.2 c4
        refine gd_bipush (v := (-9)) X dX5_vote_22 (by decide) ?_
        exact gd_iret X hR dX5_vote_24 ⟨_, rfl, h⟩
    · have h := h.2 c2
      exact w_X5_vote_10 X hR _ _ h
set_option maxRecDepth 100000 in
theorem c_X5_vote (l : Launch) (D : va_G) (A : Nat → Prop) (cy : Nat → ClassId) (ad : Nat → Nat) (post : Int32 → SG → Prop) (x1 : Int32) (g : SG) (hB : B_X5_vote_0 post x1 g) : Mt l (eC D A cy ad) yX5_vote cX5_vote 3 (some .int) 6 134 [.ref (ad 0), .int x1] g (oI post) := mt_of (plainFor_of_name (by decide)) (Nat.le_of_ble_eq_true rfl) (fun b X hR => w_X5_vote_0 X hR x1 g hB)
def B_X5_misses_0 (post : Int32 → SG → Prop) (x1 x2 x3 x4 : Int32) (g : SG) : Prop :=
  B_X3_isTime_0 (fun r1 => ((¬ r1 = 0) → B_X5_fittingFrames_0 (fun g3 => B_X3_of_0 (fun r4 => B_X0_missesFrom_0 (fun r5 => post r5 g3) r4 g3) x1 x2 x3 x4) g) ∧ ((r1 = 0) → post (-1) g)) x1 x2 x3 x4
set_option maxRecDepth 100000 in
theorem w_X5_misses_0 {b : BX} {D : va_G} {A : Nat → Prop} {cy : Nat → ClassId} {ad : Nat → Nat} {post : Int32 → SG → Prop} (X : Cx (kC b D A cy ad) cX5_misses RX5 5 3 71) (hR : Rx (kC b D A cy ad) (some .int) (oI post)) (x1 x2 x3 x4 : Int32) (g : SG) (h : B_X5_misses_0 post x1 x2 x3 x4 g) : Gd (kC b D A cy ad) 5 0 [(0, .ref (ad 0)), (1, .int x1), (2, .int x2), (3, .int x3), (4, .int x4)] [] g := by
  unfold B_X5_misses_0 at h
  refine gd_iload_n X dX5_misses_0 1 rfl ?_
  refine gd_iload_n X dX5_misses_1 2 rfl ?_
  refine gd_iload_n X dX5_misses_2 3 rfl ?_
  refine gd_iload X dX5_misses_3 4 rfl ?_
  refine gd_callSr (As := [.int x1, .int x2, .int x3, .int x4]) (rest := []) X lk_X5_151 (c_X3_isTime _ _ _ _ _ _ _ _ h) ⟨by decide, by decide⟩ rfl rfl (Nat.le_of_ble_eq_true rfl) dX5_misses_5 (fun r1 h => ?_)
  refine gd_if_ne (tgt := 13) X dX5_misses_8 (by decide) (fun c2 => ?_) (fun c2 => ?_)
  · have h := h.1 c2
    refine gd_aload_n X dX5_misses_13 0 rfl ?_
    refine gd_callVa (As := []) (rest := []) X lk_X5_113 (c_X5_fittingFrames _ _ _ _ _ _ _ h) 0 rfl rfl ⟨by decide, by decide⟩ rfl rfl (Nat.le_of_ble_eq_true rfl) dX5_misses_14 (fun g3 h => ?_)
    refine gd_iload_n X dX5_misses_17 1 rfl ?_
    refine gd_iload_n X dX5_misses_18 2 rfl ?_
    refine gd_iload_n X dX5_misses_19 3 rfl ?_
    refine gd_iload X dX5_misses_20 4 rfl ?_
    refine gd_callSr (As := [.int x1, .int x2, .int x3, .int x4]) (rest := [.ref (ad 5)]) X lk_X5_155 (c_X3_of _ _ _ _ _ _ _ _ h) ⟨by decide, by decide⟩ rfl rfl (Nat.le_of_ble_eq_true rfl) dX5_misses_22 (fun r4 h => ?_)
    refine gd_callVr (As := [.int r4]) (rest := []) X lk_X5_159 (c_X0_missesFrom _ _ _ _ _ _ _ _ h) 5 rfl rfl ⟨by decide, by decide⟩ rfl rfl (Nat.le_of_ble_eq_true rfl) dX5_misses_25 (fun r5 h => ?_)
    exact gd_iret X hR dX5_misses_28 ⟨_, rfl, h⟩
  · have h := h.2 c2
    refine gd_iconst (v := (-1)) X dX5_misses_11 (by decide) ?_
    exact gd_iret X hR dX5_misses_12 ⟨_, rfl, h⟩
set_option maxRecDepth 100000 in
theorem c_X5_misses (l : Launch) (D : va_G) (A : Nat → Prop) (cy : Nat → ClassId) (ad : Nat → Nat) (post : Int32 → SG → Prop) (x1 x2 x3 x4 : Int32) (g : SG) (hB : B_X5_misses_0 post x1 x2 x3 x4 g) : Mt l (eC D A cy ad) yX5_misses cX5_misses 5 (some .int) 3 71 [.ref (ad 0), .int x1, .int x2, .int x3, .int x4] g (oI post) := mt_of (plainFor_of_name (by decide)) (Nat.le_of_ble_eq_true rfl) (fun b X hR => w_X5_misses_0 X hR x1 x2 x3 x4 g hB)
def B_X5_close_15 (post : Int32 → SG → Prop) (x1 x2 : Int32) (g : SG) : Prop :=
  post (-1) g
set_option maxRecDepth 100000 in
theorem w_X5_close_15 {b : BX} {D : va_G} {A : Nat → Prop} {cy : Nat → ClassId} {ad : Nat → Nat} {post : Int32 → SG → Prop} (X : Cx (kC b D A cy ad) cX5_close RX5 4 5 114) (hR : Rx (kC b D A cy ad) (some .int) (oI post)) (x1 x2 : Int32) (g : SG) (h : B_X5_close_15 post x1 x2 g) : Gd (kC b D A cy ad) 4 15 [(0, .ref (ad 0)), (1, .int x1), (2, .int x2)] [] g := by
  unfold B_X5_close_15 at h
  refine gd_iconst (v := (-1)) X dX5_close_15 (by decide) ?_
  exact gd_iret X hR dX5_close_16 ⟨_, rfl, h⟩
def B_X5_close_41 (post : Int32 → SG → Prop) (x1 x2 y0 : Int32) (g : SG) : Prop :=
  post y0 g
set_option maxRecDepth 100000 in
theorem w_X5_close_41 {b : BX} {D : va_G} {A : Nat → Prop} {cy : Nat → ClassId} {ad : Nat → Nat} {post : Int32 → SG → Prop} (X : Cx (kC b D A cy ad) cX5_close RX5 4 5 114) (hR : Rx (kC b D A cy ad) (some .int) (oI post)) (x1 x2 y0 : Int32) (g : SG) (h : B_X5_close_41 post x1 x2 y0 g) : Gd (kC b D A cy ad) 4 41 [(0, .ref (ad 0)), (1, .int x1), (2, .int x2), (3, .ref (ad 9))] [.int y0] g := by
  unfold B_X5_close_41 at h
  exact gd_iret X hR dX5_close_41 ⟨_, rfl, h⟩
def B_X5_close_0 (post : Int32 → SG → Prop) (x1 x2 : Int32) (g : SG) : Prop :=
  ((x1 < 0) → B_X5_close_15 post x1 x2 g) ∧ ((¬ x1 < 0) → ((120 < x1) → B_X5_close_15 post x1 x2 g) ∧ ((¬ 120 < x1) → (((-1) ≤ x2) → B_X5_fittingVote_0 (fun g4 => ((¬ x2 = (-1)) → B_X4_closeTime_0 (fun r6 => B_X5_close_41 post x1 x2 r6 g4) x1 x2 g4) ∧ ((x2 = (-1)) → B_X4_closeCount_0 (fun r7 => B_X5_close_41 post x1 x2 r7 g4) x1 g4)) g) ∧ ((¬ (-1) ≤ x2) → B_X5_close_15 post x1 x2 g)))
set_option maxRecDepth 100000 in
theorem w_X5_close_0 {b : BX} {D : va_G} {A : Nat → Prop} {cy : Nat → ClassId} {ad : Nat → Nat} {post : Int32 → SG → Prop} (X : Cx (kC b D A cy ad) cX5_close RX5 4 5 114) (hR : Rx (kC b D A cy ad) (some .int) (oI post)) (x1 x2 : Int32) (g : SG) (h : B_X5_close_0 post x1 x2 g) : Gd (kC b D A cy ad) 4 0 [(0, .ref (ad 0)), (1, .int x1), (2, .int x2)] [] g := by
  unfold B_X5_close_0 at h
  refine gd_iload_n X dX5_close_0 1 rfl ?_
  refine gd_if_lt (tgt := 15) X dX5_close_1 (by decide) (fun c1 => ?_) (fun c1 => ?_)
  · have h := h.1 c1
    exact w_X5_close_15 X hR _ _ _ h
  · have h := h.2 c1
    refine gd_iload_n X dX5_close_4 1 rfl ?_
    refine gd_bipush (v := 120) X dX5_close_5 (by decide) ?_
    refine gd_icmp_gt (tgt := 15) X dX5_close_7 (by decide) (fun c2 => ?_) (fun c2 => ?_)
    · have h := h.1 c2
      exact w_X5_close_15 X hR _ _ _ h
    · have h := h.2 c2
      refine gd_iload_n X dX5_close_10 2 rfl ?_
      refine gd_iconst (v := (-1)) X dX5_close_11 (by decide) ?_
      refine gd_icmp_ge (tgt := 17) X dX5_close_12 (by decide) (fun c3 => ?_) (fun c3 => ?_)
      · have h := h.1 c3
        refine gd_aload_n X dX5_close_17 0 rfl ?_
        refine gd_callVa (As := []) (rest := []) X lk_X5_78 (c_X5_fittingVote _ _ _ _ _ _ _ h) 0 rfl rfl ⟨by decide, by decide⟩ rfl rfl (Nat.le_of_ble_eq_true rfl) dX5_close_18 (fun g4 h => ?_)
        refine gd_astore_n (lv' := [(3, .ref (ad 9)), (0, .ref (ad 0)), (1, .int x1), (2, .int x2)]) X dX5_close_21 (by decide) rfl ?_
        refine gd_iload_n X dX5_close_22 3 rfl ?_
        refine gd_iconst (v := (-1)) X dX5_close_23 (by decide) ?_
        refine gd_icmp_ne (tgt := 35) X dX5_close_24 (by decide) (fun c5 => ?_) (fun c5 => ?_)
        · have h := h.1 c5
          refine gd_aload_n X dX5_close_35 0 rfl ?_
          refine gd_iload_n X dX5_close_36 2 rfl ?_
          refine gd_iload_n X dX5_close_37 3 rfl ?_
          refine gd_callVr (As := [.int x1, .int x2]) (rest := []) X lk_X5_165 (c_X4_closeTime _ _ _ _ _ _ _ _ _ h) 9 rfl rfl ⟨by decide, by decide⟩ rfl rfl (Nat.le_of_ble_eq_true rfl) dX5_close_38 (fun r6 h => ?_)
          refine gd_sub [1, 2, 3, 0] rfl ?_
          exact w_X5_close_41 X hR _ _ _ _ h
        · have h := h.2 c5
          refine gd_aload_n X dX5_close_27 0 rfl ?_
          refine gd_iload_n X dX5_close_28 2 rfl ?_
          refine gd_callVr (As := [.int x1]) (rest := []) X lk_X5_162 (c_X4_closeCount _ _ _ _ _ _ _ _ h) 9 rfl rfl ⟨by decide, by decide⟩ rfl rfl (Nat.le_of_ble_eq_true rfl) dX5_close_29 (fun r7 h => ?_)
          refine gd_goto (tgt := 41) X dX5_close_32 (by decide) ?_
          refine gd_sub [1, 2, 3, 0] rfl ?_
          exact w_X5_close_41 X hR _ _ _ _ h
      · have h := h.2 c3
        exact w_X5_close_15 X hR _ _ _ h
set_option maxRecDepth 100000 in
theorem c_X5_close (l : Launch) (D : va_G) (A : Nat → Prop) (cy : Nat → ClassId) (ad : Nat → Nat) (post : Int32 → SG → Prop) (x1 x2 : Int32) (g : SG) (hB : B_X5_close_0 post x1 x2 g) : Mt l (eC D A cy ad) yX5_close cX5_close 4 (some .int) 5 114 [.ref (ad 0), .int x1, .int x2] g (oI post) := mt_of (plainFor_of_name (by decide)) (Nat.le_of_ble_eq_true rfl) (fun b X hR => w_X5_close_0 X hR x1 x2 g hB)
def B_X5_bits_0 (post : Int32 → Prop) (x1 x2 x3 x4 : Int32) (g : SG) : Prop :=
  B_X3_isTime_0 (fun r1 => ((¬ r1 = 0) → B_X3_of_0 (fun r3 => B_X3_bitsOf_0 (fun r4 => post r4) r3) x1 x2 x3 x4) ∧ ((r1 = 0) → post (-1))) x1 x2 x3 x4
set_option maxRecDepth 100000 in
theorem w_X5_bits_0 {b : BX} {D : va_G} {A : Nat → Prop} {cy : Nat → ClassId} {ad : Nat → Nat} {g : SG} {post : Int32 → Prop} (X : Cx (kC b D A cy ad) cX5_bits RX5 5 2 47) (hR : Rx (kC b D A cy ad) (some .int) (oR g post)) (x1 x2 x3 x4 : Int32) (h : B_X5_bits_0 post x1 x2 x3 x4 g) : Gd (kC b D A cy ad) 5 0 [(0, .ref (ad 0)), (1, .int x1), (2, .int x2), (3, .int x3), (4, .int x4)] [] g := by
  unfold B_X5_bits_0 at h
  refine gd_iload_n X dX5_bits_0 1 rfl ?_
  refine gd_iload_n X dX5_bits_1 2 rfl ?_
  refine gd_iload_n X dX5_bits_2 3 rfl ?_
  refine gd_iload X dX5_bits_3 4 rfl ?_
  refine gd_callSr (As := [.int x1, .int x2, .int x3, .int x4]) (rest := []) X lk_X5_151 (c_X3_isTime _ _ _ _ _ _ _ _ h) ⟨by decide, by decide⟩ rfl rfl (Nat.le_of_ble_eq_true rfl) dX5_bits_5 (fun r1 h => ?_)
  refine gd_if_ne (tgt := 13) X dX5_bits_8 (by decide) (fun c2 => ?_) (fun c2 => ?_)
  · have h := h.1 c2
    refine gd_iload_n X dX5_bits_13 1 rfl ?_
    refine gd_iload_n X dX5_bits_14 2 rfl ?_
    refine gd_iload_n X dX5_bits_15 3 rfl ?_
    refine gd_iload X dX5_bits_16 4 rfl ?_
    refine gd_callSr (As := [.int x1, .int x2, .int x3, .int x4]) (rest := []) X lk_X5_155 (c_X3_of _ _ _ _ _ _ _ _ h) ⟨by decide, by decide⟩ rfl rfl (Nat.le_of_ble_eq_true rfl) dX5_bits_18 (fun r3 h => ?_)
    refine gd_callSr (As := [.int r3]) (rest := []) X lk_X5_168 (c_X3_bitsOf _ _ _ _ _ h) ⟨by decide, by decide⟩ rfl rfl (Nat.le_of_ble_eq_true rfl) dX5_bits_21 (fun r4 h => ?_)
    exact gd_iret X hR dX5_bits_24 ⟨_, rfl, rfl, h⟩
  · have h := h.2 c2
    refine gd_iconst (v := (-1)) X dX5_bits_11 (by decide) ?_
    exact gd_iret X hR dX5_bits_12 ⟨_, rfl, rfl, h⟩
set_option maxRecDepth 100000 in
theorem c_X5_bits (l : Launch) (D : va_G) (A : Nat → Prop) (cy : Nat → ClassId) (ad : Nat → Nat) (post : Int32 → Prop) (x1 x2 x3 x4 : Int32) (g : SG) (hB : B_X5_bits_0 post x1 x2 x3 x4 g) : Mt l (eC D A cy ad) yX5_bits cX5_bits 5 (some .int) 2 47 [.ref (ad 0), .int x1, .int x2, .int x3, .int x4] g (oR g post) := mt_of (plainFor_of_name (by decide)) (Nat.le_of_ble_eq_true rfl) (fun b X hR => w_X5_bits_0 X hR x1 x2 x3 x4 hB)
def B_X5_drifted_0 (post : Int32 → Prop) (g : SG) : Prop :=
  post ((g 20 2) * (g 20 4))
set_option maxRecDepth 100000 in
theorem w_X5_drifted_0 {b : BX} {D : va_G} {A : Nat → Prop} {cy : Nat → ClassId} {ad : Nat → Nat} {g : SG} {post : Int32 → Prop} (X : Cx (kC b D A cy ad) cX5_drifted RX5 1 0 0) (hR : Rx (kC b D A cy ad) (some .int) (oR g post)) (h : B_X5_drifted_0 post g) : Gd (kC b D A cy ad) 1 0 [(0, .ref (ad 0))] [] g := by
  unfold B_X5_drifted_0 at h
  refine gd_aload_n X dX5_drifted_0 0 rfl ?_
  refine gX5_12 X dX5_drifted_1 ?_
  refine gX5_71 0 (by decide) X dX5_drifted_4 ?_
  refine gd_aload_n X dX5_drifted_7 0 rfl ?_
  refine gX5_12 X dX5_drifted_8 ?_
  refine gX5_88 0 (by decide) X dX5_drifted_11 ?_
  refine gd_imul X dX5_drifted_14 ?_
  exact gd_iret X hR dX5_drifted_15 ⟨_, rfl, rfl, h⟩
set_option maxRecDepth 100000 in
theorem c_X5_drifted (l : Launch) (D : va_G) (A : Nat → Prop) (cy : Nat → ClassId) (ad : Nat → Nat) (post : Int32 → Prop) (g : SG) (hB : B_X5_drifted_0 post g) : Mt l (eC D A cy ad) yX5_drifted cX5_drifted 1 (some .int) 0 0 [.ref (ad 0)] g (oR g post) := mt_of (plainFor_of_name (by decide)) (Nat.le_of_ble_eq_true rfl) (fun b X hR => w_X5_drifted_0 X hR hB)
def B_X5_apart_59 (post : Int32 → SG → Prop) (x1 x2 y0 : Int32) (g : SG) : Prop :=
  post y0 g
set_option maxRecDepth 100000 in
theorem w_X5_apart_59 {b : BX} {D : va_G} {A : Nat → Prop} {cy : Nat → ClassId} {ad : Nat → Nat} {post : Int32 → SG → Prop} (X : Cx (kC b D A cy ad) cX5_apart RX5 3 5 114) (hR : Rx (kC b D A cy ad) (some .int) (oI post)) (x1 x2 y0 : Int32) (g : SG) (h : B_X5_apart_59 post x1 x2 y0 g) : Gd (kC b D A cy ad) 3 59 [(0, .ref (ad 0)), (1, .int x1), (2, .int x2)] [.int y0] g := by
  unfold B_X5_apart_59 at h
  exact gd_iret X hR dX5_apart_59 ⟨_, rfl, h⟩
def B_X5_apart_0 (post : Int32 → SG → Prop) (g : SG) : Prop :=
  B_X5_fittingFrames_0 (fun g1 => ((¬ (g1 0 5) = 0) → B_X3_minuteOf_0 (fun r3 => B_X5_fittingVote_0 (fun g4 => B_X3_minuteOf_0 (fun r5 => ∀ z6 : Int32, z6 = (r3 - r5) → B_J9_floorMod_7cf53_0 (fun r7 => ((r7 ≤ 720) → B_X5_apart_59 post z6 r7 r7 g4) ∧ ((¬ r7 ≤ 720) → B_X5_apart_59 post z6 r7 ((r7 - 1440)) g4)) z6 1440) (g4 0 9)) g1) (g1 20 3)) ∧ (((g1 0 5) = 0) → post (-1000000) g1)) g
set_option maxRecDepth 100000 in
theorem w_X5_apart_0 {b : BX} {D : va_G} {A : Nat → Prop} {cy : Nat → ClassId} {ad : Nat → Nat} {post : Int32 → SG → Prop} (X : Cx (kC b D A cy ad) cX5_apart RX5 3 5 114) (hR : Rx (kC b D A cy ad) (some .int) (oI post)) (g : SG) (h : B_X5_apart_0 post g) : Gd (kC b D A cy ad) 3 0 [(0, .ref (ad 0))] [] g := by
  unfold B_X5_apart_0 at h
  refine gd_aload_n X dX5_apart_0 0 rfl ?_
  refine gd_callVa (As := []) (rest := []) X lk_X5_113 (c_X5_fittingFrames _ _ _ _ _ _ _ h) 0 rfl rfl ⟨by decide, by decide⟩ rfl rfl (Nat.le_of_ble_eq_true rfl) dX5_apart_1 (fun g1 h => ?_)
  refine gX5_117 X dX5_apart_4 ?_
  refine gd_if_ne (tgt := 13) X dX5_apart_7 (by decide) (fun c2 => ?_) (fun c2 => ?_)
  · have h := h.1 c2
    refine gd_aload_n X dX5_apart_13 0 rfl ?_
    refine gX5_12 X dX5_apart_14 ?_
    refine gX5_85 0 (by decide) X dX5_apart_17 ?_
    refine gd_callSr (As := [.int ((g1 20 3))]) (rest := []) X lk_X5_91 (c_X3_minuteOf _ _ _ _ _ h) ⟨by decide, by decide⟩ rfl rfl (Nat.le_of_ble_eq_true rfl) dX5_apart_20 (fun r3 h => ?_)
    refine gd_aload_n X dX5_apart_23 0 rfl ?_
    refine gd_callVa (As := []) (rest := [.int r3]) X lk_X5_78 (c_X5_fittingVote _ _ _ _ _ _ _ h) 0 rfl rfl ⟨by decide, by decide⟩ rfl rfl (Nat.le_of_ble_eq_true rfl) dX5_apart_24 (fun g4 h => ?_)
    refine gX5_82 X dX5_apart_27 ?_
    refine gd_callSr (As := [.int ((g4 0 9))]) (rest := [.int r3]) X lk_X5_91 (c_X3_minuteOf _ _ _ _ _ h) ⟨by decide, by decide⟩ rfl rfl (Nat.le_of_ble_eq_true rfl) dX5_apart_30 (fun r5 h => ?_)
    refine gd_isub X dX5_apart_33 ?_
    refine gd_topi (fun z6 ez6 => ?_)
    have h := h z6 ez6
    refine gd_istore_n (lv' := [(1, .int z6), (0, .ref (ad 0))]) X dX5_apart_34 (by decide) rfl ?_
    refine gd_iload_n X dX5_apart_35 0 rfl ?_
    refine gd_sipush (v := 1440) X dX5_apart_36 (by decide) ?_
    refine gd_callSr (As := [.int z6, .int 1440]) (rest := []) X lk_X5_202 (c_J9_floorMod_7cf53 _ _ _ _ _ _ h) ⟨by decide, by decide⟩ rfl rfl (Nat.le_of_ble_eq_true rfl) dX5_apart_39 (fun r7 h => ?_)
    refine gd_istore_n (lv' := [(2, .int r7), (1, .int z6), (0, .ref (ad 0))]) X dX5_apart_42 (by decide) rfl ?_
    refine gd_iload_n X dX5_apart_43 0 rfl ?_
    refine gd_sipush (v := 720) X dX5_apart_44 (by decide) ?_
    refine gd_icmp_le (tgt := 58) X dX5_apart_47 (by decide) (fun c8 => ?_) (fun c8 => ?_)
    · have h := h.1 c8
      refine gd_iload_n X dX5_apart_58 0 rfl ?_
      refine gd_sub [2, 1, 0] rfl ?_
      exact w_X5_apart_59 X hR _ _ _ _ h
    · have h := h.2 c8
      refine gd_iload_n X dX5_apart_50 0 rfl ?_
      refine gd_sipush (v := 1440) X dX5_apart_51 (by decide) ?_
      refine gd_isub X dX5_apart_54 ?_
      refine gd_goto (tgt := 59) X dX5_apart_55 (by decide) ?_
      refine gd_sub [2, 1, 0] rfl ?_
      exact w_X5_apart_59 X hR _ _ _ _ h
  · have h := h.2 c2
    refine gd_ldc (v := (-1000000)) X q_419 dX5_apart_10 ?_
    exact gd_iret X hR dX5_apart_12 ⟨_, rfl, h⟩
set_option maxRecDepth 100000 in
theorem c_X5_apart (l : Launch) (D : va_G) (A : Nat → Prop) (cy : Nat → ClassId) (ad : Nat → Nat) (post : Int32 → SG → Prop) (g : SG) (hB : B_X5_apart_0 post g) : Mt l (eC D A cy ad) yX5_apart cX5_apart 3 (some .int) 5 114 [.ref (ad 0)] g (oI post) := mt_of (plainFor_of_name (by decide)) (Nat.le_of_ble_eq_true rfl) (fun b X hR => w_X5_apart_0 X hR g hB)
def B_X5_clock_21 (post : Int32 → SG → Prop) (x1 : Int32) (g : SG) : Prop :=
  post (-1000000) g
set_option maxRecDepth 100000 in
theorem w_X5_clock_21 {b : BX} {D : va_G} {A : Nat → Prop} {cy : Nat → ClassId} {ad : Nat → Nat} {post : Int32 → SG → Prop} (X : Cx (kC b D A cy ad) cX5_clock RX5 2 6 136) (hR : Rx (kC b D A cy ad) (some .int) (oI post)) (x1 : Int32) (g : SG) (h : B_X5_clock_21 post x1 g) : Gd (kC b D A cy ad) 2 21 [(0, .ref (ad 0)), (1, .int x1)] [] g := by
  unfold B_X5_clock_21 at h
  refine gd_ldc (v := (-1000000)) X q_419 dX5_clock_21 ?_
  exact gd_iret X hR dX5_clock_23 ⟨_, rfl, h⟩
def B_X5_clock_84 (post : Int32 → SG → Prop) (x1 y0 : Int32) (g : SG) : Prop :=
  post y0 g
set_option maxRecDepth 100000 in
theorem w_X5_clock_84 {b : BX} {D : va_G} {A : Nat → Prop} {cy : Nat → ClassId} {ad : Nat → Nat} {post : Int32 → SG → Prop} (X : Cx (kC b D A cy ad) cX5_clock RX5 2 6 136) (hR : Rx (kC b D A cy ad) (some .int) (oI post)) (x1 y0 : Int32) (g : SG) (h : B_X5_clock_84 post x1 y0 g) : Gd (kC b D A cy ad) 2 84 [(0, .ref (ad 0)), (1, .int x1)] [.int y0] g := by
  unfold B_X5_clock_84 at h
  exact gd_iret X hR dX5_clock_84 ⟨_, rfl, h⟩
def B_X5_clock_0 (post : Int32 → SG → Prop) (x1 : Int32) (g : SG) : Prop :=
  ((x1 < 0) → B_X5_clock_21 post x1 g) ∧ ((¬ x1 < 0) → ((7 < x1) → B_X5_clock_21 post x1 g) ∧ ((¬ 7 < x1) → ((¬ (g 20 3) = (-1)) → ((x1.toInt < 4 ∨ 7 < x1.toInt) → B_X3_partOf_0 (fun r4 => post r4 g) (g 20 3) x1) ∧ (x1.toInt = 4 → post (g 20 4) g) ∧ (x1.toInt = 5 → B_X5_drifted_0 (fun r5 => post r5 g) g) ∧ (x1.toInt = 6 → B_X5_drifted_0 (fun r6 => ((r6 ≤ 500) → B_X5_clock_84 post x1 0 g) ∧ ((¬ r6 ≤ 500) → B_X5_clock_84 post x1 1 g)) g) ∧ (x1.toInt = 7 → B_X5_apart_0 (fun r8 g9 => post r8 g9) g)) ∧ (((g 20 3) = (-1)) → B_X5_clock_21 post x1 g)))
set_option maxRecDepth 100000 in
theorem w_X5_clock_0 {b : BX} {D : va_G} {A : Nat → Prop} {cy : Nat → ClassId} {ad : Nat → Nat} {post : Int32 → SG → Prop} (X : Cx (kC b D A cy ad) cX5_clock RX5 2 6 136) (hR : Rx (kC b D A cy ad) (some .int) (oI post)) (x1 : Int32) (g : SG) (h : B_X5_clock_0 post x1 g) : Gd (kC b D A cy ad) 2 0 [(0, .ref (ad 0)), (1, .int x1)] [] g := by
  unfold B_X5_clock_0 at h
  refine gd_iload_n X dX5_clock_0 1 rfl ?_
  refine gd_if_lt (tgt := 21) X dX5_clock_1 (by decide) (fun c1 => ?_) (fun c1 => ?_)
  · have h := h.1 c1
    exact w_X5_clock_21 X hR _ _ h
  · have h := h.2 c1
    refine gd_iload_n X dX5_clock_4 1 rfl ?_
    refine gd_bipush (v := 7) X dX5_clock_5 (by decide) ?_
    refine gd_icmp_gt (tgt := 21) X dX5_clock_7 (by decide) (fun c2 => ?_) (fun c2 => ?_)
    · have h := h.1 c2
      exact w_X5_clock_21 X hR _ _ h
    · have h := h.2 c2
      refine gd_aload_n X dX5_clock_10 0 rfl ?_
      refine gX5_12 X dX5_clock_11 ?_
      refine gX5_85 0 (by decide) X dX5_clock_14 ?_
      refine gd_iconst (v := (-1)) X dX5_clock_17 (by decide) ?_
      refine gd_icmp_ne (tgt := 24) X dX5_clock_18 (by decide) (fun c3 => ?_) (fun c3 => ?_)
      · have h := h.1 c3
        refine gd_iload_n X dX5_clock_24 1 rfl ?_
        refine gd_table (tgt := 90) X dX5_clock_25 (by decide) [56, 64, 69, 85] (by decide) (by decide) (fun c10 => ?_) ⟨fun c10 => ?_, fun c10 => ?_, fun c10 => ?_, fun c10 => ?_, trivial⟩
        · have h := h.1 (by omega)
          refine gd_aload_n X dX5_clock_90 0 rfl ?_
          refine gX5_12 X dX5_clock_91 ?_
          refine gX5_85 0 (by decide) X dX5_clock_94 ?_
          refine gd_iload_n X dX5_clock_97 1 rfl ?_
          refine gd_callSr (As := [.int ((g 20 3)), .int x1]) (rest := []) X lk_X5_148 (c_X3_partOf _ _ _ _ _ _ h) ⟨by decide, by decide⟩ rfl rfl (Nat.le_of_ble_eq_true rfl) dX5_clock_98 (fun r4 h => ?_)
          exact gd_iret X hR dX5_clock_101 ⟨_, rfl, h⟩
        · have h := h.2.1 (by omega)
          refine gd_aload_n X dX5_clock_56 0 rfl ?_
          refine gX5_12 X dX5_clock_57 ?_
          refine gX5_88 0 (by decide) X dX5_clock_60 ?_
          exact gd_iret X hR dX5_clock_63 ⟨_, rfl, h⟩
        · have h := h.2.2.1 (by omega)
          refine gd_aload_n X dX5_clock_64 0 rfl ?_
          refine gd_callVr (As := []) (rest := []) X lk_X5_172 (c_X5_drifted _ _ _ _ _ _ _ h) 0 rfl rfl ⟨by decide, by decide⟩ rfl rfl (Nat.le_of_ble_eq_true rfl) dX5_clock_65 (fun r5 h => ?_)
          exact gd_iret X hR dX5_clock_68 ⟨_, rfl, h⟩
        · have h := h.2.2.2.1 (by omega)
          refine gd_aload_n X dX5_clock_69 0 rfl ?_
          refine gd_callVr (As := []) (rest := []) X lk_X5_172 (c_X5_drifted _ _ _ _ _ _ _ h) 0 rfl rfl ⟨by decide, by decide⟩ rfl rfl (Nat.le_of_ble_eq_true rfl) dX5_clock_70 (fun r6 h => ?_)
          refine gd_sipush (v := 500) X dX5_clock_73 (by decide) ?_
          refine gd_icmp_le (tgt := 83) X dX5_clock_76 (by decide) (fun c7 => ?_) (fun c7 => ?_)
          · have h := h.1 c7
            refine gd_iconst (v := 0) X dX5_clock_83 (by decide) ?_
            exact w_X5_clock_84 X hR _ _ _ h
          · have h := h.2 c7
            refine gd_iconst (v := 1) X dX5_clock_79 (by decide) ?_
            refine gd_goto (tgt := 84) X dX5_clock_80 (by decide) ?_
            exact w_X5_clock_84 X hR _ _ _ h
        · have h := h.2.2.2.2 (by omega)
          refine gd_aload_n X dX5_clock_85 0 rfl ?_
          refine gd_callVi (As := []) (rest := []) X lk_X5_176 (c_X5_apart _ _ _ _ _ _ _ h) 0 rfl rfl ⟨by decide, by decide⟩ rfl rfl (Nat.le_of_ble_eq_true rfl) dX5_clock_86 (fun r8 g9 h => ?_)
          exact gd_iret X hR dX5_clock_89 ⟨_, rfl, h⟩
      · have h := h.2 c3
        exact w_X5_clock_21 X hR _ _ h
set_option maxRecDepth 100000 in
theorem c_X5_clock (l : Launch) (D : va_G) (A : Nat → Prop) (cy : Nat → ClassId) (ad : Nat → Nat) (post : Int32 → SG → Prop) (x1 : Int32) (g : SG) (hB : B_X5_clock_0 post x1 g) : Mt l (eC D A cy ad) yX5_clock cX5_clock 2 (some .int) 6 136 [.ref (ad 0), .int x1] g (oI post) := mt_of (plainFor_of_name (by decide)) (Nat.le_of_ble_eq_true rfl) (fun b X hR => w_X5_clock_0 X hR x1 g hB)
def B_X5_keep_9 (post : Int32 → SG → Prop) (x1 : Int32) (g : SG) : Prop :=
  post (-1) g
set_option maxRecDepth 100000 in
theorem w_X5_keep_9 {b : BX} {D : va_G} {A : Nat → Prop} {cy : Nat → ClassId} {ad : Nat → Nat} {post : Int32 → SG → Prop} (X : Cx (kC b D A cy ad) cX5_keep RX5 2 1 22) (hR : Rx (kC b D A cy ad) (some .int) (oI post)) (x1 : Int32) (g : SG) (h : B_X5_keep_9 post x1 g) : Gd (kC b D A cy ad) 2 9 [(0, .ref (ad 0)), (1, .int x1)] [] g := by
  unfold B_X5_keep_9 at h
  refine gd_iconst (v := (-1)) X dX5_keep_9 (by decide) ?_
  exact gd_iret X hR dX5_keep_10 ⟨_, rfl, h⟩
def B_X5_keep_0 (post : Int32 → SG → Prop) (x1 : Int32) (g : SG) : Prop :=
  ((x1 < 0) → B_X5_keep_9 post x1 g) ∧ ((¬ x1 < 0) → ((x1 < 2) → vp_in x1 2 ∧ (B_X1_copyFrom_0 (x1.toNatClampNeg + 11) 0 (fun g4 => vp_in x1 2 ∧ (∀ g5 : SG, g5 = sput g4 1 x1.toNatClampNeg (vp_nar .boolean 1) → post (g5 20 0) g5)) g)) ∧ ((¬ x1 < 2) → B_X5_keep_9 post x1 g))
set_option maxRecDepth 100000 in
theorem w_X5_keep_0 {b : BX} {D : va_G} {A : Nat → Prop} {cy : Nat → ClassId} {ad : Nat → Nat} {post : Int32 → SG → Prop} (X : Cx (kC b D A cy ad) cX5_keep RX5 2 1 22) (hR : Rx (kC b D A cy ad) (some .int) (oI post)) (x1 : Int32) (g : SG) (h : B_X5_keep_0 post x1 g) : Gd (kC b D A cy ad) 2 0 [(0, .ref (ad 0)), (1, .int x1)] [] g := by
  unfold B_X5_keep_0 at h
  refine gd_iload_n X dX5_keep_0 1 rfl ?_
  refine gd_if_lt (tgt := 9) X dX5_keep_1 (by decide) (fun c1 => ?_) (fun c1 => ?_)
  · have h := h.1 c1
    exact w_X5_keep_9 X hR _ _ h
  · have h := h.2 c1
    refine gd_iload_n X dX5_keep_4 1 rfl ?_
    refine gd_iconst (v := 2) X dX5_keep_5 (by decide) ?_
    refine gd_icmp_lt (tgt := 11) X dX5_keep_6 (by decide) (fun c2 => ?_) (fun c2 => ?_)
    · have h := h.1 c2
      refine gd_aload_n X dX5_keep_11 0 rfl ?_
      refine gX5_23 X dX5_keep_12 ?_
      refine gd_iload_n X dX5_keep_15 1 rfl ?_
      have hi3 := h.1
      refine aa_images X hi3 dX5_keep_16 ?_
      have h := h.2
      refine gd_aload_n X dX5_keep_17 0 rfl ?_
      refine gX5_12 X dX5_keep_18 ?_
      refine gd_callVv (As := [.ref (ad 19)]) (rest := []) X lk_X5_179 (c_X1_copyFrom (x1.toNatClampNeg + 11) 0 (Nat.add_lt_add_right (vp_clt hi3) 11) (by decide) _ _ _ _ _ _ _ h) (19 + 2 * (x1.toNatClampNeg + 11)) rfl (wc_held cy ad _ (x1.toNatClampNeg + 11) (Nat.add_lt_add_right (vp_clt hi3) 11)) ⟨by decide, by decide⟩ rfl rfl (Nat.le_of_ble_eq_true rfl) dX5_keep_21 (fun g4 h => ?_)
      refine gd_aload_n X dX5_keep_24 0 rfl ?_
      refine gX5_27 X dX5_keep_25 ?_
      refine gd_iload_n X dX5_keep_28 1 rfl ?_
      refine gd_iconst (v := 1) X dX5_keep_29 (by decide) ?_
      refine as_C4 X h.1 _ rfl dX5_keep_30 (fun g5 eg5 => ?_)
      have h := h.2 g5 eg5
      refine gd_aload_n X dX5_keep_31 0 rfl ?_
      refine gX5_12 X dX5_keep_32 ?_
      refine gX5_45 0 (by decide) X dX5_keep_35 ?_
      exact gd_iret X hR dX5_keep_38 ⟨_, rfl, h⟩
    · have h := h.2 c2
      exact w_X5_keep_9 X hR _ _ h
set_option maxRecDepth 100000 in
theorem c_X5_keep (l : Launch) (D : va_G) (A : Nat → Prop) (cy : Nat → ClassId) (ad : Nat → Nat) (post : Int32 → SG → Prop) (x1 : Int32) (g : SG) (hB : B_X5_keep_0 post x1 g) : Mt l (eC D A cy ad) yX5_keep cX5_keep 2 (some .int) 1 22 [.ref (ad 0), .int x1] g (oI post) := mt_of (plainFor_of_name (by decide)) (Nat.le_of_ble_eq_true rfl) (fun b X hR => w_X5_keep_0 X hR x1 g hB)
def B_X5_back_9 (post : Int32 → SG → Prop) (x1 : Int32) (g : SG) : Prop :=
  post (-1) g
set_option maxRecDepth 100000 in
theorem w_X5_back_9 {b : BX} {D : va_G} {A : Nat → Prop} {cy : Nat → ClassId} {ad : Nat → Nat} {post : Int32 → SG → Prop} (X : Cx (kC b D A cy ad) cX5_back RX5 2 1 22) (hR : Rx (kC b D A cy ad) (some .int) (oI post)) (x1 : Int32) (g : SG) (h : B_X5_back_9 post x1 g) : Gd (kC b D A cy ad) 2 9 [(0, .ref (ad 0)), (1, .int x1)] [] g := by
  unfold B_X5_back_9 at h
  refine gd_iconst (v := (-1)) X dX5_back_9 (by decide) ?_
  exact gd_iret X hR dX5_back_10 ⟨_, rfl, h⟩
def B_X5_back_0 (post : Int32 → SG → Prop) (x1 : Int32) (g : SG) : Prop :=
  ((x1 < 0) → B_X5_back_9 post x1 g) ∧ ((¬ x1 < 0) → ((x1 < 2) → vp_in x1 2 ∧ (((¬ (g 1 x1.toNatClampNeg) = 0) → vp_in x1 2 ∧ (B_X1_copyFrom_0 0 (x1.toNatClampNeg + 11) (fun g5 => B_X2_forget_0 (fun g6 => B_X5_rowChanged_0 (fun g7 => post (g7 20 0) g7) g6) g5) g)) ∧ (((g 1 x1.toNatClampNeg) = 0) → post (-2) g))) ∧ ((¬ x1 < 2) → B_X5_back_9 post x1 g))
set_option maxRecDepth 100000 in
theorem w_X5_back_0 {b : BX} {D : va_G} {A : Nat → Prop} {cy : Nat → ClassId} {ad : Nat → Nat} {post : Int32 → SG → Prop} (X : Cx (kC b D A cy ad) cX5_back RX5 2 1 22) (hR : Rx (kC b D A cy ad) (some .int) (oI post)) (x1 : Int32) (g : SG) (h : B_X5_back_0 post x1 g) : Gd (kC b D A cy ad) 2 0 [(0, .ref (ad 0)), (1, .int x1)] [] g := by
  unfold B_X5_back_0 at h
  refine gd_iload_n X dX5_back_0 1 rfl ?_
  refine gd_if_lt (tgt := 9) X dX5_back_1 (by decide) (fun c1 => ?_) (fun c1 => ?_)
  · have h := h.1 c1
    exact w_X5_back_9 X hR _ _ h
  · have h := h.2 c1
    refine gd_iload_n X dX5_back_4 1 rfl ?_
    refine gd_iconst (v := 2) X dX5_back_5 (by decide) ?_
    refine gd_icmp_lt (tgt := 11) X dX5_back_6 (by decide) (fun c2 => ?_) (fun c2 => ?_)
    · have h := h.1 c2
      refine gd_aload_n X dX5_back_11 0 rfl ?_
      refine gX5_27 X dX5_back_12 ?_
      refine gd_iload_n X dX5_back_15 1 rfl ?_
      refine al_C4 X h.1 _ rfl dX5_back_16 ?_
      have h := h.2
      refine gd_if_ne (tgt := 23) X dX5_back_17 (by decide) (fun c3 => ?_) (fun c3 => ?_)
      · have h := h.1 c3
        refine gd_aload_n X dX5_back_23 0 rfl ?_
        refine gX5_12 X dX5_back_24 ?_
        refine gd_aload_n X dX5_back_27 0 rfl ?_
        refine gX5_23 X dX5_back_28 ?_
        refine gd_iload_n X dX5_back_31 1 rfl ?_
        have hi4 := h.1
        refine aa_images X hi4 dX5_back_32 ?_
        have h := h.2
        refine gd_callVv (As := [.ref (ad (19 + 2 * (x1.toNatClampNeg + 11)))]) (rest := []) X lk_X5_179 (c_X1_copyFrom 0 (x1.toNatClampNeg + 11) (by decide) (Nat.add_lt_add_right (vp_clt hi4) 11) _ _ _ _ _ _ _ h) (19 + 2 * 0) rfl (wc_held cy ad _ 0 (by decide)) ⟨by decide, by decide⟩ rfl rfl (Nat.le_of_ble_eq_true rfl) dX5_back_33 (fun g5 h => ?_)
        refine gd_aload_n X dX5_back_36 0 rfl ?_
        refine gX5_19 X dX5_back_37 ?_
        refine gd_callVv (As := []) (rest := []) X lk_X5_182 (c_X2_forget _ _ _ _ _ _ _ h) 1 rfl rfl ⟨by decide, by decide⟩ rfl rfl (Nat.le_of_ble_eq_true rfl) dX5_back_40 (fun g6 h => ?_)
        refine gd_aload_n X dX5_back_43 0 rfl ?_
        refine gd_callVv (As := []) (rest := []) X lk_X5_61 (c_X5_rowChanged _ _ _ _ _ _ _ h) 0 rfl rfl ⟨by decide, by decide⟩ rfl rfl (Nat.le_of_ble_eq_true rfl) dX5_back_44 (fun g7 h => ?_)
        refine gd_aload_n X dX5_back_47 0 rfl ?_
        refine gX5_12 X dX5_back_48 ?_
        refine gX5_45 0 (by decide) X dX5_back_51 ?_
        exact gd_iret X hR dX5_back_54 ⟨_, rfl, h⟩
      · have h := h.2 c3
        refine gd_bipush (v := (-2)) X dX5_back_20 (by decide) ?_
        exact gd_iret X hR dX5_back_22 ⟨_, rfl, h⟩
    · have h := h.2 c2
      exact w_X5_back_9 X hR _ _ h
set_option maxRecDepth 100000 in
theorem c_X5_back (l : Launch) (D : va_G) (A : Nat → Prop) (cy : Nat → ClassId) (ad : Nat → Nat) (post : Int32 → SG → Prop) (x1 : Int32) (g : SG) (hB : B_X5_back_0 post x1 g) : Mt l (eC D A cy ad) yX5_back cX5_back 2 (some .int) 1 22 [.ref (ad 0), .int x1] g (oI post) := mt_of (plainFor_of_name (by decide)) (Nat.le_of_ble_eq_true rfl) (fun b X hR => w_X5_back_0 X hR x1 g hB)
def B_X5_count_100 (post : Int32 → SG → Prop) (x1 y0 : Int32) (g : SG) : Prop :=
  post y0 g
set_option maxRecDepth 100000 in
theorem w_X5_count_100 {b : BX} {D : va_G} {A : Nat → Prop} {cy : Nat → ClassId} {ad : Nat → Nat} {post : Int32 → SG → Prop} (X : Cx (kC b D A cy ad) cX5_count RX5 2 3 68) (hR : Rx (kC b D A cy ad) (some .int) (oI post)) (x1 y0 : Int32) (g : SG) (h : B_X5_count_100 post x1 y0 g) : Gd (kC b D A cy ad) 2 100 [(0, .ref (ad 0)), (1, .int x1)] [.int y0] g := by
  unfold B_X5_count_100 at h
  exact gd_iret X hR dX5_count_100 ⟨_, rfl, h⟩
def B_X5_count_0 (post : Int32 → SG → Prop) (x1 : Int32) (g : SG) : Prop :=
  ((x1.toInt < 0 ∨ 6 < x1.toInt) → post (-1) g) ∧ (x1.toInt = 0 → post (g 20 0) g) ∧ (x1.toInt = 1 → B_X5_fittingFrames_0 (fun g1 => post (g1 0 4) g1) g) ∧ (x1.toInt = 2 → B_X5_fittingFrames_0 (fun g2 => post (g2 0 5) g2) g) ∧ (x1.toInt = 3 → post (g 20 1) g) ∧ (x1.toInt = 4 → post (g 20 2) g) ∧ (x1.toInt = 5 → ((¬ (g 20 3) = (-1)) → B_X5_count_100 post x1 1 g) ∧ (((g 20 3) = (-1)) → B_X5_count_100 post x1 0 g)) ∧ (x1.toInt = 6 → post (g 0 3) g)
set_option maxRecDepth 100000 in
theorem w_X5_count_0 {b : BX} {D : va_G} {A : Nat → Prop} {cy : Nat → ClassId} {ad : Nat → Nat} {post : Int32 → SG → Prop} (X : Cx (kC b D A cy ad) cX5_count RX5 2 3 68) (hR : Rx (kC b D A cy ad) (some .int) (oI post)) (x1 : Int32) (g : SG) (h : B_X5_count_0 post x1 g) : Gd (kC b D A cy ad) 2 0 [(0, .ref (ad 0)), (1, .int x1)] [] g := by
  unfold B_X5_count_0 at h
  refine gd_iload_n X dX5_count_0 1 rfl ?_
  refine gd_table (tgt := 109) X dX5_count_1 (by decide) [44, 52, 60, 68, 76, 84, 101] (by decide) (by decide) (fun c4 => ?_) ⟨fun c4 => ?_, fun c4 => ?_, fun c4 => ?_, fun c4 => ?_, fun c4 => ?_, fun c4 => ?_, fun c4 => ?_, trivial⟩
  · have h := h.1 (by omega)
    refine gd_iconst (v := (-1)) X dX5_count_109 (by decide) ?_
    exact gd_iret X hR dX5_count_110 ⟨_, rfl, h⟩
  · have h := h.2.1 (by omega)
    refine gd_aload_n X dX5_count_44 0 rfl ?_
    refine gX5_12 X dX5_count_45 ?_
    refine gX5_45 0 (by decide) X dX5_count_48 ?_
    exact gd_iret X hR dX5_count_51 ⟨_, rfl, h⟩
  · have h := h.2.2.1 (by omega)
    refine gd_aload_n X dX5_count_52 0 rfl ?_
    refine gd_callVa (As := []) (rest := []) X lk_X5_113 (c_X5_fittingFrames _ _ _ _ _ _ _ h) 0 rfl rfl ⟨by decide, by decide⟩ rfl rfl (Nat.le_of_ble_eq_true rfl) dX5_count_53 (fun g1 h => ?_)
    refine gX5_185 X dX5_count_56 ?_
    exact gd_iret X hR dX5_count_59 ⟨_, rfl, h⟩
  · have h := h.2.2.2.1 (by omega)
    refine gd_aload_n X dX5_count_60 0 rfl ?_
    refine gd_callVa (As := []) (rest := []) X lk_X5_113 (c_X5_fittingFrames _ _ _ _ _ _ _ h) 0 rfl rfl ⟨by decide, by decide⟩ rfl rfl (Nat.le_of_ble_eq_true rfl) dX5_count_61 (fun g2 h => ?_)
    refine gX5_117 X dX5_count_64 ?_
    exact gd_iret X hR dX5_count_67 ⟨_, rfl, h⟩
  · have h := h.2.2.2.2.1 (by omega)
    refine gd_aload_n X dX5_count_68 0 rfl ?_
    refine gX5_12 X dX5_count_69 ?_
    refine gX5_68 0 (by decide) X dX5_count_72 ?_
    exact gd_iret X hR dX5_count_75 ⟨_, rfl, h⟩
  · have h := h.2.2.2.2.2.1 (by omega)
    refine gd_aload_n X dX5_count_76 0 rfl ?_
    refine gX5_12 X dX5_count_77 ?_
    refine gX5_71 0 (by decide) X dX5_count_80 ?_
    exact gd_iret X hR dX5_count_83 ⟨_, rfl, h⟩
  · have h := h.2.2.2.2.2.2.1 (by omega)
    refine gd_aload_n X dX5_count_84 0 rfl ?_
    refine gX5_12 X dX5_count_85 ?_
    refine gX5_85 0 (by decide) X dX5_count_88 ?_
    refine gd_iconst (v := (-1)) X dX5_count_91 (by decide) ?_
    refine gd_icmp_ne (tgt := 99) X dX5_count_92 (by decide) (fun c3 => ?_) (fun c3 => ?_)
    · have h := h.1 c3
      refine gd_iconst (v := 1) X dX5_count_99 (by decide) ?_
      exact w_X5_count_100 X hR _ _ _ h
    · have h := h.2 c3
      refine gd_iconst (v := 0) X dX5_count_95 (by decide) ?_
      refine gd_goto (tgt := 100) X dX5_count_96 (by decide) ?_
      exact w_X5_count_100 X hR _ _ _ h
  · have h := h.2.2.2.2.2.2.2 (by omega)
    refine gd_aload_n X dX5_count_101 0 rfl ?_
    refine gX5_19 X dX5_count_102 ?_
    refine gX5_105 X dX5_count_105 ?_
    exact gd_iret X hR dX5_count_108 ⟨_, rfl, h⟩
set_option maxRecDepth 100000 in
theorem c_X5_count (l : Launch) (D : va_G) (A : Nat → Prop) (cy : Nat → ClassId) (ad : Nat → Nat) (post : Int32 → SG → Prop) (x1 : Int32) (g : SG) (hB : B_X5_count_0 post x1 g) : Mt l (eC D A cy ad) yX5_count cX5_count 2 (some .int) 3 68 [.ref (ad 0), .int x1] g (oI post) := mt_of (plainFor_of_name (by decide)) (Nat.le_of_ble_eq_true rfl) (fun b X hR => w_X5_count_0 X hR x1 g hB)
