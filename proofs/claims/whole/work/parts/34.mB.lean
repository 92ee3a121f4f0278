/-! the reference: frames, misses, the vote -/
theorem bm_0 {c : Nat → Bool} {i : Nat} (h : c i = false) : nI (bmA c i) ||| 0 = nI (bmA c (i + 1)) := by
  rw [nl 0, nj_or, Nat.or_zero]
  show _ = nI (bmA c i + (if c i then 2 ^ i else 0))
  rw [h]
  rfl
theorem bm_1 {c : Nat → Bool} {i : Nat} (hi : i < 19) (h : c i = true) : nI (bmA c i) ||| jshl 1 (nI i) = nI (bmA c (i + 1)) := by
  have hp : 1 * 2 ^ i < 4294967296 := by
    have : 2 ^ i ≤ 2 ^ 19 := Nat.pow_le_pow_right (by decide) (by omega)
    omega
  rw [nl 1, nj_shl (by omega) hp, nj_or, Nat.one_mul, bmA_or]
  show _ = nI (bmA c i + (if c i then 2 ^ i else 0))
  rw [h]
  rfl
def kcN (n : Nat) (sy : Nat → Nat) (f : Nat) : Nat → Bool := fun i => decide (sy (fiN n sy + 20 * f + i) < 2)
def ocN (n : Nat) (sy : Nat → Nat) (f : Nat) : Nat → Bool := fun i => decide (sy (fiN n sy + 20 * f + i) = 1)
/-- f frames are laid -/
def frJ (g g' : SG) (n : Nat) (sy : Nat → Nat) (f : Nat) : Prop := (∀ r, r ≠ 0 → r ≠ 5 → r ≠ 6 → g' r = g r) ∧ (∀ j, j ≠ 4 → g' 0 j = g 0 j) ∧ g' 0 4 = nI f ∧ ∀ j, j < f → g' 5 j = nI (knN n sy j) ∧ g' 6 j = nI (onN n sy j)
theorem s_first6 {post : Int32 → Prop} {g : SG} {n : Nat} {sy : Nat → Nat} {f : Nat} (e3 : g 0 3 = nI (phN n sy)) (hf : f < 100) (h : post (nI (fiN n sy + 20 * f))) : B_X6_firstOf_0 post (nI f) g := by
  unfold B_X6_firstOf_0
  have := phN_lt n sy
  rw [e3, nl 1, nl 20, nI_add, nj_rem (by omega) (by decide) (by decide), pk_mul, nI_add]
  exact h
theorem lf47 {post : SG → Prop} {k5 : SG → Prop} {g : SG} {n : Nat} {sy : Nat → Nat} (hr : rowM g n sy) (e3 : g 0 3 = nI (phN n sy)) {f : Nat} (hf : f < cnN n sy) (hk : ∀ g' : SG, frJ g g' n sy (f + 1) → k5 g') : ∀ (u i : Nat) (g' : SG), i ≤ 19 → 19 - i < u → frJ g g' n sy f → g' 5 f = nI (bmA (kcN n sy f) i) → g' 6 f = nI (bmA (ocN n sy f) i) → P_X6_layFrames_47 post k5 u (nI i) g' := by
  have hn := hr.2.1
  have hc6 := cnN_le (sy := sy) hn
  have hfi := (cnN_iff (n := n) (sy := sy) f).mp hf
  intro u
  induction u with
  | zero => intro i g' _ h; exact absurd h (Nat.not_lt_zero _)
  | succ u ih =>
    intro i g' hi hu hJ h5 h6
    obtain ⟨j1, j2, j3, j4⟩ := hJ
    have e3' : g' 0 3 = nI (phN n sy) := (j2 3 (by decide)).trans e3
    show B_X6_layFrames_47 post k5 (P_X6_layFrames_47 post k5 u) (nI i) g'
    unfold B_X6_layFrames_47
    rw [j3, nj_cl (by omega)]
    refine ⟨fun c => ?_, fun c => ?_⟩
    · have c : 19 ≤ i := (nj_le (a := 19) (by decide) (by omega)).mp c
      have : i = 19 := by omega
      subst this
      intro g2 eg2
      rw [nl 1, nI_add] at eg2
      refine hk g2 ⟨fun r a b d => ?_, fun j hj => ?_, ?_, fun j hj => ?_⟩
      · rw [eg2, sput_r a]; exact j1 r a b d
      · rw [eg2, sput_i hj]; exact j2 j hj
      · rw [eg2, sput_s]
      · rw [eg2, sput_r (by decide), sput_r (by decide)]
        by_cases hjf : j = f
        · subst hjf; exact ⟨h5, h6⟩
        · exact j4 j (by omega)
    · have c : ¬ 19 ≤ i := fun z => c ((nj_le (a := 19) (by decide) (by omega)).mpr z)
      refine s_first6 e3' (by omega) ?_
      have ex : nI (fiN n sy + 20 * f) + nI i = nI (fiN n sy + 20 * f + i) := nI_add _ _
      rw [ex]
      refine s_symAt (by omega) ?_
      have es : g' 1 (6 + (fiN n sy + 20 * f + i)) = nI (sy (fiN n sy + 20 * f + i)) := by rw [j1 1 (by decide) (by decide) (by decide)]; exact (hr.2.2 _ (by omega)).1
      have hs : sy (fiN n sy + 20 * f + i) < 4 := (hr.2.2 _ (by omega)).2
      rw [es]
      -- one symbol is laid
      have lay : ∀ (a b : Int32), nI (bmA (kcN n sy f) i) ||| a = nI (bmA (kcN n sy f) (i + 1)) → nI (bmA (ocN n sy f) i) ||| b = nI (bmA (ocN n sy f) (i + 1)) → ∀ g1 g2 : SG, g1 = sput g' 5 f (nI (bmA (kcN n sy f) i) ||| a) → g2 = sput g1 6 f (nI (bmA (ocN n sy f) i) ||| b) → P_X6_layFrames_47 post k5 u (nI (i + 1)) g2 := by
        intro a b ha hb g1 g2 e1 e2
        rw [ha] at e1
        rw [hb] at e2
        refine ih (i + 1) g2 (by omega) (by omega) ⟨fun r x y z => ?_, fun j hj => ?_, ?_, fun j hj => ?_⟩ ?_ ?_
        · rw [e2, sput_r z, e1, sput_r y]; exact j1 r x y z
        · rw [e2, sput_r (by decide), e1, sput_r (by decide)]; exact j2 j hj
        · rw [e2, sput_r (by decide), e1, sput_r (by decide)]; exact j3
        · rw [e2, sput_r (by decide), sput_i (by omega), e1, sput_i (by omega), sput_r (by decide)]
          exact j4 j hj
        · rw [e2, sput_r (by decide), e1, sput_s]
        · rw [e2, sput_s]
      have z1e : ∀ z : Int32, z = nI i + 1 → z = nI (i + 1) := fun z e => by rw [e, nl 1, nI_add]
      refine ⟨nj_in (by omega) (by decide), fun d => ?_, fun d => ?_⟩
      · have d : 2 ≤ sy (fiN n sy + 20 * f + i) := (nj_le (a := 2) (by decide) (by omega)).mp d
        unfold B_X6_layFrames_90 B_X6_layFrames_114
        rw [nj_cl (by omega)]
        refine ⟨nj_in (by omega) (by decide), fun g1 e1 => ?_⟩
        have q3 : g1 0 4 = nI f := by rw [e1, sput_r (by decide)]; exact j3
        have q6 : g1 6 f = nI (bmA (ocN n sy f) i) := by rw [e1, sput_r (by decide)]; exact h6
        rw [h5] at e1
        rw [q3, nj_cl (by omega), q6]
        refine ⟨nj_in (by omega) (by decide), fun _ => ⟨nj_in (by omega) (by decide), fun g2 e2 z2 ez => ?_⟩, fun d2 => ?_⟩
        · rw [z1e z2 ez]
          exact lay 0 0 (bm_0 (decide_eq_false (by omega))) (bm_0 (decide_eq_false (by omega))) g1 g2 e1 e2
        · have := (nj_eq (b := 1) (by omega) (by decide)).mp d2
          omega
      · have d : ¬ 2 ≤ sy (fiN n sy + 20 * f + i) := fun z => d ((nj_le (a := 2) (by decide) (by omega)).mpr z)
        unfold B_X6_layFrames_90 B_X6_layFrames_114
        rw [nj_cl (by omega)]
        refine ⟨nj_in (by omega) (by decide), fun g1 e1 => ?_⟩
        have q3 : g1 0 4 = nI f := by rw [e1, sput_r (by decide)]; exact j3
        have q6 : g1 6 f = nI (bmA (ocN n sy f) i) := by rw [e1, sput_r (by decide)]; exact h6
        rw [h5] at e1
        rw [q3, nj_cl (by omega), q6]
        refine ⟨nj_in (by omega) (by decide), fun d2 => ⟨nj_in (by omega) (by decide), fun g2 e2 z2 ez => ?_⟩, fun d2 => ⟨nj_in (by omega) (by decide), fun g2 e2 z2 ez => ?_⟩⟩
        · rw [z1e z2 ez]
          have d2 : ¬ sy (fiN n sy + 20 * f + i) = 1 := fun z => d2 (by rw [z]; rfl)
          exact lay _ 0 (bm_1 (by omega) (decide_eq_true (by omega))) (bm_0 (decide_eq_false d2)) g1 g2 e1 e2
        · rw [z1e z2 ez]
          have d2 : sy (fiN n sy + 20 * f + i) = 1 := (nj_eq (b := 1) (by omega) (by decide)).mp d2
          exact lay _ _ (bm_1 (by omega) (decide_eq_true (by omega))) (bm_1 (by omega) (decide_eq_true d2)) g1 g2 e1 e2
theorem lf5 {post : SG → Prop} {g : SG} {n : Nat} {sy : Nat → Nat} (hr : rowM g n sy) (e3 : g 0 3 = nI (phN n sy)) (h : ∀ g' : SG, frJ g g' n sy (cnN n sy) → post g') : ∀ (u f : Nat) (g' : SG), f ≤ cnN n sy → cnN n sy - f < u → frJ g g' n sy f → P_X6_layFrames_5 post u g' := by
  have hn := hr.2.1
  have hc6 := cnN_le (sy := sy) hn
  intro u
  induction u with
  | zero => intro f g' _ h; exact absurd h (Nat.not_lt_zero _)
  | succ u ih =>
    intro f g' hfc hu hJ
    have hJ0 := hJ
    obtain ⟨j1, j2, j3, j4⟩ := hJ
    have e3' : g' 0 3 = nI (phN n sy) := (j2 3 (by decide)).trans e3
    have e1' : g' 1 0 = nI n := by rw [j1 1 (by decide) (by decide) (by decide)]; exact hr.1
    have hfl : fiN n sy < 20 := Nat.mod_lt _ (by decide)
    show B_X6_layFrames_5 post (P_X6_layFrames_5 post u) g'
    unfold B_X6_layFrames_5
    rw [j3, e1', nj_cl (by omega)]
    refine s_first6 e3' (by omega) ?_
    have ex : nI (fiN n sy + 20 * f) + 19 = nI (fiN n sy + 20 * f + 19) := by rw [nl 19, nI_add]
    rw [ex]
    refine ⟨fun c => ?_, fun c => ?_⟩
    · have c : n < fiN n sy + 20 * f + 19 := (nj_lt (by omega) (by omega)).mp c
      have hno : ¬ f < cnN n sy := fun z => by have := (cnN_iff f).mp z; omega
      have : f = cnN n sy := by omega
      subst this
      exact h g' hJ0
    · have c : ¬ n < fiN n sy + 20 * f + 19 := fun z => c ((nj_lt (by omega) (by omega)).mpr z)
      have hf : f < cnN n sy := (cnN_iff f).mpr (by omega)
      refine ⟨nj_in (by omega) (by decide), fun g3 eg3 => ?_⟩
      have q3 : g3 0 4 = nI f := by rw [eg3, sput_r (by decide)]; exact j3
      rw [q3, nj_cl (by omega)]
      refine ⟨nj_in (by omega) (by decide), fun g4 eg4 => ⟨20, ?_⟩⟩
      have hJ4 : frJ g g4 n sy f := ⟨fun r a b d => by rw [eg4, sput_r d, eg3, sput_r b]; exact j1 r a b d, fun j hj => by rw [eg4, sput_r (by decide), eg3, sput_r (by decide)]; exact j2 j hj, by rw [eg4, sput_r (by decide)]; exact q3, fun j hj => by
        rw [eg4, sput_r (by decide), sput_i (by omega), eg3, sput_i (by omega), sput_r (by decide)]
        exact j4 j hj⟩
      exact lf47 (post := post) (k5 := P_X6_layFrames_5 post u) hr e3 hf (fun g5 h5 => ih (f + 1) g5 (by omega) (by omega) h5) 20 0 g4 (by decide) (by decide) hJ4 (by rw [eg4, sput_r (by decide), eg3, sput_s]; rfl) (by rw [eg4, sput_s]; rfl)
theorem s_layFrames {post : SG → Prop} {g : SG} {n : Nat} {sy : Nat → Nat} (hr : rowM g n sy) (e3 : g 0 3 = nI (phN n sy)) (h : ∀ g' : SG, frJ g g' n sy (cnN n sy) → post g') : B_X6_layFrames_0 post g := by
  intro g1 eg1
  refine ⟨8, lf5 hr e3 h 8 0 g1 (Nat.zero_le _) (by have := cnN_le (sy := sy) hr.2.1; omega) ⟨fun r a b d => by rw [eg1, sput_r a], fun j hj => by rw [eg1, sput_i hj], by rw [eg1, sput_s]; rfl, fun j hj => absurd hj (Nat.not_lt_zero _)⟩⟩
/-- frames stand in the reference's tables -/
def fM (g : SG) (n : Nat) (sy : Nat → Nat) : Prop := g 0 3 = nI (phN n sy) ∧ g 0 4 = nI (cnN n sy) ∧ ∀ j, j < cnN n sy → g 5 j = nI (knN n sy j) ∧ g 6 j = nI (onN n sy j)
theorem s_wrong6 {post : Int32 → Prop} {g : SG} {n : Nat} {sy : Nat → Nat} (hn : n ≤ 120) (hF : fM g n sy) {t f : Nat} (ht : t < 11520) (hf : f < cnN n sy) (h : post (nI (wrN n sy t f))) : B_X6_wrongOf_0 post (nI t) (nI f) g := by
  have hc6 := cnN_le (sy := sy) hn
  unfold B_X6_wrongOf_0
  refine s_bits6 ht ?_
  rw [nj_cl (by omega), (hF.2.2 f hf).1, (hF.2.2 f hf).2, nj_xor, nj_and]
  exact ⟨nj_in (by omega) (by decide), nj_in (by omega) (by decide), h⟩
theorem mi6_loop {post : Int32 → Prop} {g : SG} {n : Nat} {sy : Nat → Nat} (hn : n ≤ 120) (hF : fM g n sy) (x1 : Int32) {t : Nat} (ht : t < 11520) (h : post (nI (misN n sy t))) : ∀ (u f : Nat), f ≤ cnN n sy → cnN n sy - f < u → P_X6_missesOf_7 post g u x1 (nI (miA n sy t f)) (nI (laterN t f)) (nI f) := by
  have hc6 := cnN_le (sy := sy) hn
  intro u
  induction u with
  | zero => intro f _ h; exact absurd h (Nat.not_lt_zero _)
  | succ u ih =>
    intro f hf hu
    show B_X6_missesOf_7 post (P_X6_missesOf_7 post g u) x1 (nI (miA n sy t f)) (nI (laterN t f)) (nI f) g
    unfold B_X6_missesOf_7
    rw [hF.2.1]
    refine ⟨fun c => ?_, fun c => ?_⟩
    · have c : cnN n sy ≤ f := (nj_le (by omega) (by omega)).mp c
      have : f = cnN n sy := by omega
      subst this
      exact h
    · have c : ¬ cnN n sy ≤ f := fun z => c ((nj_le (by omega) (by omega)).mpr z)
      have htl := laterN_lt ht f
      refine s_wrong6 hn hF htl (by omega) ?_
      have hw := wrN_lt (n := n) (sy := sy) (t := laterN t f) (f := f)
      refine s_many (by omega) ?_
      intro z4 e4
      have e4 : z4 = nI (miA n sy t (f + 1)) := by rw [e4, nI_add]; rfl
      subst e4
      refine s_next6 htl ?_
      intro z6 e6
      have e6 : z6 = nI (f + 1) := by rw [e6, nl 1, nI_add]
      subst e6
      exact ih (f + 1) (by omega) (by omega)
theorem s_misses6 {post : Int32 → Prop} {g : SG} {n : Nat} {sy : Nat → Nat} (hn : n ≤ 120) (hF : fM g n sy) {t : Nat} (ht : t < 11520) (h : post (nI (misN n sy t))) : B_X6_missesOf_0 post (nI t) g :=
  ⟨8, mi6_loop hn hF _ ht h 8 0 (Nat.zero_le _) (by have := cnN_le (sy := sy) hn; omega)⟩
theorem n9 {a : Nat} (ha : a < 2147483648) : ¬ nI a = -9 := fun z => by
  have := congrArg Int32.toInt z
  rw [nj_ti ha, show (-9 : Int32).toInt = -9 by decide] at this
  omega
theorem n1 {a : Nat} (ha : a < 2147483648) : ¬ nI a = -1 := fun z => by
  have := congrArg Int32.toInt z
  rw [nj_ti ha, show (-1 : Int32).toInt = -1 by decide] at this
  omega
/-- what tells knows at c: x1 its second -/
def tlJ (g g' : SG) (m : Nat → Nat) (c : Nat) (x1 : Int32) : Prop := (∀ r, r ≠ 0 → r ≠ 7 → g' r = g r) ∧ (∀ j, j ≠ 5 → g' 0 j = g 0 j) ∧ (∀ t, t < c → g' 7 t = nI (m t)) ∧ (c = 0 → g' 0 5 = -9 ∧ x1 = -9) ∧ ∀ q, c = q + 1 → g' 0 5 = nI (bsA m q).1 ∧ ((q = 0 ∧ x1 = -9) ∨ ∃ s, s ≤ q ∧ x1 = nI s ∧ m s = (bsA m q).2)
theorem bsA_1 {m : Nat → Nat} {n : Nat} (h : m (n + 1) < m (bsA m n).1) : bsA m (n + 1) = (n + 1, m (bsA m n).1) := if_pos h
theorem bsA_2 {m : Nat → Nat} {n : Nat} (h : ¬ m (n + 1) < m (bsA m n).1) (h2 : m (n + 1) < (bsA m n).2) : bsA m (n + 1) = ((bsA m n).1, m (n + 1)) := (if_neg h).trans (if_pos h2)
theorem bsA_3 {m : Nat → Nat} {n : Nat} (h : ¬ m (n + 1) < m (bsA m n).1) (h2 : ¬ m (n + 1) < (bsA m n).2) : bsA m (n + 1) = bsA m n := (if_neg h).trans (if_neg h2)
theorem tl_loop {post : SG → Prop} {g : SG} {n : Nat} {sy : Nat → Nat} (hn : n ≤ 120) (hF : fM g n sy) (h : ∀ g' : SG, (∀ r, r ≠ 0 → r ≠ 7 → g' r = g r) → (∀ j, j ≠ 5 → j ≠ 6 → g' 0 j = g 0 j) → (∀ t, t < 11520 → g' 7 t = nI (misN n sy t)) → g' 0 5 = nI (beN n sy) → g' 0 6 = nI (maN n sy) → post g') : ∀ (u c : Nat) (x1 : Int32) (g' : SG), c ≤ 11520 → 11520 - c < u → tlJ g g' (misN n sy) c x1 → P_X6_tells_32 post u x1 (nI c) g' := by
  have hm : ∀ t, misN n sy t ≤ 114 := misN_le hn
  intro u
  induction u with
  | zero => intro c x1 g' _ h; exact absurd h (Nat.not_lt_zero _)
  | succ u ih =>
    intro c x1 g' hc hu hJ
    obtain ⟨j1, j2, j3, j4, j5⟩ := hJ
    show B_X6_tells_32 post (P_X6_tells_32 post u) x1 (nI c) g'
    unfold B_X6_tells_32
    refine ⟨fun d => ?_, fun d => ?_⟩
    · have d : 11520 ≤ c := (nj_le (a := 11520) (by decide) (by omega)).mp d
      have hc : c = 11519 + 1 := by omega
      obtain ⟨b1, b2⟩ := j5 11519 hc
      have hb := bsA_le (misN n sy) 11519
      have hge := bsA_ge hm 11519
      rcases b2 with ⟨z, _⟩ | ⟨s, hs, hx, hms⟩
      · omega
      · rw [hx, b1, nj_cl (by omega), nj_cl (by omega), j3 s (by omega), j3 _ (by omega), hms, nj_sub hge.1]
        refine ⟨nj_in (by omega) (by decide), nj_in (by omega) (by decide), fun g2 eg2 => ?_⟩
        refine h g2 (fun r a b => by rw [eg2, sput_r a]; exact j1 r a b) (fun j a b => by rw [eg2, sput_i b]; exact j2 j a) (fun t ht => by rw [eg2, sput_r (by decide)]; exact j3 t (by omega)) ?_ ?_
        · rw [eg2, sput_i (by decide)]; exact b1
        · rw [eg2, sput_s]; rfl
    · have d : ¬ 11520 ≤ c := fun z => d ((nj_le (a := 11520) (by decide) (by omega)).mpr z)
      have hF' : fM g' n sy := by
        unfold fM
        rw [j2 3 (by decide), j2 4 (by decide), j1 5 (by decide) (by decide), j1 6 (by decide) (by decide)]
        exact hF
      refine s_misses6 hn hF' (by omega) ?_
      rw [nj_cl (by omega)]
      refine ⟨nj_in (by omega) (by decide), fun g4 eg4 => ?_⟩
      have q5 : g4 0 5 = g' 0 5 := by rw [eg4, sput_r (by decide)]
      have q7 : g4 7 c = nI (misN n sy c) := by rw [eg4, sput_s]
      have q7' : ∀ t, t < c + 1 → g4 7 t = nI (misN n sy t) := fun t ht => by
        by_cases e : t = c
        · subst e; exact q7
        · rw [eg4, sput_i e]; exact j3 t (by omega)
      have q1 : ∀ r, r ≠ 0 → r ≠ 7 → g4 r = g r := fun r a b => by rw [eg4, sput_r b]; exact j1 r a b
      have q2 : ∀ j, j ≠ 5 → g4 0 j = g 0 j := fun j a => by rw [eg4, sput_r (by decide)]; exact j2 j a
      have z1e : ∀ z : Int32, z = nI c + 1 → z = nI (c + 1) := fun z e => by rw [e, nl 1, nI_add]
      rw [q5]
      cases c with
      | zero =>
        obtain ⟨b1, b2⟩ := j4 rfl
        rw [b1]
        refine ⟨fun _ => ?_, fun z => absurd rfl z⟩
        unfold B_X6_tells_77 B_X6_tells_113
        intro z1 e1 g2 eg2 z2 e2
        rw [z1e z2 e2]
        refine ih 1 z1 g2 (by omega) (by omega) ⟨fun r a b => by rw [eg2, sput_r a]; exact q1 r a b, fun j a => by rw [eg2, sput_i a]; exact q2 j a, fun t ht => by rw [eg2, sput_r (by decide)]; exact q7' t ht, fun z => absurd z (by decide), fun q hq => ?_⟩
        have : q = 0 := by omega
        subst this
        refine ⟨by rw [eg2, sput_s]; rfl, Or.inl ⟨rfl, ?_⟩⟩
        rw [e1, q5, b1]
      | succ q =>
        obtain ⟨b1, b2⟩ := j5 q rfl
        have hb := bsA_le (misN n sy) q
        have hmb := hm (bsA (misN n sy) q).1
        have hmc := hm (q + 1)
        have hge := bsA_ge hm q
        rw [b1, nj_cl (by omega), q7, q7' _ (by omega)]
        refine ⟨fun z => absurd z (n9 (by omega)), fun _ => ⟨nj_in (by omega) (by decide), nj_in (by omega) (by decide), fun d2 => ?_, fun d2 => ?_⟩⟩
        · have d2 : (misN n sy) (bsA (misN n sy) q).1 ≤ misN n sy (q + 1) := (nj_le (by omega) (by omega)).mp d2
          have keep : ∀ x1' : Int32, (bsA (misN n sy) (q + 1)).1 = (bsA (misN n sy) q).1 → (∃ s, s ≤ q + 1 ∧ x1' = nI s ∧ misN n sy s = (bsA (misN n sy) (q + 1)).2) → P_X6_tells_32 post u x1' (nI (q + 1 + 1)) g4 := by
            intro x1' e1 e2
            refine ih (q + 1 + 1) x1' g4 (by omega) (by omega) ⟨q1, q2, q7', fun z => absurd z (by omega), fun q' hq' => ?_⟩
            have : q' = q + 1 := by omega
            subst this
            refine ⟨?_, Or.inr e2⟩
            rw [q5, b1, e1]
          refine ⟨fun d3 => ?_, fun d3 => ?_⟩
          · rcases b2 with ⟨hq0, _⟩ | ⟨s, hs, hx, hms⟩
            · subst hq0
              unfold B_X6_tells_111 B_X6_tells_113
              intro z2 e2
              rw [z1e z2 e2]
              have h2 := bsA_2 (m := misN n sy) (n := 0) (Nat.not_lt.mpr d2) (show misN n sy (0 + 1) < 115 by omega)
              refine keep _ (by rw [h2]) ⟨0 + 1, by omega, rfl, by rw [h2]⟩
            · exact absurd (hx ▸ d3) (n9 (by omega))
          · rcases b2 with ⟨hq0, hx⟩ | ⟨s, hs, hx, hms⟩
            · exact absurd hx d3
            · rw [hx, nj_cl (by omega), q7' s (by omega), hms]
              refine ⟨nj_in (by omega) (by decide), nj_in (by omega) (by decide), fun d4 => ?_, fun d4 => ?_⟩
              · have d4 : (bsA (misN n sy) q).2 ≤ misN n sy (q + 1) := (nj_le (by omega) (by omega)).mp d4
                unfold B_X6_tells_113
                intro z2 e2
                rw [z1e z2 e2]
                have h3 := bsA_3 (m := misN n sy) (n := q) (Nat.not_lt.mpr d2) (Nat.not_lt.mpr d4)
                refine keep _ (by rw [h3]) ⟨s, by omega, rfl, by rw [h3]; exact hms⟩
              · have d4 : ¬ (bsA (misN n sy) q).2 ≤ misN n sy (q + 1) := fun z => d4 ((nj_le (by omega) (by omega)).mpr z)
                unfold B_X6_tells_111 B_X6_tells_113
                intro z2 e2
                rw [z1e z2 e2]
                have h2 := bsA_2 (m := misN n sy) (n := q) (Nat.not_lt.mpr d2) (by omega)
                refine keep _ (by rw [h2]) ⟨q + 1, by omega, rfl, by rw [h2]⟩
        · have d2 : ¬ (misN n sy) (bsA (misN n sy) q).1 ≤ misN n sy (q + 1) := fun z => d2 ((nj_le (by omega) (by omega)).mpr z)
          have h1 := bsA_1 (m := misN n sy) (n := q) (by omega)
          unfold B_X6_tells_77 B_X6_tells_113
          intro z1 e1 g2 eg2 z2 e2
          rw [z1e z2 e2]
          refine ih (q + 1 + 1) z1 g2 (by omega) (by omega) ⟨fun r a b => by rw [eg2, sput_r a]; exact q1 r a b, fun j a => by rw [eg2, sput_i a]; exact q2 j a, fun t ht => by rw [eg2, sput_r (by decide)]; exact q7' t ht, fun z => absurd z (by omega), fun q' hq' => ?_⟩
          have : q' = q + 1 := by omega
          subst this
          refine ⟨by rw [eg2, sput_s, h1], Or.inr ⟨(bsA (misN n sy) q).1, by omega, ?_, by rw [h1]⟩⟩
          rw [e1, q5, b1]
/-- all that the reference tells of its row -/
def tM (g : SG) (n : Nat) (sy : Nat → Nat) : Prop := fM g n sy ∧ (∀ t, t < 11520 → g 7 t = nI (misN n sy t)) ∧ g 0 5 = nI (beN n sy) ∧ g 0 6 = nI (maN n sy)
theorem s_tells {post : SG → Prop} {g : SG} {n : Nat} {sy : Nat → Nat} (hr : rowM g n sy) (hT : g 0 2 = 0 ∨ (g 0 2 = 1 ∧ tM g n sy)) (h : ∀ g' : SG, tM g' n sy → g' 0 2 = 1 → g' 0 0 = g 0 0 → g' 0 1 = g 0 1 → (∀ r, r ≠ 0 → r ≠ 5 → r ≠ 6 → r ≠ 7 → g' r = g r) → post g') : B_X6_tells_0 post g := by
  unfold B_X6_tells_0
  refine ⟨fun c => ?_, fun c => ?_⟩
  · intro g2 eg2
    have hr2 : rowM g2 n sy := by unfold rowM; rw [eg2, sput_r (by decide)]; exact hr
    refine s_layPhase hr2 ?_
    have hr3 : rowM (sput g2 0 3 (nI (phN n sy))) n sy := by unfold rowM; rw [sput_r (by decide)]; exact hr2
    refine s_layFrames hr3 (sput_s _ _ _ _) (fun g4 hJ => ?_)
    obtain ⟨j1, j2, j3, j4⟩ := hJ
    intro g5 eg5
    have hF5 : fM g5 n sy := by
      refine ⟨?_, ?_, fun j hj => ?_⟩
      · rw [eg5, sput_i (by decide), j2 3 (by decide), sput_s]
      · rw [eg5, sput_i (by decide)]; exact j3
      · rw [eg5, sput_r (by decide), sput_r (by decide)]; exact j4 j hj
    refine ⟨11521, tl_loop hr.2.1 hF5 (fun g' a1 a2 a3 a4 a5 => ?_) 11521 0 (-9) g5 (by decide) (by decide) ⟨fun _ _ _ => rfl, fun _ _ => rfl, fun t ht => absurd ht (Nat.not_lt_zero _), fun _ => ⟨by rw [eg5, sput_s], rfl⟩, fun q hq => absurd hq (by omega)⟩⟩
    have low : ∀ j, j ≠ 5 → j ≠ 6 → j ≠ 4 → j ≠ 3 → g' 0 j = g2 0 j := fun j b5 b6 b4 b3 => by rw [a2 j b5 b6, eg5, sput_i b5, j2 j b4, sput_i b3]
    refine h g' ⟨?_, a3, a4, a5⟩ ?_ ?_ ?_ (fun r b0 b5 b6 b7 => ?_)
    · unfold fM
      rw [a2 3 (by decide) (by decide), a2 4 (by decide) (by decide), a1 5 (by decide) (by decide), a1 6 (by decide) (by decide)]
      exact hF5
    · rw [low 2 (by decide) (by decide) (by decide) (by decide), eg2, sput_s]
    · rw [low 0 (by decide) (by decide) (by decide) (by decide), eg2, sput_i (by decide)]
    · rw [low 1 (by decide) (by decide) (by decide) (by decide), eg2, sput_i (by decide)]
    · rw [a1 r b0 b7, eg5, sput_r b0, j1 r b0 b5 b6, sput_r b0, eg2, sput_r b0]
  · rcases hT with z | ⟨z, hT⟩
    · exact absurd z c
    · exact h g hT z rfl rfl (fun _ _ _ _ _ => rfl)
theorem s_last6 {post : Int32 → Prop} {g : SG} {n : Nat} {sy : Nat → Nat} (hn : n ≤ 120) (hT : tM g n sy) (h : post (nI (laN n sy))) : B_X6_lastTime_0 post g := by
  unfold B_X6_lastTime_0
  rw [hT.2.2.1, hT.1.2.1]
  have hc6 := cnN_le (sy := sy) hn
  unfold laN at h
  cases hc : cnN n sy with
  | zero =>
    rw [hc] at h
    exact s_later6m h
  | succ k =>
    rw [hc] at h
    have e : nI (k + 1) - 1 = nI k := nI_pred k
    rw [e]
    exact s_later6 (beN_lt n sy) (by omega) h
theorem s_shown6 {post : Int32 → Prop} {g : SG} {n : Nat} {sy : Nat → Nat} {nd : Nat} (hn : n ≤ 120) (hnd : nd < 1000) (h4 : g 0 4 = nI (cnN n sy)) (h6 : g 0 6 = nI (maN n sy)) (h1 : g 1 1 = nI nd) (hy : 0 < cnN n sy → nd ≤ maN n sy → post 1) (hno : ¬ (0 < cnN n sy ∧ nd ≤ maN n sy) → post 0) : B_X6_isShown_0 post g := by
  unfold B_X6_isShown_0 B_X6_isShown_24 B_X6_isShown_25
  have hc6 := cnN_le (sy := sy) hn
  have hma : maN n sy ≤ 115 := by
    have := (bsA_ge (misN_le (sy := sy) hn) 11519).2
    unfold maN
    omega
  rw [h4, h6, h1]
  refine ⟨fun c => ⟨nb0, hno ?_⟩, fun c => ⟨fun d => ⟨nb0, hno ?_⟩, fun d => ⟨nb1, hy ?_ ?_⟩⟩⟩
  · have c : cnN n sy ≤ 0 := (nj_le (b := 0) (by omega) (by decide)).mp c
    omega
  · have d := (nj_lt (by omega) (by omega)).mp d
    omega
  · exact Nat.pos_of_ne_zero (fun z => c (by rw [z]; decide))
  · exact Nat.not_lt.mp (fun z => d ((nj_lt (by omega) (by omega)).mpr z))
