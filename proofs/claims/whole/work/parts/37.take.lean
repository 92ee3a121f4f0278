/-! the vote is taken: the parts added up, the best chosen -/
theorem s_cbm {post : SG → Prop} {g : SG} {n : Nat} {sy : Nat → Nat} (hn : n ≤ 120) (hF : fC g n sy) (h : ∀ g' : SG, (∀ q, q ≠ 6 → g' q = g q) → (∀ m, m < 60 → g' 6 m = nI (bmS n sy m (cnN n sy))) → post g') : B_X4_countByMinute_0 post g :=
  ⟨61, cm2 hn hF h 61 0 g (by decide) (by decide) (fun _ _ => rfl) (fun _ h => absurd h (Nat.not_lt_zero _))⟩
theorem s_cbh {post : SG → Prop} {g : SG} {n : Nat} {sy : Nat → Nat} (hn : n ≤ 120) (hF : fC g n sy) (h : ∀ g' : SG, (∀ q, (q < 8 ∨ 13 < q) → g' q = g q) → chJ g' n sy 192 0 → post g') : B_X4_countByHour_0 post g :=
  ⟨193, ch2 hn hF h 193 0 g (by decide) (by decide) (fun _ _ => rfl) (fun j b h1 h2 h3 => by
    rcases h3 with h3 | ⟨_, h3⟩
    · exact absurd h3 (Nat.not_lt_zero _)
    · omega)⟩
/-- both parts are counted, with the first row of none -/
def ptC (g : SG) (n : Nat) (sy : Nat → Nat) : Prop := (∀ m, m < 60 → g 6 m = nI (bmS n sy m (cnN n sy))) ∧ ∀ j b, j ≤ cnN n sy → b < 192 → g (7 + j) b = nI (bhS n sy b j)
theorem ptC_same {g g' : SG} {n : Nat} {sy : Nat → Nat} (h : ∀ q, q ≠ 0 → q ≠ 5 → g' q = g q) (hp : ptC g n sy) : ptC g' n sy :=
  ⟨fun m hm => by rw [h 6 (by decide) (by decide)]; exact hp.1 m hm, fun j b hj hb => by rw [h (7 + j) (by omega) (by omega)]; exact hp.2 j b hj hb⟩
theorem au35 {post : SG → Prop} {g : SG} {n : Nat} {sy : Nat → Nat} (hn : n ≤ 120) (hP : ptC g n sy) {a : Nat} (ha : a < 192) (x3 : Int32) (h : ∀ g' : SG, (∀ q, q ≠ 5 → g' q = g q) → (∀ m, m < 60 → g' 5 (tA a m) = nI (misN n sy (tA a m))) → (∀ t, (∀ m, m < 60 → t ≠ tA a m) → g' 5 t = g 5 t) → post g') : ∀ (u m : Nat) (g' : SG), m ≤ 60 → 60 - m < u → (∀ q, q ≠ 5 → g' q = g q) → (∀ j, j < m → g' 5 (tA a j) = nI (misN n sy (tA a j))) → (∀ t, (∀ j, j < 60 → t ≠ tA a j) → g' 5 t = g 5 t) → P_X4_addUp_35 post u (nI a) (nI (cnN n sy)) x3 (nI (foN a)) (nI (tA a m)) (nI m) g' := by
  have hc6 := cnN_le (sy := sy) hn
  have hfo := (tab_fo a ha).2
  intro u
  induction u with
  | zero => intro m g' _ h; exact absurd h (Nat.not_lt_zero _)
  | succ u ih =>
    intro m g' hm hu j1 j2 j3
    show B_X4_addUp_35 post (P_X4_addUp_35 post u) (nI a) (nI (cnN n sy)) x3 (nI (foN a)) (nI (tA a m)) (nI m) g'
    unfold B_X4_addUp_35
    refine ⟨fun c => ?_, fun c => ?_⟩
    · have c : 60 ≤ m := (nj_le (a := 60) (by decide) (by omega)).mp c
      have : m = 60 := by omega
      subst this
      exact h g' j1 j2 j3
    · have c : ¬ 60 ≤ m := fun z => c ((nj_le (a := 60) (by decide) (by omega)).mpr z)
      have e60 : 60 - nI m = nI (60 - m) := by rw [nl 60, nj_sub (by omega)]
      rw [e60]
      refine s_min (by omega) (by omega) ?_
      generalize hk : (if 60 - m < cnN n sy then 60 - m else cnN n sy) = k
      obtain ⟨mu1, mu2, mu3⟩ := mis_up hn ha (show m < 60 by omega) k hk.symm
      have hkc : k ≤ cnN n sy := by rw [← hk]; split <;> omega
      have htl := tA_lt ha (show m < 60 by omega)
      have b1 := bmS_le n sy m (cnN n sy)
      have b2 := bhS_le n sy a k
      have b3 := bhS_le n sy (foN a) (cnN n sy)
      have hr : ∀ j b, j ≤ cnN n sy → b < 192 → g' (7 + j) b = nI (bhS n sy b j) := fun j b hj hb => by rw [j1 _ (by omega)]; exact hP.2 j b hj hb
      rw [nj_cl (by omega), nj_cl (by omega), nj_cl (by omega), nj_cl (by omega), nj_cl (by omega), nj_cl (by omega), hr k a hkc ha, hr _ _ (Nat.le_refl _) hfo, hr k _ hkc hfo, j1 6 (by decide), hP.1 m (by omega)]
      refine ⟨nj_in (by omega) (by decide), nj_in (by omega) (by decide), fun z4 e4 => ⟨nj_in (by omega) (by decide), nj_in (by omega) (by decide), nj_in (by omega) (by decide), nj_in (by omega) (by decide), fun z7 e7 => ⟨nj_in (by omega) (by decide), nj_in htl (by decide), fun g8 e8 z9 e9 z10 e10 => ?_⟩⟩⟩
      have e9 : z9 = nI (tA a (m + 1)) := by
        rw [e9, nl 8, nI_add]
        congr 1
        unfold tA
        omega
      have e10 : z10 = nI (m + 1) := by rw [e10, nl 1, nI_add]
      rw [e4, e7, nj_sub mu2, nI_add, nI_add, ← mu1] at e8
      rw [e9, e10]
      refine ih (m + 1) g8 (by omega) (by omega) (fun q hq => by rw [e8, sput_r hq]; exact j1 q hq) (fun j hj => ?_) (fun t ht => ?_)
      · by_cases e : j = m
        · subst e; rw [e8, sput_s]
        · rw [e8, sput_i (by unfold tA; omega)]; exact j2 j (by omega)
      · rw [e8, sput_i (ht m (by omega))]; exact j3 t ht
theorem s_addUp {post : SG → Prop} {g : SG} {n : Nat} {sy : Nat → Nat} (hn : n ≤ 120) (hP : ptC g n sy) {a : Nat} (ha : a < 192) (h : ∀ g' : SG, (∀ q, q ≠ 5 → g' q = g q) → (∀ m, m < 60 → g' 5 (tA a m) = nI (misN n sy (tA a m))) → (∀ t, (∀ m, m < 60 → t ≠ tA a m) → g' 5 t = g 5 t) → post g') : B_X4_addUp_0 post (nI a) (nI (cnN n sy)) g := by
  unfold B_X4_addUp_0
  refine s_timeAt (m := 59) ha (by decide) ?_
  have ht := tA_lt ha (show 59 < 60 by decide)
  refine s_next3 (t := tA a 59) ht ?_
  have hnx := nextN_lt ht
  intro z3 e3
  have e3 : z3 = nI (foN a) := by
    rw [e3, nl 480, nl 8, nj_div (by omega) (by decide) (by decide), pk_mul, nj_rem (by omega) (by decide) (by decide), nI_add]
    rfl
  subst e3
  refine s_timeAt (m := 0) ha (by decide) ?_
  exact ⟨61, au35 hn hP ha _ h 61 0 g (by decide) (by decide) (fun _ _ => rfl) (fun _ h => absurd h (Nat.not_lt_zero _)) (fun _ _ => rfl)⟩
/-- what choose has at time c -/
def chC (g g' : SG) (m : Nat → Nat) (q : Nat) (x1 : Int32) : Prop := (∀ r, r ≠ 0 → g' r = g r) ∧ (∀ j, j ≠ 6 → j ≠ 7 → g' 0 j = g 0 j) ∧ g' 0 6 = nI (bsA m q).1 ∧ g' 0 7 = nI (m (bsA m q).1) ∧ x1 = nI (bsA m q).2
theorem co20 {post : SG → Prop} {g : SG} {m : Nat → Nat} (hm : ∀ t, m t ≤ 114) (h5 : ∀ t, t < 11520 → g 5 t = nI (m t)) (h : ∀ g' : SG, (∀ r, r ≠ 0 → g' r = g r) → (∀ j, j ≠ 6 → j ≠ 7 → j ≠ 8 → g' 0 j = g 0 j) → g' 0 6 = nI (bsA m 11519).1 → g' 0 7 = nI (m (bsA m 11519).1) → g' 0 8 = nI ((bsA m 11519).2 - m (bsA m 11519).1) → post g') : ∀ (u q : Nat) (x1 : Int32) (g' : SG), q < 11520 → 11520 - q < u → chC g g' m q x1 → P_X4_choose_20 post u x1 (nI (q + 1)) g' := by
  intro u
  induction u with
  | zero => intro q x1 g' _ h; exact absurd h (Nat.not_lt_zero _)
  | succ u ih =>
    intro q x1 g' hq hu hJ
    obtain ⟨j1, j2, j3, j4, j5⟩ := hJ
    show B_X4_choose_20 post (P_X4_choose_20 post u) x1 (nI (q + 1)) g'
    unfold B_X4_choose_20
    have hb := bsA_le m q
    have hge := bsA_ge hm q
    have hmq := hm (q + 1)
    have hmb := hm (bsA m q).1
    refine ⟨fun c => ?_, fun c => ?_⟩
    · have c : 11520 ≤ q + 1 := (nj_le (a := 11520) (by decide) (by omega)).mp c
      have : q = 11519 := by omega
      subst this
      intro g2 e2
      rw [j5, j4, nj_sub hge.1] at e2
      refine h g2 (fun r hr => by rw [e2, sput_r hr]; exact j1 r hr) (fun j a b d => by rw [e2, sput_i d]; exact j2 j a b) ?_ ?_ ?_
      · rw [e2, sput_i (by decide)]; exact j3
      · rw [e2, sput_i (by decide)]; exact j4
      · rw [e2, sput_s]
    · have c : ¬ 11520 ≤ q + 1 := fun z => c ((nj_le (a := 11520) (by decide) (by omega)).mpr z)
      rw [nj_cl (by omega), j1 5 (by decide), h5 _ (by omega), j4, j5]
      refine ⟨nj_in (by omega) (by decide), fun z3 e3 => ?_⟩
      subst e3
      have z1e : ∀ z : Int32, z = nI (q + 1) + 1 → z = nI (q + 1 + 1) := fun z e => by rw [e, nl 1, nI_add]
      refine ⟨fun d => ?_, fun d => ?_⟩
      · have d : m (bsA m q).1 ≤ m (q + 1) := (nj_le (by omega) (by omega)).mp d
        refine ⟨fun d2 => ?_, fun d2 => ?_⟩
        · have d2 : (bsA m q).2 ≤ m (q + 1) := (nj_le (by omega) (by omega)).mp d2
          unfold B_X4_choose_67
          intro z1 e1
          rw [z1e z1 e1]
          refine ih (q + 1) _ g' (by omega) (by omega) ⟨j1, j2, ?_, ?_, ?_⟩
          · rw [bsA_3 (Nat.not_lt.mpr d) (Nat.not_lt.mpr d2)]; exact j3
          · rw [bsA_3 (Nat.not_lt.mpr d) (Nat.not_lt.mpr d2)]; exact j4
          · rw [bsA_3 (Nat.not_lt.mpr d) (Nat.not_lt.mpr d2)]
        · have d2 : ¬ (bsA m q).2 ≤ m (q + 1) := fun z => d2 ((nj_le (by omega) (by omega)).mpr z)
          unfold B_X4_choose_67
          intro z1 e1
          rw [z1e z1 e1]
          refine ih (q + 1) _ g' (by omega) (by omega) ⟨j1, j2, ?_, ?_, ?_⟩
          · rw [bsA_2 (Nat.not_lt.mpr d) (by omega)]; exact j3
          · rw [bsA_2 (Nat.not_lt.mpr d) (by omega)]; exact j4
          · rw [bsA_2 (Nat.not_lt.mpr d) (by omega)]
      · have d : ¬ m (bsA m q).1 ≤ m (q + 1) := fun z => d ((nj_le (by omega) (by omega)).mpr z)
        intro z6 e6 g7 e7 g8 e8
        unfold B_X4_choose_67
        intro z1 e1
        rw [z1e z1 e1]
        have hb1 := bsA_1 (m := m) (n := q) (by omega)
        refine ih (q + 1) _ g8 (by omega) (by omega) ⟨fun r hr => by rw [e8, sput_r hr, e7, sput_r hr]; exact j1 r hr, fun j a b => by rw [e8, sput_i a, e7, sput_i b]; exact j2 j a b, ?_, ?_, ?_⟩
        · rw [e8, sput_s, hb1]
        · rw [e8, sput_i (by decide), e7, sput_s, hb1]
        · rw [e6, hb1]
theorem s_choose {post : SG → Prop} {g : SG} {m : Nat → Nat} (hm : ∀ t, m t ≤ 114) (h5 : ∀ t, t < 11520 → g 5 t = nI (m t)) (h : ∀ g' : SG, (∀ r, r ≠ 0 → g' r = g r) → (∀ j, j ≠ 6 → j ≠ 7 → j ≠ 8 → g' 0 j = g 0 j) → g' 0 6 = nI (bsA m 11519).1 → g' 0 7 = nI (m (bsA m 11519).1) → g' 0 8 = nI ((bsA m 11519).2 - m (bsA m 11519).1) → post g') : B_X4_choose_0 post g := by
  intro g1 e1 g2 e2
  have e5 : g1 5 0 = nI (m 0) := by rw [e1, sput_r (by decide)]; exact h5 0 (by decide)
  rw [e5] at e2
  have hr : ∀ r, r ≠ 0 → g2 r = g r := fun r hr => by rw [e2, sput_r hr, e1, sput_r hr]
  refine ⟨11521, co20 hm h5 h 11521 0 115 g2 (by decide) (by decide) ⟨hr, fun j a b => by rw [e2, sput_i b, e1, sput_i a], ?_, ?_, rfl⟩⟩
  · rw [e2, sput_i (by decide), e1, sput_s]; rfl
  · rw [e2, sput_s]; rfl
/-- the vote stands in the class's tables -/
def vC (g : SG) (n : Nat) (sy : Nat → Nat) : Prop := (∀ t, t < 11520 → g 5 t = nI (misN n sy t)) ∧ g 0 6 = nI (beN n sy) ∧ g 0 7 = nI (misN n sy (beN n sy)) ∧ g 0 8 = nI (maN n sy) ∧ g 0 9 = nI (laN n sy)
theorem tk12 {post : SG → Prop} {g : SG} {n : Nat} {sy : Nat → Nat} (hn : n ≤ 120) (hP : ptC g n sy) (h5c : g 0 5 = nI (cnN n sy)) (h : ∀ g' : SG, vC g' n sy → (∀ q, q ≠ 0 → q ≠ 5 → g' q = g q) → (∀ j, j < 6 → g' 0 j = g 0 j) → post g') : ∀ (u a : Nat) (g' : SG), a ≤ 192 → 192 - a < u → (∀ q, q ≠ 5 → g' q = g q) → (∀ b m, b < a → m < 60 → g' 5 (tA b m) = nI (misN n sy (tA b m))) → P_X4_take_12 post u (nI a) g' := by
  have hc6 := cnN_le (sy := sy) hn
  intro u
  induction u with
  | zero => intro a g' _ h; exact absurd h (Nat.not_lt_zero _)
  | succ u ih =>
    intro a g' ha hu j1 j2
    show B_X4_take_12 post (P_X4_take_12 post u) (nI a) g'
    unfold B_X4_take_12
    have z0 : g' 0 = g 0 := j1 0 (by decide)
    refine ⟨fun c => ?_, fun c => ?_⟩
    · have c : 192 ≤ a := (nj_le (a := 192) (by decide) (by omega)).mp c
      have : a = 192 := by omega
      subst this
      have h5 : ∀ t, t < 11520 → g' 5 t = nI (misN n sy t) := fun t ht => by
        have e : tA (t / 480 * 8 + t % 8) (t / 8 % 60) = t := by unfold tA; omega
        have := j2 (t / 480 * 8 + t % 8) (t / 8 % 60) (by omega) (by omega)
        rw [e] at this
        exact this
      refine s_choose (misN_le hn) h5 (fun g2 a1 a2 a3 a4 a5 => ?_)
      have fin : ∀ v : Nat, v = laN n sy → ∀ g4 : SG, g4 = sput g2 0 9 (nI v) → post g4 := by
        intro v hv g4 e4
        refine h g4 ⟨fun t ht => ?_, ?_, ?_, ?_, ?_⟩ (fun q q0 q5 => ?_) (fun j hj => ?_)
        · rw [e4, sput_r (by decide), a1 5 (by decide)]; exact h5 t ht
        · rw [e4, sput_i (by decide)]; exact a3
        · rw [e4, sput_i (by decide)]; exact a4
        · rw [e4, sput_i (by decide)]; exact a5
        · rw [e4, sput_s, hv]
        · rw [e4, sput_r q0, a1 q q0, j1 q q5]
        · rw [e4, sput_i (by omega), a2 j (by omega) (by omega) (by omega), z0]
      rw [a3, a2 5 (by decide) (by decide) (by decide), z0, h5c]
      show B_X3_later_0 _ (nI (beN n sy)) (nI (cnN n sy) - 1)
      cases hc : cnN n sy with
      | zero =>
        refine s_later3m (fin _ ?_)
        unfold laN
        rw [hc]; rfl
      | succ k =>
        have e : nI (k + 1) - 1 = nI k := nI_pred k
        rw [e]
        refine s_later3 (beN_lt n sy) (by omega) (fin _ ?_)
        unfold laN
        rw [hc]; rfl
    · have c : ¬ 192 ≤ a := fun z => c ((nj_le (a := 192) (by decide) (by omega)).mpr z)
      rw [z0, h5c]
      refine s_addUp hn (ptC_same (fun q q0 q5 => j1 q q5) hP) (show a < 192 by omega) (fun g5 a1 a2 a3 z6 e6 => ?_)
      have e6 : z6 = nI (a + 1) := by rw [e6, nl 1, nI_add]
      rw [e6]
      refine ih (a + 1) g5 (by omega) (by omega) (fun q hq => by rw [a1 q hq]; exact j1 q hq) (fun b m hb hm => ?_)
      by_cases e : b = a
      · subst e; exact a2 m hm
      · rw [a3 _ (fun m' hm' z => by
          unfold tA at z
          omega)]
        exact j2 b m (by omega) hm
theorem s_take {post : SG → Prop} {g : SG} {n : Nat} {sy : Nat → Nat} (hn : n ≤ 120) (hF : fC g n sy) (hZ : ∀ a, a < 192 → g 7 a = 0) (h : ∀ g' : SG, vC g' n sy → (∀ q, (q ≠ 0 ∧ q < 5) ∨ q = 7 ∨ 13 < q → g' q = g q) → (∀ j, j < 6 → g' 0 j = g 0 j) → post g') : B_X4_take_0 post g := by
  refine s_cbm hn hF (fun g1 a1 a2 => ?_)
  have hF1 : fC g1 n sy := fC_same (by rw [a1 0 (by decide)]) (by rw [a1 0 (by decide)]) (a1 3 (by decide)) (a1 4 (by decide)) hF
  refine s_cbh hn hF1 (fun g2 b1 b2 => ⟨193, ?_⟩)
  have hP : ptC g2 n sy := ⟨fun m hm => by rw [b1 6 (by omega)]; exact a2 m hm, fun j b hj hb => by
    by_cases e : j = 0
    · subst e
      rw [b1 7 (by omega), a1 7 (by decide), hZ b hb]; rfl
    · exact b2 j b (by omega) hj (Or.inl hb)⟩
  refine tk12 hn hP (by rw [b1 0 (by omega)]; exact hF1.2.1) (fun g' d1 d2 d3 => h g' d1 (fun q hq => ?_) (fun j hj => ?_)) 193 0 g2 (by decide) (by decide) (fun _ _ => rfl) (fun b m hb => absurd hb (Nat.not_lt_zero _))
  · rw [d2 q (by omega) (by omega), b1 q (by omega), a1 q (by omega)]
  · rw [d3 j hj, b1 0 (by omega), a1 0 (by decide)]
