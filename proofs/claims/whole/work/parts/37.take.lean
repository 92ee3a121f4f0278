/-! the vote is taken: the parts counted, the best chosen -/
theorem s_cbm {post : SG → Prop} {g : SG} {n : Nat} {sy : Nat → Nat} (hn : n ≤ 120) (hF : fC g n sy) (hK : g 0 10 = nI (cnN n sy)) (h : ∀ g' : SG, (∀ q, q ≠ 6 → g' q = g q) → (∀ m, m < 60 → g' 6 m = nI (bmS n sy m (cnN n sy))) → post g') : B_X4_countByMinute_0 post g :=
  ⟨61, cm2 hn hF hK h 61 0 g (by decide) (by decide) (fun _ _ => rfl) (fun _ h => absurd h (Nat.not_lt_zero _))⟩
theorem s_cbh {post : SG → Prop} {g : SG} {n : Nat} {sy : Nat → Nat} (hn : n ≤ 120) (hF : fC g n sy) (hK : g 0 10 = nI (cnN n sy)) (h : ∀ g' : SG, (∀ q, (q < 7 ∨ 13 < q) → g' q = g q) → chJ g' n sy 192 0 → post g') : B_X4_countByHour_0 post g :=
  ⟨193, ch2 hn hF hK h 193 0 g (by decide) (by decide) (fun _ _ => rfl) (fun j b h2 h3 => by
    rcases h3 with h3 | ⟨_, h3⟩
    · exact absurd h3 (Nat.not_lt_zero _)
    · exact absurd h3 (Nat.not_lt_zero _))⟩
/-- both parts are counted, of as many frames as there are -/
def ptC (g : SG) (n : Nat) (sy : Nat → Nat) : Prop := g 0 10 = nI (cnN n sy) ∧ (∀ m, m < 60 → g 6 m = nI (bmS n sy m (cnN n sy))) ∧ ∀ j b, j < 7 → j ≤ cnN n sy → b < 192 → g (7 + j) b = nI (hrN n sy b j)
/-- missesAt answers m -/
def mA (g : SG) (m : Nat → Nat) : Prop := ∀ (post : Int32 → Prop) (t : Nat), t < 11520 → post (nI (m t)) → B_X4_missesAt_0 post (nI t) g
theorem s_mA {g : SG} {n : Nat} {sy : Nat → Nat} (hn : n ≤ 120) (hP : ptC g n sy) : mA g (misN n sy) := by
  intro post t ht h
  have hc6 := cnN_le (sy := sy) hn
  unfold B_X4_missesAt_0 B_X3_minuteOf_0
  intro z2 e2 z3 e3
  have e2 : z2 = nI (t / 8 % 60) := by rw [e2, nl 8, nj_div (by omega) (by decide) (by decide), nl 60, nj_rem (by omega) (by decide) (by decide)]
  have e3 : z3 = nI (t / 480 * 8 + t % 8) := by rw [e3, nl 480, nl 8, nj_div (by omega) (by decide) (by decide), pk_mul, nj_rem (by omega) (by decide) (by decide), nI_add]
  subst e2 e3
  have et : tA (t / 480 * 8 + t % 8) (t / 8 % 60) = t := by unfold tA; omega
  generalize hm : t / 8 % 60 = m at et ⊢
  generalize ha : t / 480 * 8 + t % 8 = a at et ⊢
  have hm : m < 60 := by omega
  have ha : a < 192 := by omega
  have e60 : 60 - nI m = nI (60 - m) := by rw [nl 60, nj_sub (by omega)]
  rw [e60, hP.1]
  refine ⟨nj_in (by omega) (by decide), s_min (by omega) (by omega) ?_⟩
  generalize hk : (if 60 - m < cnN n sy then 60 - m else cnN n sy) = k
  obtain ⟨mu1, mu2, mu3⟩ := mis_up hn ha hm k hk.symm
  have hkc : k ≤ cnN n sy := by rw [← hk]; split <;> omega
  rw [nj_cl (by omega), nj_cl (by omega), nj_cl (by omega), hP.2.1 m hm, hP.2.2 k a (by omega) hkc ha]
  refine ⟨nj_in (by omega) (by decide), nj_in (by omega) (by decide), fun z6 e6 => ?_⟩
  have e6 : z6 = nI (misN n sy t) := by
    rw [e6, nI_add, ← et, mu1, Nat.add_assoc]
    rfl
  rw [e6]
  exact h
/-- what choose has at time c -/
def chC (g g' : SG) (m : Nat → Nat) (q : Nat) (x1 : Int32) : Prop := (∀ r, r ≠ 0 → g' r = g r) ∧ (∀ j, j ≠ 6 → j ≠ 7 → g' 0 j = g 0 j) ∧ g' 0 6 = nI (bsA m q).1 ∧ g' 0 7 = nI (m (bsA m q).1) ∧ x1 = nI (bsA m q).2
theorem co19 {post : SG → Prop} {g : SG} {m : Nat → Nat} (hm : ∀ t, m t ≤ 114) (hA : ∀ g' : SG, (∀ r, r ≠ 0 → g' r = g r) → g' 0 10 = g 0 10 → mA g' m) (h : ∀ g' : SG, (∀ r, r ≠ 0 → g' r = g r) → (∀ j, j ≠ 6 → j ≠ 7 → j ≠ 8 → g' 0 j = g 0 j) → g' 0 6 = nI (bsA m 11519).1 → g' 0 7 = nI (m (bsA m 11519).1) → g' 0 8 = nI ((bsA m 11519).2 - m (bsA m 11519).1) → post g') : ∀ (u q : Nat) (x1 : Int32) (g' : SG), q < 11520 → 11520 - q < u → chC g g' m q x1 → P_X4_choose_19 post u x1 (nI (q + 1)) g' := by
  intro u
  induction u with
  | zero => intro q x1 g' _ h; exact absurd h (Nat.not_lt_zero _)
  | succ u ih =>
    intro q x1 g' hq hu hJ
    obtain ⟨j1, j2, j3, j4, j5⟩ := hJ
    show B_X4_choose_19 post (P_X4_choose_19 post u) x1 (nI (q + 1)) g'
    unfold B_X4_choose_19
    have hb := bsA_le m q
    have hge := bsA_ge hm q
    have hmq := hm (q + 1)
    have hmb := hm (bsA m q).1
    refine ⟨fun c => ?_, fun c => ?_⟩
    · have c : 11520 ≤ q + 1 := (nj_le (a := 11520) (by decide) (by omega)).mp c
      have : q = 11519 := by omega
      subst this
      intro g2 e2
      rw [j5, j4, nj_sub hge.1] at e2
      refine h g2 (fun r hr => by rw [e2, sput_r hr]; exact j1 r hr) (fun j a b d => by rw [e2, sput_i d]; exact j2 j a b) ?_ ?_ ?_
      · rw [e2, sput_i (by decide)]; exact j3
      · rw [e2, sput_i (by decide)]; exact j4
      · rw [e2, sput_s]
    · have c : ¬ 11520 ≤ q + 1 := fun z => c ((nj_le (a := 11520) (by decide) (by omega)).mpr z)
      refine hA g' j1 (j2 10 (by decide) (by decide)) _ (q + 1) (by omega) ?_
      rw [j4, j5]
      have z1e : ∀ z : Int32, z = nI (q + 1) + 1 → z = nI (q + 1 + 1) := fun z e => by rw [e, nl 1, nI_add]
      refine ⟨fun d => ?_, fun d => ?_⟩
      · have d : m (bsA m q).1 ≤ m (q + 1) := (nj_le (by omega) (by omega)).mp d
        refine ⟨fun d2 => ?_, fun d2 => ?_⟩
        · have d2 : (bsA m q).2 ≤ m (q + 1) := (nj_le (by omega) (by omega)).mp d2
          unfold B_X4_choose_65
          intro z1 e1
          rw [z1e z1 e1]
          refine ih (q + 1) _ g' (by omega) (by omega) ⟨j1, j2, ?_, ?_, ?_⟩
          · rw [bsA_3 (Nat.not_lt.mpr d) (Nat.not_lt.mpr d2)]; exact j3
          · rw [bsA_3 (Nat.not_lt.mpr d) (Nat.not_lt.mpr d2)]; exact j4
          · rw [bsA_3 (Nat.not_lt.mpr d) (Nat.not_lt.mpr d2)]
        · have d2 : ¬ (bsA m q).2 ≤ m (q + 1) := fun z => d2 ((nj_le (by omega) (by omega)).mpr z)
          unfold B_X4_choose_65
          intro z1 e1
          rw [z1e z1 e1]
          refine ih (q + 1) _ g' (by omega) (by omega) ⟨j1, j2, ?_, ?_, ?_⟩
          · rw [bsA_2 (Nat.not_lt.mpr d) (by omega)]; exact j3
          · rw [bsA_2 (Nat.not_lt.mpr d) (by omega)]; exact j4
          · rw [bsA_2 (Nat.not_lt.mpr d) (by omega)]
      · have d : ¬ m (bsA m q).1 ≤ m (q + 1) := fun z => d ((nj_le (by omega) (by omega)).mpr z)
        intro z6 e6 g7 e7 g8 e8
        unfold B_X4_choose_65
        intro z1 e1
        rw [z1e z1 e1]
        have hb1 := bsA_1 (m := m) (n := q) (by omega)
        refine ih (q + 1) _ g8 (by omega) (by omega) ⟨fun r hr => by rw [e8, sput_r hr, e7, sput_r hr]; exact j1 r hr, fun j a b => by rw [e8, sput_i a, e7, sput_i b]; exact j2 j a b, ?_, ?_, ?_⟩
        · rw [e8, sput_s, hb1]
        · rw [e8, sput_i (by decide), e7, sput_s, hb1]
        · rw [e6, hb1]
theorem s_choose {post : SG → Prop} {g : SG} {m : Nat → Nat} (hm : ∀ t, m t ≤ 114) (hA : ∀ g' : SG, (∀ r, r ≠ 0 → g' r = g r) → g' 0 10 = g 0 10 → mA g' m) (h : ∀ g' : SG, (∀ r, r ≠ 0 → g' r = g r) → (∀ j, j ≠ 6 → j ≠ 7 → j ≠ 8 → g' 0 j = g 0 j) → g' 0 6 = nI (bsA m 11519).1 → g' 0 7 = nI (m (bsA m 11519).1) → g' 0 8 = nI ((bsA m 11519).2 - m (bsA m 11519).1) → post g') : B_X4_choose_0 post g := by
  intro g1 e1
  refine hA g1 (fun r hr => by rw [e1, sput_r hr]) (by rw [e1, sput_i (by decide)]) _ 0 (by decide) ?_
  intro g2 e2
  have hr : ∀ r, r ≠ 0 → g2 r = g r := fun r hr => by rw [e2, sput_r hr, e1, sput_r hr]
  refine ⟨11521, co19 hm hA h 11521 0 115 g2 (by decide) (by decide) ⟨hr, fun j a b => by rw [e2, sput_i b, e1, sput_i a], ?_, ?_, rfl⟩⟩
  · rw [e2, sput_i (by decide), e1, sput_s]; rfl
  · rw [e2, sput_s]; rfl
/-- the vote stands in the class's tables -/
def vC (g : SG) (n : Nat) (sy : Nat → Nat) : Prop := ptC g n sy ∧ g 0 6 = nI (beN n sy) ∧ g 0 7 = nI (misN n sy (beN n sy)) ∧ g 0 8 = nI (maN n sy) ∧ g 0 9 = nI (laN n sy)
theorem ptC_same {g g' : SG} {n : Nat} {sy : Nat → Nat} (h0 : g' 0 10 = g 0 10) (h : ∀ q, 6 ≤ q → q < 14 → g' q = g q) (hp : ptC g n sy) : ptC g' n sy :=
  ⟨by rw [h0]; exact hp.1, fun m hm => by rw [h 6 (by decide) (by decide)]; exact hp.2.1 m hm, fun j b h7 hj hb => by
    rw [h (7 + j) (by omega) (by omega)]; exact hp.2.2 j b h7 hj hb⟩
theorem s_take {post : SG → Prop} {g : SG} {n : Nat} {sy : Nat → Nat} (hn : n ≤ 120) (hF : fC g n sy) (h : ∀ g' : SG, vC g' n sy → (∀ q, (q ≠ 0 ∧ q < 6) ∨ 13 < q → g' q = g q) → (∀ j, j < 6 → g' 0 j = g 0 j) → post g') : B_X4_take_0 post g := by
  have hc6 := cnN_le (sy := sy) hn
  intro g1 e1
  rw [hF.2.1] at e1
  have r1 : ∀ q, q ≠ 0 → g1 q = g q := fun q hq => by rw [e1, sput_r hq]
  have s1 : ∀ j, j ≠ 10 → g1 0 j = g 0 j := fun j hj => by rw [e1, sput_i hj]
  have k1 : g1 0 10 = nI (cnN n sy) := by rw [e1, sput_s]
  have hF1 : fC g1 n sy := fC_same (s1 4 (by decide)) (s1 5 (by decide)) (r1 3 (by decide)) (r1 4 (by decide)) hF
  refine s_cbm hn hF1 k1 (fun g2 a1 a2 => ?_)
  have z2 : g2 0 = g1 0 := a1 0 (by decide)
  have hF2 : fC g2 n sy := fC_same (by rw [z2]) (by rw [z2]) (a1 3 (by decide)) (a1 4 (by decide)) hF1
  refine s_cbh hn hF2 (by rw [z2]; exact k1) (fun g3 b1 b2 => ?_)
  have z3 : g3 0 = g1 0 := (b1 0 (by omega)).trans z2
  have hP : ptC g3 n sy := ⟨by rw [z3]; exact k1, fun m hm => by rw [b1 6 (by omega)]; exact a2 m hm, fun j b _ hj hb => b2 j b hj (Or.inl hb)⟩
  refine s_choose (misN_le hn) (fun g' q1 q2 => s_mA hn (ptC_same q2 (fun q h1 _ => q1 q (by omega)) hP)) (fun g4 d1 d2 d3 d4 d5 => ?_)
  have fin : ∀ v : Nat, v = laN n sy → ∀ g6 : SG, g6 = sput g4 0 9 (nI v) → post g6 := by
    intro v hv g6 e6
    refine h g6 ⟨ptC_same (by rw [e6, sput_i (by decide), d2 10 (by decide) (by decide) (by decide)]) (fun q h1 _ => by rw [e6, sput_r (by omega)]; exact d1 q (by omega)) hP, ?_, ?_, ?_, ?_⟩ (fun q hq => ?_) (fun j hj => ?_)
    · rw [e6, sput_i (by decide)]; exact d3
    · rw [e6, sput_i (by decide)]; exact d4
    · rw [e6, sput_i (by decide)]; exact d5
    · rw [e6, sput_s, hv]
    · rw [e6, sput_r (by omega), d1 q (by omega), b1 q (by omega), a1 q (by omega), r1 q (by omega)]
    · rw [e6, sput_i (by omega), d2 j (by omega) (by omega) (by omega), z3, s1 j (by omega)]
  rw [d3, d2 10 (by decide) (by decide) (by decide), z3, k1]
  show B_X3_later_0 _ (nI (beN n sy)) (nI (cnN n sy) - 1)
  cases hc : cnN n sy with
  | zero =>
    refine s_later3m (fin _ ?_)
    unfold laN
    rw [hc]; rfl
  | succ k =>
    have e : nI (k + 1) - 1 = nI k := nI_pred k
    rw [e]
    refine s_later3 (beN_lt n sy) (by omega) (fin _ ?_)
    unfold laN
    rw [hc]; rfl
