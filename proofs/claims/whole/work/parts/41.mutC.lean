/-! undo, images -/
section IW
variable {r : Nat → Nat} {R : Nat → Nat → Nat} {u c : Nat} {I : Nat → Nat → Nat} {kp : Nat → Nat}
theorem c_mk {post : SG → Prop} {g' : SG} (hr' : hC g' 0 r) (ok' : okR r) (hB : u < 10 ∧ c ≤ 10 ∧ g' 0 2 = nI u ∧ g' 0 3 = nI c) (hR : ∀ j, j < 10 → (u + 9 - j) % 10 < c → hC g' (j + 1) (R j) ∧ okR (R j)) (hK : ∀ i, i < 2 → kp i < 2 ∧ g' 1 i = nI (kp i) ∧ (kp i = 1 → hC g' (11 + i) (I i) ∧ okR (I i))) (h : ∀ g'' : SG, CI g'' r R u c I kp → post g'') : B_X5_rowChanged_0 post g' := by
  intro g1 e1 g2 e2
  have rg : ∀ q, q ≠ 0 → g2 q = g' q := fun q hq => by rw [e2, sput_r hq, e1, sput_r hq]
  have r0 : ∀ j, j ≠ 0 → j ≠ 1 → g2 0 j = g' 0 j := fun j h0 h1 => by rw [e2, sput_i h1, e1, sput_i h0]
  refine h g2 ⟨⟨hC_same (rg _ (by omega)) (rg _ (by omega)) hr', ok'⟩, ⟨hB.1, hB.2.1, by rw [r0 2 (by decide) (by decide)]; exact hB.2.2.1, by rw [r0 3 (by decide) (by decide)]; exact hB.2.2.2⟩, fun j hj hvv => ?_, fun i hi => ?_, Or.inl ?_, Or.inl ?_⟩
  · have := hR j hj hvv
    exact ⟨hC_same (rg _ (by omega)) (rg _ (by omega)) this.1, this.2⟩
  · have := hK i hi
    refine ⟨this.1, by rw [rg 1 (by decide)]; exact this.2.1, fun hk => ?_⟩
    have := this.2.2 hk
    exact ⟨hC_same (rg _ (by omega)) (rg _ (by omega)) this.1, this.2⟩
  · rw [e2, sput_i (by decide), e1, sput_s]
  · rw [e2, sput_s]
theorem un6 {post : Int32 → SG → Prop} {g : SG} {u : Nat} (hu : u < 10) (e : g 0 1 = nI u) (h : ∀ g' : SG, g' = sput (cpR g 1 0 2 (126 * u) 126) 0 2 0 → post (g' 0 0) g') : ∀ (n i : Nat), i ≤ 126 → 126 - i < n → P_X6_undo_38 post n (nI i) (cpR g 1 0 2 (126 * u) i) := by
  intro n
  induction n with
  | zero => intro i _ h; exact absurd h (Nat.not_lt_zero _)
  | succ n ih =>
    intro i hi hf
    show B_X6_undo_38 post (P_X6_undo_38 post n) (nI i) (cpR g 1 0 2 (126 * u) i)
    unfold B_X6_undo_38
    have q1 : cpR g 1 0 2 (126 * u) i 0 1 = nI u := by rw [cpR_o (by decide)]; exact e
    rw [q1]
    refine ⟨fun d => ?_, fun d => ?_⟩
    · have d : 126 ≤ i := (nj_le (a := 126) (by decide) (by omega)).mp d
      have : i = 126 := by omega
      subst this
      exact h
    · have d : ¬ 126 ≤ i := fun z => d ((nj_le (a := 126) (by decide) (by omega)).mpr z)
      have hx : 126 * nI u + nI i = nI (126 * u + i) := by rw [nl 126, pk_mul, nI_add]
      rw [hx, nj_cl (by omega), nj_cl (by omega), cpR_o (r := 2) (by decide)]
      refine ⟨nj_in (by omega) (by decide), nj_in (by omega) (by decide), fun g3 e3 z4 e4 => ?_⟩
      have e4 : z4 = nI (i + 1) := by rw [e4, nl 1, nI_add]
      have e3 : g3 = cpR g 1 0 2 (126 * u) (i + 1) := by
        rw [e3]
        have := cpR_succ g 1 0 2 (126 * u) i
        rw [Nat.zero_add] at this
        exact this
      rw [e3, e4]
      exact ih (i + 1) (by omega) (by omega)
end IW
theorem sim_undo (g h : SG) (hI : Inv0 g h) : B_X5_undo_0 (fun r g3 => B_X6_undo_0 (fun r2 h3 => r = r2 ∧ Inv0 g3 h3) h) g := by
  have hI0 := hI
  obtain ⟨r, R, u, c, I, kp, hc, hm⟩ := hI
  have ec : g 0 3 = nI c := hc.2.1.2.2.2
  have em : h 0 0 = nI c := hm.2.1.2.2.2
  have hc10 := hc.2.1.2.1
  cases c with
  | zero =>
    have e1 : g 0 3 = 0 := ec
    have e9 : h 0 0 = 0 := em
    unfold B_X5_undo_0
    refine ⟨fun z => absurd e1 z, fun _ => ?_⟩
    unfold B_X6_undo_0
    exact ⟨fun z => absurd e9 z, fun _ => ⟨rfl, hI0⟩⟩
  | succ c =>
    obtain ⟨⟨hr, ok⟩, ⟨hu, _, e2, e3⟩, hR, hK, hf, hv⟩ := hc
    obtain ⟨⟨hr6, _⟩, ⟨_, _, m1, m0⟩, hR6, hK6, hT6⟩ := hm
    obtain ⟨rj, oj⟩ := hR ((u + 9) % 10) (by omega) (by omega)
    obtain ⟨rj6, _⟩ := hR6 ((u + 9) % 10) (by omega) (by omega)
    have nc : ¬ nI (c + 1) = 0 := fun z => absurd ((nj_eq (b := 0) (by omega) (by decide)).mp z) (by omega)
    unfold B_X5_undo_0
    rw [ec]
    refine ⟨fun _ => ?_, fun z => absurd z nc⟩
    refine s_recall hu (by omega) e2 e3 rj oj (fun g2 a1 a2 a3 a4 a5 => ?_)
    refine c_mk (r := R ((u + 9) % 10)) (R := R) (u := (u + 9) % 10) (c := c) (I := I) (kp := kp) a1 oj ⟨by omega, by omega, a4, a5⟩ (fun j hj hvv => ?_) (fun i hi => ?_) (fun g3 hc3 => ?_)
    · have := hR j hj (by omega)
      exact ⟨hC_same (a2 _ (by omega) (by omega) (by omega)) (a2 _ (by omega) (by omega) (by omega)) this.1, this.2⟩
    · have := hK i hi
      refine ⟨this.1, by rw [a2 1 (by decide) (by decide) (by decide)]; exact this.2.1, fun hk => ?_⟩
      have := this.2.2 hk
      exact ⟨hC_same (a2 _ (by omega) (by omega) (by omega)) (a2 _ (by omega) (by omega) (by omega)) this.1, this.2⟩
    · unfold B_X6_undo_0
      rw [em]
      refine ⟨fun _ h2 b2 h3 b3 => ?_, fun z => absurd z nc⟩
      rw [m1, nl 10, nl 1, nI_add, nj_sub (by omega), nj_rem (by omega) (by decide) (by decide), show u + 10 - 1 = u + 9 by omega] at b2
      have z0 : h2 0 0 = nI (c + 1) := by rw [b2, sput_i (by decide)]; exact m0
      rw [z0, nI_pred] at b3
      have q1 : h3 0 1 = nI ((u + 9) % 10) := by rw [b3, sput_i (by decide), b2, sput_s]
      have q0 : h3 0 0 = nI c := by rw [b3, sput_s]
      have rg : ∀ q, q ≠ 0 → h3 q = h q := fun q hq => by rw [b3, sput_r hq, b2, sput_r hq]
      refine ⟨127, ?_⟩
      have key := un6 (post := fun r2 h3 => g3 0 3 = r2 ∧ Inv0 g3 h3) (g := h3) (u := (u + 9) % 10) (by omega) q1 (fun h5 e5 => ?_) 127 0 (by decide) (by decide)
      · rw [cpR_0] at key
        exact key
      · have rg5 : ∀ q, q ≠ 0 → q ≠ 1 → h5 q = h q := fun q h0 h1 => by rw [e5, sput_r h0, cpR_o h1]; exact rg q h0
        have r5 : ∀ j, j ≠ 2 → h5 0 j = h3 0 j := fun j hj => by rw [e5, sput_i hj, cpR_o (by decide)]
        refine ⟨?_, _, _, _, _, _, _, hc3, ⟨hM_copy (q := 2) (o := 126 * ((u + 9) % 10)) oj (fun k hk => ?_) rj6, oj⟩, ⟨by omega, by omega, by rw [r5 1 (by decide)]; exact q1, by rw [r5 0 (by decide)]; exact q0⟩, fun j hj hvv => ?_, fun i hi => ?_, Or.inl (by rw [e5, sput_s])⟩
        · rw [r5 0 (by decide), q0]
          exact hc3.2.1.2.2.2
        · rw [e5, sput_r (by decide), cpR_i hk, rg 2 (by decide)]
        · have := hR6 j hj (by omega)
          exact ⟨hM_same (rg5 2 (by decide) (by decide)) this.1, this.2⟩
        · have := hK6 i hi
          refine ⟨this.1, by rw [rg5 3 (by decide) (by decide)]; exact this.2.1, fun hk => ?_⟩
          have := this.2.2 hk
          exact ⟨hM_same (rg5 4 (by decide) (by decide)) this.1, this.2⟩
/-! images -/
theorem kp6 {post : Int32 → SG → Prop} {g : SG} {k : Nat} (hk : k < 2) (h : post (cpR g 4 (126 * k) 1 0 126 1 0) (cpR g 4 (126 * k) 1 0 126)) : ∀ (n i : Nat), i ≤ 126 → 126 - i < n → P_X6_keep_20 post n (nI k) (nI i) (cpR g 4 (126 * k) 1 0 i) := by
  intro n
  induction n with
  | zero => intro i _ h; exact absurd h (Nat.not_lt_zero _)
  | succ n ih =>
    intro i hi hf
    show B_X6_keep_20 post (P_X6_keep_20 post n) (nI k) (nI i) (cpR g 4 (126 * k) 1 0 i)
    unfold B_X6_keep_20
    refine ⟨fun d => ?_, fun d => ?_⟩
    · have d : 126 ≤ i := (nj_le (a := 126) (by decide) (by omega)).mp d
      have : i = 126 := by omega
      subst this
      exact h
    · have d : ¬ 126 ≤ i := fun z => d ((nj_le (a := 126) (by decide) (by omega)).mpr z)
      have hx : 126 * nI k + nI i = nI (126 * k + i) := by rw [nl 126, pk_mul, nI_add]
      rw [hx, nj_cl (by omega), nj_cl (by omega), cpR_o (r := 1) (by decide)]
      refine ⟨nj_in (by omega) (by decide), nj_in (by omega) (by decide), fun g3 e3 z4 e4 => ?_⟩
      have e4 : z4 = nI (i + 1) := by rw [e4, nl 1, nI_add]
      have e3 : g3 = cpR g 4 (126 * k) 1 0 (i + 1) := by
        rw [e3]
        have := cpR_succ g 4 (126 * k) 1 0 i
        rw [Nat.zero_add] at this
        exact this
      rw [e3, e4]
      exact ih (i + 1) (by omega) (by omega)
theorem bk6 {post : Int32 → SG → Prop} {g : SG} {k : Nat} (hk : k < 2) (h : ∀ g' : SG, g' = sput (sput (cpR g 1 0 4 (126 * k) 126) 0 0 0) 0 2 0 → post (g' 1 0) g') : ∀ (n i : Nat), i ≤ 126 → 126 - i < n → P_X6_back_25 post n (nI k) (nI i) (cpR g 1 0 4 (126 * k) i) := by
  intro n
  induction n with
  | zero => intro i _ h; exact absurd h (Nat.not_lt_zero _)
  | succ n ih =>
    intro i hi hf
    show B_X6_back_25 post (P_X6_back_25 post n) (nI k) (nI i) (cpR g 1 0 4 (126 * k) i)
    unfold B_X6_back_25
    refine ⟨fun d => ?_, fun d => ?_⟩
    · have d : 126 ≤ i := (nj_le (a := 126) (by decide) (by omega)).mp d
      have : i = 126 := by omega
      subst this
      intro g2 e2 g3 e3
      exact h g3 (by rw [e3, e2])
    · have d : ¬ 126 ≤ i := fun z => d ((nj_le (a := 126) (by decide) (by omega)).mpr z)
      have hx : 126 * nI k + nI i = nI (126 * k + i) := by rw [nl 126, pk_mul, nI_add]
      rw [hx, nj_cl (by omega), nj_cl (by omega), cpR_o (r := 4) (by decide)]
      refine ⟨nj_in (by omega) (by decide), nj_in (by omega) (by decide), fun g3 e3 z4 e4 => ?_⟩
      have e4 : z4 = nI (i + 1) := by rw [e4, nl 1, nI_add]
      have e3 : g3 = cpR g 1 0 4 (126 * k) (i + 1) := by
        rw [e3]
        have := cpR_succ g 1 0 4 (126 * k) i
        rw [Nat.zero_add] at this
        exact this
      rw [e3, e4]
      exact ih (i + 1) (by omega) (by omega)
theorem vb1 : vp_nar .boolean 1 = 1 := by decide
theorem tM_same {g g' : SG} {n : Nat} {sy : Nat → Nat} (h0 : g' 0 = g 0) (h5 : g' 5 = g 5) (h6 : g' 6 = g 6) (h7 : g' 7 = g 7) (h : tM g n sy) : tM g' n sy := by
  unfold tM fM
  rw [h0, h5, h6, h7]
  exact h
def kpN (kp : Nat → Nat) (k : Nat) : Nat → Nat := fun i => if i = k then 1 else kp i
theorem sim_keep (g h : SG) (x1 : Int32) (hI : Inv0 g h) : B_X5_keep_0 (fun r g3 => B_X6_keep_0 (fun r2 h3 => r = r2 ∧ Inv0 g3 h3) x1 h) x1 g := by
  have hI0 := hI
  obtain ⟨r, R, u, c, I, kp, hc, hm⟩ := hI
  by_cases hx : ∃ k, 0 ≤ k ∧ k ≤ 1 ∧ x1 = nI k
  · obtain ⟨k, _, hk, rfl⟩ := hx
    have hlt : nI k < 2 := (nj_lt (b := 2) (by omega) (by decide)).mpr (by omega)
    obtain ⟨⟨hr, ok⟩, ⟨hu, hcc, e2, e3⟩, hR, hK, hf, hv⟩ := hc
    obtain ⟨⟨hr6, _⟩, ⟨_, _, m1, m0⟩, hR6, hK6, hT6⟩ := hm
    unfold B_X5_keep_0
    rw [nj_cl (by omega), vb1]
    refine ⟨fun z => absurd z (ge0 (by omega)), fun _ => ⟨fun _ => ⟨nj_in (by omega) (by decide), ?_⟩, fun z => absurd hlt z⟩⟩
    refine s_copy (by omega) (by decide) (by omega) hr ok (fun g4 a1 a2 => ⟨nj_in (by omega) (by decide), fun g5 e5 => ?_⟩)
    have rg : ∀ q, q ≠ 1 → q ≠ 20 + (k + 11) → q ≠ 40 + (k + 11) → g5 q = g q := fun q h1 h2 h3 => by rw [e5, sput_r h1]; exact a2 q h2 h3
    have z0 : g5 0 = g 0 := rg 0 (by omega) (by omega) (by omega)
    have hc5 : CI g5 r R u c (rgN I k r) (kpN kp k) := by
      refine ⟨⟨hC_same (rg _ (by omega) (by omega) (by omega)) (rg _ (by omega) (by omega) (by omega)) hr, ok⟩, ⟨hu, hcc, by rw [z0]; exact e2, by rw [z0]; exact e3⟩, fun j hj hvv => ?_, fun i hi => ?_, ?_, ?_⟩
      · have := hR j hj hvv
        exact ⟨hC_same (rg _ (by omega) (by omega) (by omega)) (rg _ (by omega) (by omega) (by omega)) this.1, this.2⟩
      · by_cases e : i = k
        · subst e
          unfold kpN
          rw [if_pos rfl, rgN_s, Nat.add_comm 11 i]
          refine ⟨by decide, by rw [e5, sput_s]; rfl, fun _ => ⟨?_, ok⟩⟩
          exact hC_same (by rw [e5, sput_r (by omega)]) (by rw [e5, sput_r (by omega)]) a1
        · unfold kpN
          rw [if_neg e, rgN_i e]
          have := hK i hi
          refine ⟨this.1, ?_, fun hk => ?_⟩
          · rw [e5, sput_i e, a2 1 (by omega) (by omega)]; exact this.2.1
          · have := this.2.2 hk
            exact ⟨hC_same (rg _ (by omega) (by omega) (by omega)) (rg _ (by omega) (by omega) (by omega)) this.1, this.2⟩
      · rw [z0]
        rcases hf with hf | ⟨hf, hF⟩
        · exact Or.inl hf
        · exact Or.inr ⟨hf, fC_same (by rw [z0]) (by rw [z0]) (rg 3 (by omega) (by omega) (by omega)) (rg 4 (by omega) (by omega) (by omega)) hF⟩
      · rw [z0]
        rcases hv with hv | ⟨hv, hV⟩
        · exact Or.inl hv
        · exact Or.inr ⟨hv, vC_same (fun q h1 h2 => rg q (by omega) (by omega) (by omega)) (fun j _ _ => by rw [z0]) hV⟩
    unfold B_X6_keep_0
    rw [nj_cl (by omega), vb1]
    refine s_in_y (lo := 0) (hi := 1) (by omega) hk (by decide) ⟨fun _ => ⟨nj_in (by omega) (by decide), fun h3 b3 => ⟨127, ?_⟩⟩, fun z => absurd z i10⟩
    have key := kp6 (post := fun r2 h3 => g5 20 0 = r2 ∧ Inv0 g5 h3) (g := h3) (k := k) (by omega) ?_ 127 0 (by decide) (by decide)
    · rw [cpR_0] at key
      exact key
    · generalize hh5 : cpR h3 4 (126 * k) 1 0 126 = h5
      have rg5 : ∀ q, q ≠ 3 → q ≠ 4 → h5 q = h q := fun q h3' h4 => by rw [← hh5, cpR_o h4, b3, sput_r h3']
      have y0 : h5 0 = h 0 := rg5 0 (by decide) (by decide)
      have ea : h5 1 0 = nI (r 0) := by rw [rg5 1 (by decide) (by decide)]; exact hr6.1
      refine ⟨hc5.1.1.1.trans ea.symm, r, R, u, c, rgN I k r, kpN kp k, hc5, ⟨hM_same (rg5 1 (by decide) (by decide)) hr6, ok⟩, ⟨hu, hcc, by rw [y0]; exact m1, by rw [y0]; exact m0⟩, fun j hj hvv => ?_, fun i hi => ?_, ?_⟩
      · have := hR6 j hj hvv
        exact ⟨hM_same (rg5 2 (by decide) (by decide)) this.1, this.2⟩
      · by_cases e : i = k
        · subst e
          unfold kpN
          rw [if_pos rfl, rgN_s]
          refine ⟨by decide, by rw [← hh5, cpR_o (by decide), b3, sput_s]; rfl, fun _ => ⟨hM_copy (q := 1) (o := 0) ok (fun k' hk' => ?_) hr6, ok⟩⟩
          rw [← hh5, cpR_i hk', b3, sput_r (by decide)]
        · unfold kpN
          rw [if_neg e, rgN_i e]
          have := hK6 i hi
          refine ⟨this.1, ?_, fun hk => ?_⟩
          · rw [← hh5, cpR_o (by decide), b3, sput_i e]; exact this.2.1
          · have := this.2.2 hk
            refine ⟨hM_copy this.2 (fun k' hk' => ?_) this.1, this.2⟩
            rw [← hh5, cpR_x (by omega), b3, sput_r (by decide)]
      · rw [y0]
        rcases hT6 with hT | ⟨hT, hT2⟩
        · exact Or.inl hT
        · exact Or.inr ⟨hT, tM_same y0 (rg5 5 (by decide) (by decide)) (rg5 6 (by decide) (by decide)) (rg5 7 (by decide) (by decide)) hT2⟩
  · have bad : B_X6_keep_0 (fun r2 h3 => -1 = r2 ∧ Inv0 g h3) x1 h := by
      unfold B_X6_keep_0
      exact s_in_n (lo := 0) (hi := 1) (by decide) (by decide) hx ⟨fun z => absurd rfl z, fun _ => ⟨rfl, hI0⟩⟩
    unfold B_X5_keep_0 B_X5_keep_9
    refine ⟨fun _ => bad, fun c1 => ⟨fun c2 => (hx ?_).elim, fun _ => bad⟩⟩
    obtain ⟨j, hj, rfl⟩ := nI_of c1
    have := (nj_lt (b := 2) hj (by decide)).mp c2
    exact ⟨j, by omega, by omega, rfl⟩
theorem sim_back (g h : SG) (x1 : Int32) (hI : Inv0 g h) : B_X5_back_0 (fun r g3 => B_X6_back_0 (fun r2 h3 => r = r2 ∧ Inv0 g3 h3) x1 h) x1 g := by
  have hI0 := hI
  obtain ⟨r, R, u, c, I, kp, hc, hm⟩ := hI
  by_cases hx : ∃ k, 0 ≤ k ∧ k ≤ 1 ∧ x1 = nI k
  · obtain ⟨k, _, hk, rfl⟩ := hx
    have hlt : nI k < 2 := (nj_lt (b := 2) (by omega) (by decide)).mpr (by omega)
    obtain ⟨⟨hr, ok⟩, ⟨hu, hcc, e2, e3⟩, hR, hK, hf, hv⟩ := hc
    obtain ⟨⟨hr6, _⟩, ⟨_, _, m1, m0⟩, hR6, hK6, hT6⟩ := hm
    obtain ⟨k1, k2, k3⟩ := hK k (by omega)
    obtain ⟨_, l2, l3⟩ := hK6 k (by omega)
    unfold B_X5_back_0
    rw [nj_cl (by omega), k2]
    refine ⟨fun z => absurd z (ge0 (by omega)), fun _ => ⟨fun _ => ⟨nj_in (by omega) (by decide), fun d => ⟨nj_in (by omega) (by decide), ?_⟩, fun d => ?_⟩, fun z => absurd hlt z⟩⟩
    · have d1 := (nz k1).2.mp d
      obtain ⟨ci, oki⟩ := k3 d1
      obtain ⟨mi, _⟩ := l3 d1
      rw [Nat.add_comm 11 k] at ci
      refine s_copy (by decide) (by omega) (by omega) ci oki (fun g5 a1 a2 g6 e6 => ?_)
      have rg : ∀ q, q ≠ 0 → q ≠ 20 → q ≠ 40 → g6 q = g q := fun q h0 h1 h2 => by rw [e6, sput_r h0]; exact a2 q h1 h2
      have r0 : ∀ j, j ≠ 3 → g6 0 j = g 0 j := fun j hj => by rw [e6, sput_i hj, a2 0 (by decide) (by decide)]
      refine c_mk (r := I k) (R := R) (u := u) (c := 0) (I := I) (kp := kp) (hC_same (by rw [e6, sput_r (by omega)]) (by rw [e6, sput_r (by omega)]) a1) oki ⟨hu, by omega, by rw [r0 2 (by decide)]; exact e2, by rw [e6, sput_s]; rfl⟩ (fun j hj hvv => absurd hvv (Nat.not_lt_zero _)) (fun i hi => ?_) (fun g7 hc7 => ?_)
      · have := hK i hi
        refine ⟨this.1, by rw [rg 1 (by decide) (by decide) (by decide)]; exact this.2.1, fun hk => ?_⟩
        have := this.2.2 hk
        exact ⟨hC_same (rg _ (by omega) (by omega) (by omega)) (rg _ (by omega) (by omega) (by omega)) this.1, this.2⟩
      · unfold B_X6_back_0
        rw [nj_cl (by omega), l2]
        refine s_in_y (lo := 0) (hi := 1) (by omega) hk (by decide) ⟨fun _ => ⟨nj_in (by omega) (by decide), fun _ => ⟨127, ?_⟩, fun z => absurd z d⟩, fun z => absurd z i10⟩
        have key := bk6 (post := fun r2 h3 => g7 20 0 = r2 ∧ Inv0 g7 h3) (g := h) (k := k) (by omega) (fun h5 e5 => ?_) 127 0 (by decide) (by decide)
        · rw [cpR_0] at key
          exact key
        · have rg5 : ∀ q, q ≠ 0 → q ≠ 1 → h5 q = h q := fun q h0 h1 => by rw [e5, sput_r h0, sput_r h0, cpR_o h1]
          have hm5 : hM h5 1 0 (I k) := hM_copy (q := 4) (o := 126 * k) oki (fun k' hk' => by rw [e5, sput_r (by decide), sput_r (by decide), cpR_i hk']) mi
          have ea : h5 1 0 = nI (I k 0) := hm5.1
          refine ⟨hc7.1.1.1.trans ea.symm, I k, R, u, 0, I, kp, hc7, ⟨hm5, oki⟩, ⟨hu, by omega, by rw [e5, sput_i (by decide), sput_i (by decide), cpR_o (by decide)]; exact m1, by rw [e5, sput_i (by decide), sput_s]; rfl⟩, fun j hj hvv => absurd hvv (Nat.not_lt_zero _), fun i hi => ?_, Or.inl (by rw [e5, sput_s])⟩
          have := hK6 i hi
          refine ⟨this.1, by rw [rg5 3 (by decide) (by decide)]; exact this.2.1, fun hk => ?_⟩
          have := this.2.2 hk
          exact ⟨hM_same (rg5 4 (by decide) (by decide)) this.1, this.2⟩
    · unfold B_X6_back_0
      rw [nj_cl (by omega), l2]
      exact s_in_y (lo := 0) (hi := 1) (by omega) hk (by decide) ⟨fun _ => ⟨nj_in (by omega) (by decide), fun z => absurd d z, fun _ => ⟨rfl, hI0⟩⟩, fun z => absurd z i10⟩
  · have bad : B_X6_back_0 (fun r2 h3 => -1 = r2 ∧ Inv0 g h3) x1 h := by
      unfold B_X6_back_0
      exact s_in_n (lo := 0) (hi := 1) (by decide) (by decide) hx ⟨fun z => absurd rfl z, fun _ => ⟨rfl, hI0⟩⟩
    unfold B_X5_back_0 B_X5_back_9
    refine ⟨fun _ => bad, fun c1 => ⟨fun c2 => (hx ?_).elim, fun _ => bad⟩⟩
    obtain ⟨j, hj, rfl⟩ := nI_of c1
    have := (nj_lt (b := 2) hj (by decide)).mp c2
    exact ⟨j, by omega, by omega, rfl⟩
