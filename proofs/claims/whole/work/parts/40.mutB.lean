/-! symbols lost, numbers set, the clock, undo, images -/
theorem rLo_0 (r : Nat → Nat) (n : Nat) : rLo r n 0 = r 0 - n := if_pos rfl
theorem rLo_lo {r : Nat → Nat} {n i : Nat} (h0 : i ≠ 0) (h : i < 6) : rLo r n i = r i := by
  unfold rLo
  rw [if_neg h0, if_neg (by omega)]
theorem rLo_k (r : Nat → Nat) (n k : Nat) : rLo r n (6 + k) = r (6 + k + n) := by
  unfold rLo
  rw [if_neg (by omega), if_pos (by omega)]
theorem ok_lo {r : Nat → Nat} {n : Nat} (ok : okR r) : okR (rLo r n) := by
  obtain ⟨o0, o1, o2, o3, o4, o5⟩ := ok
  refine ⟨by rw [rLo_0]; omega, by rw [rLo_lo (by decide) (by decide)]; exact o1, by rw [rLo_lo (by decide) (by decide)]; exact o2, by rw [rLo_lo (by decide) (by decide)]; exact o3, by rw [rLo_lo (by decide) (by decide)]; exact o4, fun k hk => ?_⟩
  rw [rLo_0] at hk
  rw [rLo_k, Nat.add_assoc]
  exact o5 (k + n) (by omega)
theorem c_lose {post : SG → Prop} {g : SG} {r : Nat → Nat} {k : Nat} (hr : hC g 0 r) (ok : okR r) (h1 : 1 ≤ k) (hk : k ≤ r 0) (h : ∀ g' : SG, (∀ q, q ≠ 20 → q ≠ 40 → g' q = g q) → hC g' 0 (rLo r k) → post g') : B_X1_dropFirst_0 post (nI k) g := by
  obtain ⟨r0, r1, r2, r3, r4, r5⟩ := hr
  refine s_drop3 (sy := syR r) ok.1 h1 hk r0 (fun j hj => ⟨r5 j hj, ok.2.2.2.2.2 j hj⟩) (h _ (fun q h1 h2 => by rw [sput_r h1, shR_o h2]) ⟨?_, ?_, ?_, ?_, ?_, fun j hj => ?_⟩)
  · show sput (shR g 40 0 k (r 0 - k)) 20 0 (nI (r 0 - k)) 20 0 = _
    rw [sput_s, rLo_0]
  · show sput (shR g 40 0 k (r 0 - k)) 20 0 (nI (r 0 - k)) 20 1 = _
    rw [sput_i (by decide), shR_o (by decide), rLo_lo (by decide) (by decide)]; exact r1
  · show sput (shR g 40 0 k (r 0 - k)) 20 0 (nI (r 0 - k)) 20 2 = _
    rw [sput_i (by decide), shR_o (by decide), rLo_lo (by decide) (by decide)]; exact r2
  · show sput (shR g 40 0 k (r 0 - k)) 20 0 (nI (r 0 - k)) 20 3 = _
    rw [sput_i (by decide), shR_o (by decide), rLo_lo (by decide) (by decide)]; exact r3
  · show sput (shR g 40 0 k (r 0 - k)) 20 0 (nI (r 0 - k)) 20 4 = _
    rw [sput_i (by decide), shR_o (by decide), rLo_lo (by decide) (by decide)]; exact r4
  · show sput (shR g 40 0 k (r 0 - k)) 20 0 (nI (r 0 - k)) 40 j = _
    rw [rLo_0] at hj
    have := shR_i (g := g) (rg := 40) (o := 0) (n := k) hj
    rw [Nat.zero_add] at this
    rw [sput_r (by decide), this, rLo_k, Nat.add_assoc]
    exact r5 (j + k) (by omega)
theorem shR_b {g : SG} {rg o n m j : Nat} (h : j < o) : shR g rg o n m rg j = g rg j := by
  unfold shR
  rw [if_neg (by omega)]
theorem lo6 {post : Int32 → SG → Prop} {g : SG} {k m : Nat} (hk : k + m ≤ 120) (e : g 1 0 = nI m) (h : post (nI m) (shR g 1 6 k m)) : ∀ (n i : Nat), i ≤ m → m - i < n → P_X6_loses_32 post n (nI k) (nI i) (shR g 1 6 k i) := by
  intro n
  induction n with
  | zero => intro i _ h; exact absurd h (Nat.not_lt_zero _)
  | succ n ih =>
    intro i hi hf
    show B_X6_loses_32 post (P_X6_loses_32 post n) (nI k) (nI i) (shR g 1 6 k i)
    unfold B_X6_loses_32
    have q0 : shR g 1 6 k i 1 0 = nI m := by rw [shR_b (by decide)]; exact e
    rw [q0]
    refine ⟨fun d => ?_, fun d => ?_⟩
    · have d : m ≤ i := (nj_le (by omega) (by omega)).mp d
      have : i = m := by omega
      subst this
      exact h
    · have d : ¬ m ≤ i := fun z => d ((nj_le (by omega) (by omega)).mpr z)
      have e1 : 6 + nI i = nI (6 + i) := by rw [nl 6, nI_add]
      have e2 : nI (6 + i) + nI k = nI (6 + i + k) := nI_add _ _
      rw [e1, e2, nj_cl (by omega), nj_cl (by omega), shR_x (by omega)]
      refine ⟨nj_in (by omega) (by decide), nj_in (by omega) (by decide), fun g2 e3 z3 e4 => ?_⟩
      have e4 : z3 = nI (i + 1) := by rw [e4, nl 1, nI_add]
      rw [shR_succ] at e3
      rw [e3, e4]
      exact ih (i + 1) (by omega) (by omega)
theorem hM_lo {g : SG} {r : Nat → Nat} {k : Nat} (hr : hM g 1 0 r) (hk : k ≤ r 0) : hM (shR (sput g 1 0 (nI (r 0 - k))) 1 6 k (r 0 - k)) 1 0 (rLo r k) := by
  obtain ⟨r0, r1, r2, r3, r4, r5⟩ := hr
  refine ⟨?_, ?_, ?_, ?_, ?_, fun j hj => ?_⟩
  · rw [shR_b (by decide), sput_s, rLo_0]
  · rw [shR_b (by decide), sput_i (by decide), rLo_lo (by decide) (by decide)]; exact r1
  · rw [shR_b (by decide), sput_i (by decide), rLo_lo (by decide) (by decide)]; exact r2
  · rw [shR_b (by decide), sput_i (by decide), rLo_lo (by decide) (by decide)]; exact r3
  · rw [shR_b (by decide), sput_i (by decide), rLo_lo (by decide) (by decide)]; exact r4
  · rw [rLo_0] at hj
    rw [Nat.zero_add, shR_i hj, sput_i (by omega), rLo_k]
    have := r5 (j + k) (by omega)
    rw [Nat.zero_add, ← Nat.add_assoc] at this
    exact this
theorem sim_loses (g h : SG) (x1 : Int32) (hI : Inv0 g h) : B_X5_loses_0 (fun r g3 => B_X6_loses_0 (fun r2 h3 => r = r2 ∧ Inv0 g3 h3) x1 h) x1 g := by
  have hI0 := hI
  obtain ⟨r, R, u, c, I, kp, hc, hm⟩ := hI
  have ec : g 20 0 = nI (r 0) := hc.1.1.1
  have em : h 1 0 = nI (r 0) := hm.1.1.1
  have hn := hc.1.2.1
  by_cases hx : ∃ k, 1 ≤ k ∧ k ≤ r 0 ∧ x1 = nI k
  · obtain ⟨k, h1, hk, rfl⟩ := hx
    have hle : nI k ≤ nI (r 0) := (nj_le (by omega) (by omega)).mpr hk
    unfold B_X5_loses_0
    rw [ec]
    refine ⟨fun z => absurd ((nj_lt (b := 1) (by omega) (by decide)).mp z) (by omega), fun _ => ⟨fun _ => ?_, fun z => absurd hle z⟩⟩
    refine c_rem hc (fun g4 hc4 _ _ => c_lose hc4.1.1 hc4.1.2 h1 hk (fun g6 a1 a2 => c_row hc4 a1 a2 (ok_lo hc4.1.2) (fun g7 hc7 e7 => ?_)))
    unfold B_X6_loses_0
    rw [em]
    refine s_in_y (lo := 1) (hi := r 0) h1 hk (by omega) ⟨fun _ => m_rem hm (fun h4 hm4 t4 f4 h5 e5 => ?_), fun z => absurd z i10⟩
    rw [f4, em, nj_sub hk] at e5
    have q5 : h5 1 0 = nI (r 0 - k) := by rw [e5, sput_s]
    refine ⟨121, ?_⟩
    have key := lo6 (post := fun r2 h3 => g7 20 0 = r2 ∧ Inv0 g7 h3) (g := h5) (k := k) (m := r 0 - k) (by omega) q5 ?_ 121 0 (Nat.zero_le _) (by omega)
    · rw [shR_0] at key
      exact key
    · refine ⟨by rw [e7, rLo_0], _, _, _, _, _, _, hc7, m_row hm4 t4 (fun q hq => by rw [shR_o hq, e5, sput_r hq]) ?_ (ok_lo hm4.1.2)⟩
      rw [e5]
      exact hM_lo hm4.1.1 hk
  · have bad : B_X6_loses_0 (fun r2 h3 => -1 = r2 ∧ Inv0 g h3) x1 h := by
      unfold B_X6_loses_0
      rw [em]
      exact s_in_n (lo := 1) (hi := r 0) (by decide) (by omega) hx ⟨fun z => absurd rfl z, fun _ => ⟨rfl, hI0⟩⟩
    unfold B_X5_loses_0 B_X5_loses_16
    rw [ec]
    exact ⟨fun _ => bad, fun c1 => ⟨fun c2 => (out_no (lo := 1) (hi := r 0) (by decide) (by omega) hx c1 (Int32.not_lt.mpr c2)).elim, fun _ => bad⟩⟩
/-! one number of the row set -/
theorem hC_f1 {g : SG} {r : Nat → Nat} {v : Nat} {w : Int32} (hw : w = nI v) (hr : hC g 0 r) : hC (sput g 20 1 w) 0 (rF r 1 v) := by
  obtain ⟨r0, r1, r2, r3, r4, r5⟩ := hr
  subst hw
  refine ⟨?_, ?_, ?_, ?_, ?_, fun k hk => ?_⟩
  · show sput g 20 1 (nI v) 20 0 = _
    rw [sput_i (by decide), rF_i (by decide)]; exact r0
  · show sput g 20 1 (nI v) 20 1 = _
    rw [sput_s, rF_s]
  · show sput g 20 1 (nI v) 20 2 = _
    rw [sput_i (by decide), rF_i (by decide)]; exact r2
  · show sput g 20 1 (nI v) 20 3 = _
    rw [sput_i (by decide), rF_i (by decide)]; exact r3
  · show sput g 20 1 (nI v) 20 4 = _
    rw [sput_i (by decide), rF_i (by decide)]; exact r4
  · show sput g 20 1 (nI v) 40 k = _
    rw [rF_i (by decide)] at hk
    rw [sput_r (by decide), rF_i (by omega)]; exact r5 k hk
theorem hM_f1 {g : SG} {r : Nat → Nat} {v : Nat} {w : Int32} (hw : w = nI v) (hr : hM g 1 0 r) : hM (sput g 1 1 w) 1 0 (rF r 1 v) := by
  obtain ⟨r0, r1, r2, r3, r4, r5⟩ := hr
  subst hw
  refine ⟨?_, ?_, ?_, ?_, ?_, fun k hk => ?_⟩
  · rw [sput_i (by decide), rF_i (by decide)]; exact r0
  · show sput g 1 1 (nI v) 1 1 = _
    rw [sput_s, rF_s]
  · rw [sput_i (by decide), rF_i (by decide)]; exact r2
  · rw [sput_i (by decide), rF_i (by decide)]; exact r3
  · rw [sput_i (by decide), rF_i (by decide)]; exact r4
  · rw [rF_i (by decide)] at hk
    rw [sput_i (by omega), rF_i (by omega)]; exact r5 k hk
theorem ok_f1 {r : Nat → Nat} {v : Nat} (ok : okR r) (hv : 1 ≤ v ∧ v ≤ 9) : okR (rF r 1 v) := by
  obtain ⟨o0, o1, o2, o3, o4, o5⟩ := ok
  refine ⟨by rw [rF_i (by decide)]; exact o0, by rw [rF_s]; exact hv, by rw [rF_i (by decide)]; exact o2, by rw [rF_i (by decide)]; exact o3, by rw [rF_i (by decide)]; exact o4, fun k hk => ?_⟩
  rw [rF_i (by decide)] at hk
  rw [rF_i (by omega)]
  exact o5 k hk
theorem hC_f2 {g : SG} {r : Nat → Nat} {v : Nat} {w : Int32} (hw : w = nI v) (hr : hC g 0 r) : hC (sput g 20 2 w) 0 (rF r 2 v) := by
  obtain ⟨r0, r1, r2, r3, r4, r5⟩ := hr
  subst hw
  refine ⟨?_, ?_, ?_, ?_, ?_, fun k hk => ?_⟩
  · show sput g 20 2 (nI v) 20 0 = _
    rw [sput_i (by decide), rF_i (by decide)]; exact r0
  · show sput g 20 2 (nI v) 20 1 = _
    rw [sput_i (by decide), rF_i (by decide)]; exact r1
  · show sput g 20 2 (nI v) 20 2 = _
    rw [sput_s, rF_s]
  · show sput g 20 2 (nI v) 20 3 = _
    rw [sput_i (by decide), rF_i (by decide)]; exact r3
  · show sput g 20 2 (nI v) 20 4 = _
    rw [sput_i (by decide), rF_i (by decide)]; exact r4
  · show sput g 20 2 (nI v) 40 k = _
    rw [rF_i (by decide)] at hk
    rw [sput_r (by decide), rF_i (by omega)]; exact r5 k hk
theorem hM_f2 {g : SG} {r : Nat → Nat} {v : Nat} {w : Int32} (hw : w = nI v) (hr : hM g 1 0 r) : hM (sput g 1 2 w) 1 0 (rF r 2 v) := by
  obtain ⟨r0, r1, r2, r3, r4, r5⟩ := hr
  subst hw
  refine ⟨?_, ?_, ?_, ?_, ?_, fun k hk => ?_⟩
  · rw [sput_i (by decide), rF_i (by decide)]; exact r0
  · rw [sput_i (by decide), rF_i (by decide)]; exact r1
  · show sput g 1 2 (nI v) 1 2 = _
    rw [sput_s, rF_s]
  · rw [sput_i (by decide), rF_i (by decide)]; exact r3
  · rw [sput_i (by decide), rF_i (by decide)]; exact r4
  · rw [rF_i (by decide)] at hk
    rw [sput_i (by omega), rF_i (by omega)]; exact r5 k hk
theorem ok_f2 {r : Nat → Nat} {v : Nat} (ok : okR r) (hv : v ≤ 50) : okR (rF r 2 v) := by
  obtain ⟨o0, o1, o2, o3, o4, o5⟩ := ok
  refine ⟨by rw [rF_i (by decide)]; exact o0, by rw [rF_i (by decide)]; exact o1, by rw [rF_s]; exact hv, by rw [rF_i (by decide)]; exact o3, by rw [rF_i (by decide)]; exact o4, fun k hk => ?_⟩
  rw [rF_i (by decide)] at hk
  rw [rF_i (by omega)]
  exact o5 k hk
theorem hC_f3 {g : SG} {r : Nat → Nat} {v : Nat} {w : Int32} (hw : w = clkC v) (hr : hC g 0 r) : hC (sput g 20 3 w) 0 (rF r 3 v) := by
  obtain ⟨r0, r1, r2, r3, r4, r5⟩ := hr
  subst hw
  refine ⟨?_, ?_, ?_, ?_, ?_, fun k hk => ?_⟩
  · show sput g 20 3 (clkC v) 20 0 = _
    rw [sput_i (by decide), rF_i (by decide)]; exact r0
  · show sput g 20 3 (clkC v) 20 1 = _
    rw [sput_i (by decide), rF_i (by decide)]; exact r1
  · show sput g 20 3 (clkC v) 20 2 = _
    rw [sput_i (by decide), rF_i (by decide)]; exact r2
  · show sput g 20 3 (clkC v) 20 3 = _
    rw [sput_s, rF_s]
  · show sput g 20 3 (clkC v) 20 4 = _
    rw [sput_i (by decide), rF_i (by decide)]; exact r4
  · show sput g 20 3 (clkC v) 40 k = _
    rw [rF_i (by decide)] at hk
    rw [sput_r (by decide), rF_i (by omega)]; exact r5 k hk
theorem hM_f3 {g : SG} {r : Nat → Nat} {v : Nat} {w : Int32} (hw : w = clkM v) (hr : hM g 1 0 r) : hM (sput g 1 3 w) 1 0 (rF r 3 v) := by
  obtain ⟨r0, r1, r2, r3, r4, r5⟩ := hr
  subst hw
  refine ⟨?_, ?_, ?_, ?_, ?_, fun k hk => ?_⟩
  · rw [sput_i (by decide), rF_i (by decide)]; exact r0
  · rw [sput_i (by decide), rF_i (by decide)]; exact r1
  · rw [sput_i (by decide), rF_i (by decide)]; exact r2
  · show sput g 1 3 (clkM v) 1 3 = _
    rw [sput_s, rF_s]
  · rw [sput_i (by decide), rF_i (by decide)]; exact r4
  · rw [rF_i (by decide)] at hk
    rw [sput_i (by omega), rF_i (by omega)]; exact r5 k hk
theorem ok_f3 {r : Nat → Nat} {v : Nat} (ok : okR r) (hv : v ≤ 11520) : okR (rF r 3 v) := by
  obtain ⟨o0, o1, o2, o3, o4, o5⟩ := ok
  refine ⟨by rw [rF_i (by decide)]; exact o0, by rw [rF_i (by decide)]; exact o1, by rw [rF_i (by decide)]; exact o2, by rw [rF_s]; exact hv, by rw [rF_i (by decide)]; exact o4, fun k hk => ?_⟩
  rw [rF_i (by decide)] at hk
  rw [rF_i (by omega)]
  exact o5 k hk
theorem hC_f4 {g : SG} {r : Nat → Nat} {v : Nat} {w : Int32} (hw : w = nI v) (hr : hC g 0 r) : hC (sput g 20 4 w) 0 (rF r 4 v) := by
  obtain ⟨r0, r1, r2, r3, r4, r5⟩ := hr
  subst hw
  refine ⟨?_, ?_, ?_, ?_, ?_, fun k hk => ?_⟩
  · show sput g 20 4 (nI v) 20 0 = _
    rw [sput_i (by decide), rF_i (by decide)]; exact r0
  · show sput g 20 4 (nI v) 20 1 = _
    rw [sput_i (by decide), rF_i (by decide)]; exact r1
  · show sput g 20 4 (nI v) 20 2 = _
    rw [sput_i (by decide), rF_i (by decide)]; exact r2
  · show sput g 20 4 (nI v) 20 3 = _
    rw [sput_i (by decide), rF_i (by decide)]; exact r3
  · show sput g 20 4 (nI v) 20 4 = _
    rw [sput_s, rF_s]
  · show sput g 20 4 (nI v) 40 k = _
    rw [rF_i (by decide)] at hk
    rw [sput_r (by decide), rF_i (by omega)]; exact r5 k hk
theorem hM_f4 {g : SG} {r : Nat → Nat} {v : Nat} {w : Int32} (hw : w = nI v) (hr : hM g 1 0 r) : hM (sput g 1 4 w) 1 0 (rF r 4 v) := by
  obtain ⟨r0, r1, r2, r3, r4, r5⟩ := hr
  subst hw
  refine ⟨?_, ?_, ?_, ?_, ?_, fun k hk => ?_⟩
  · rw [sput_i (by decide), rF_i (by decide)]; exact r0
  · rw [sput_i (by decide), rF_i (by decide)]; exact r1
  · rw [sput_i (by decide), rF_i (by decide)]; exact r2
  · rw [sput_i (by decide), rF_i (by decide)]; exact r3
  · show sput g 1 4 (nI v) 1 4 = _
    rw [sput_s, rF_s]
  · rw [rF_i (by decide)] at hk
    rw [sput_i (by omega), rF_i (by omega)]; exact r5 k hk
theorem ok_f4 {r : Nat → Nat} {v : Nat} (ok : okR r) (hv : v ≤ 9999) : okR (rF r 4 v) := by
  obtain ⟨o0, o1, o2, o3, o4, o5⟩ := ok
  refine ⟨by rw [rF_i (by decide)]; exact o0, by rw [rF_i (by decide)]; exact o1, by rw [rF_i (by decide)]; exact o2, by rw [rF_i (by decide)]; exact o3, by rw [rF_s]; exact hv, fun k hk => ?_⟩
  rw [rF_i (by decide)] at hk
  rw [rF_i (by omega)]
  exact o5 k hk
theorem sim_needs (g h : SG) (x1 : Int32) (hI : Inv0 g h) : B_X5_needs_0 (fun r g3 => B_X6_needs_0 (fun r2 h3 => r = r2 ∧ Inv0 g3 h3) x1 h) x1 g := by
  have hI0 := hI
  obtain ⟨r, R, u, c, I, kp, hc, hm⟩ := hI
  by_cases hx : ∃ k, 1 ≤ k ∧ k ≤ 9 ∧ x1 = nI k
  · obtain ⟨k, h1, hk, rfl⟩ := hx
    have hle : nI k ≤ 9 := (nj_le (b := 9) (by omega) (by decide)).mpr hk
    unfold B_X5_needs_0
    refine ⟨fun z => absurd ((nj_lt (b := 1) (by omega) (by decide)).mp z) (by omega), fun _ => ⟨fun _ => ?_, fun z => absurd hle z⟩⟩
    refine c_rem hc (fun g4 hc4 _ _ z4 e4 g5 e5 => ?_)
    have e4 : z4 = nI (r 1) := e4.trans hc4.1.1.2.1
    have hc5 := c_fld (r' := rF r 1 k) (g' := g5) hc4 (fun q hq => by rw [e5, sput_r hq]) (by rw [e5]; exact hC_f1 rfl hc4.1.1) (ok_f1 hc4.1.2 ⟨h1, hk⟩) (rF_i (by decide)) (rF_sy (by decide))
    unfold B_X6_needs_0 B_X6_needs_20 B_X6_becomes_0
    refine s_in_y (lo := 1) (hi := 9) h1 hk (by decide) ⟨fun z => absurd z i10, fun _ => ⟨nj_in (a := 1) (by decide) (by decide), fun z1 e1 => m_rem hm (fun h4 hm4 t4 f4 => ⟨nj_in (a := 1) (by decide) (by decide), fun h5 e6 => ⟨?_, _, _, _, _, _, _, hc5, m_row hm4 t4 (fun q hq => ?_) ?_ (ok_f1 hm4.1.2 ⟨h1, hk⟩)⟩⟩)⟩⟩
    · have : h 1 1 = nI (r 1) := hm.1.1.2.1
      rw [e4, e1]
      exact this.symm
    · rw [e6, sput_r hq]
    · have e6 : h5 = sput h4 1 1 (nI k) := e6
      rw [e6]
      exact hM_f1 rfl hm4.1.1
  · have bad : B_X6_needs_0 (fun r2 h3 => -1 = r2 ∧ Inv0 g h3) x1 h := by
      unfold B_X6_needs_0 B_X6_needs_20
      exact s_in_n (lo := 1) (hi := 9) (by decide) (by decide) hx ⟨fun _ => ⟨rfl, hI0⟩, fun z => absurd rfl z⟩
    unfold B_X5_needs_0 B_X5_needs_11
    exact ⟨fun _ => bad, fun c1 => ⟨fun c2 => (out_no (lo := 1) (hi := 9) (by decide) (by decide) hx c1 (Int32.not_lt.mpr c2)).elim, fun _ => bad⟩⟩
theorem sim_drifts (g h : SG) (x1 : Int32) (hI : Inv0 g h) : B_X5_drifts_0 (fun r g3 => B_X6_drifts_0 (fun r2 h3 => r = r2 ∧ Inv0 g3 h3) x1 h) x1 g := by
  have hI0 := hI
  obtain ⟨r, R, u, c, I, kp, hc, hm⟩ := hI
  by_cases hx : ∃ k, 0 ≤ k ∧ k ≤ 50 ∧ x1 = nI k
  · obtain ⟨k, h1, hk, rfl⟩ := hx
    have hle : nI k ≤ 50 := (nj_le (b := 50) (by omega) (by decide)).mpr hk
    unfold B_X5_drifts_0
    refine ⟨fun z => absurd z (ge0 (by omega)), fun _ => ⟨fun _ => ?_, fun z => absurd hle z⟩⟩
    refine c_rem hc (fun g4 hc4 _ _ z4 e4 g5 e5 => ?_)
    have e4 : z4 = nI (r 2) := e4.trans hc4.1.1.2.2.1
    have hc5 := c_fld (r' := rF r 2 k) (g' := g5) hc4 (fun q hq => by rw [e5, sput_r hq]) (by rw [e5]; exact hC_f2 rfl hc4.1.1) (ok_f2 hc4.1.2 hk) (rF_i (by decide)) (rF_sy (by decide))
    unfold B_X6_drifts_0 B_X6_drifts_20 B_X6_becomes_0
    refine s_in_y (lo := 0) (hi := 50) h1 hk (by decide) ⟨fun z => absurd z i10, fun _ => ⟨nj_in (a := 2) (by decide) (by decide), fun z1 e1 => m_rem hm (fun h4 hm4 t4 f4 => ⟨nj_in (a := 2) (by decide) (by decide), fun h5 e6 => ⟨?_, _, _, _, _, _, _, hc5, m_row hm4 t4 (fun q hq => ?_) ?_ (ok_f2 hm4.1.2 hk)⟩⟩)⟩⟩
    · have : h 1 2 = nI (r 2) := hm.1.1.2.2.1
      rw [e4, e1]
      exact this.symm
    · rw [e6, sput_r hq]
    · have e6 : h5 = sput h4 1 2 (nI k) := e6
      rw [e6]
      exact hM_f2 rfl hm4.1.1
  · have bad : B_X6_drifts_0 (fun r2 h3 => -1 = r2 ∧ Inv0 g h3) x1 h := by
      unfold B_X6_drifts_0 B_X6_drifts_20
      exact s_in_n (lo := 0) (hi := 50) (by decide) (by decide) hx ⟨fun _ => ⟨rfl, hI0⟩, fun z => absurd rfl z⟩
    unfold B_X5_drifts_0 B_X5_drifts_10
    exact ⟨fun _ => bad, fun c1 => ⟨fun c2 => (out_no (lo := 0) (hi := 50) (by decide) (by decide) hx c1 (Int32.not_lt.mpr c2)).elim, fun _ => bad⟩⟩
/-! the clock is set, the clock goes -/
theorem laN_lt (n : Nat) (sy : Nat → Nat) : laN n sy < 11520 := laterN_lt (beN_lt n sy) _
theorem maN_le {n : Nat} {sy : Nat → Nat} (hn : n ≤ 120) : maN n sy ≤ 115 := by
  have := (bsA_ge (misN_le (sy := sy) hn) 11519).2
  unfold maN
  omega
theorem c_shown {post : Int32 → SG → Prop} {g : SG} {r : Nat → Nat} {R : Nat → Nat → Nat} {u c : Nat} {I : Nat → Nat → Nat} {kp : Nat → Nat} (hI : CI g r R u c I kp) (hy : 0 < cnN (r 0) (syR r) → r 1 ≤ maN (r 0) (syR r) → ∀ g' : SG, CI g' r R u c I kp → post 1 g') (hno : ¬ (0 < cnN (r 0) (syR r) ∧ r 1 ≤ maN (r 0) (syR r)) → ∀ g' : SG, CI g' r R u c I kp → post 0 g') : B_X5_isShown_0 post g := by
  have hc6 := cnN_le (sy := syR r) hI.1.2.1
  have hma := maN_le (sy := syR r) hI.1.2.1
  have hnd := hI.1.2.2.1
  unfold B_X5_isShown_0 B_X5_isShown_31 B_X5_isShown_32
  refine c_frames hI (fun g1 h1 f1 _ => ?_)
  rw [f1.2.1]
  refine ⟨fun d => ⟨nb0, hno ?_ g1 h1⟩, fun d => c_vote h1 (fun g3 h3 v3 _ _ => ?_)⟩
  · have d : cnN (r 0) (syR r) ≤ 0 := (nj_le (b := 0) (by omega) (by decide)).mp d
    omega
  · have d : ¬ cnN (r 0) (syR r) ≤ 0 := fun z => d ((nj_le (b := 0) (by omega) (by decide)).mpr z)
    have e1 : g3 20 1 = nI (r 1) := h3.1.1.2.1
    rw [v3.2.2.2.1, e1]
    refine ⟨fun d2 => ⟨nb0, hno ?_ g3 h3⟩, fun d2 => ⟨nb1, hy (by omega) ?_ g3 h3⟩⟩
    · have d2 := (nj_lt (by omega) (by omega)).mp d2
      omega
    · exact Nat.not_lt.mp (fun z => d2 ((nj_lt (by omega) (by omega)).mpr z))
theorem sim_sets (g h : SG) (hI : Inv0 g h) : B_X5_sets_0 (fun r g3 => B_X6_sets_0 (fun r2 h3 => r = r2 ∧ Inv0 g3 h3) h) g := by
  obtain ⟨r, R, u, c, I, kp, hc, hm⟩ := hI
  have hn := hc.1.2.1
  have hla := laN_lt (r 0) (syR r)
  unfold B_X5_sets_0
  refine c_shown hc (fun y1 y2 g2 hc2 => ⟨fun _ => ?_, fun z => absurd z i10⟩) (fun no g2 hc2 => ⟨fun z => absurd rfl z, fun _ => ?_⟩)
  · refine c_rem hc2 (fun g4 hc4 _ _ => c_vote hc4 (fun g5 hc5 v5 _ _ g6 e6 g7 e7 => ?_))
    rw [v5.2.2.2.2] at e6
    have hc6 := c_fld (r' := rF r 3 (laN (r 0) (syR r) + 1)) (g' := g6) hc5 (fun q hq => by rw [e6, sput_r hq]) (by rw [e6]; exact hC_f3 rfl hc5.1.1) (ok_f3 hc5.1.2 (by omega)) (rF_i (by decide)) (rF_sy (by decide))
    have hc7 := c_fld (r' := rF (rF r 3 (laN (r 0) (syR r) + 1)) 4 0) (g' := g7) hc6 (fun q hq => by rw [e7, sput_r hq]) (by rw [e7]; exact hC_f4 rfl hc6.1.1) (ok_f4 hc6.1.2 (by omega)) (rF_i (by decide)) (rF_sy (by decide))
    have q7 : g7 20 3 = nI (laN (r 0) (syR r)) := by rw [e7, sput_i (by decide), e6, sput_s]
    rw [q7]
    show B_X6_sets_0 (fun r2 h3 => nI (laN (r 0) (syR r)) / 8 = r2 ∧ Inv0 g7 h3) h
    unfold B_X6_sets_0
    refine m_tells hm (fun h1 hm1 t1 _ _ => ?_)
    refine s_shown6 (n := r 0) (sy := syR r) (nd := r 1) hn (by have := hc.1.2.2.1; omega) t1.1.2.1 t1.2.2.2 hm1.1.1.2.1 (fun _ _ => ⟨fun _ => s_last6 hn t1 (m_rem hm1 (fun h5 hm5 t5 _ h6 e8 h7 e9 => ⟨rfl, _, _, _, _, _, _, hc7, ?_⟩)), fun z => absurd z i10⟩) (fun z => absurd ⟨y1, y2⟩ z)
    have hm6 := m_row (r' := rF r 3 (laN (r 0) (syR r) + 1)) (h' := h6) hm5 t5 (fun q hq => by rw [e8, sput_r hq]) (by rw [e8]; exact hM_f3 rfl hm5.1.1) (ok_f3 hm5.1.2 (by omega))
    have t6 : h6 0 2 = 0 := by rw [e8, sput_r (by decide)]; exact t5
    exact m_row (r' := rF (rF r 3 (laN (r 0) (syR r) + 1)) 4 0) (h' := h7) hm6 t6 (fun q hq => by rw [e9, sput_r hq]) (by rw [e9]; exact hM_f4 rfl hm6.1.1) (ok_f4 hm6.1.2 (by omega))
  · show B_X6_sets_0 (fun r2 h3 => -2 = r2 ∧ Inv0 g2 h3) h
    unfold B_X6_sets_0
    refine m_tells hm (fun h1 hm1 t1 _ _ => ?_)
    exact s_shown6 (n := r 0) (sy := syR r) (nd := r 1) hn (by have := hc.1.2.2.1; omega) t1.1.2.1 t1.2.2.2 hm1.1.1.2.1 (fun y1 y2 => absurd ⟨y1, y2⟩ no) (fun _ => ⟨fun z => absurd rfl z, fun _ => ⟨rfl, _, _, _, _, _, _, hc2, hm1⟩⟩)
theorem sim_goes (g h : SG) (x1 : Int32) (hI : Inv0 g h) : B_X5_goes_0 (fun r g3 => B_X6_goes_0 (fun r2 h3 => r = r2 ∧ Inv0 g3 h3) x1 h) x1 g := by
  have hI0 := hI
  obtain ⟨r, R, u, c, I, kp, hc, hm⟩ := hI
  have ec : g 20 3 = clkC (r 3) := hc.1.1.2.2.2.1
  have em : h 1 3 = clkM (r 3) := hm.1.1.2.2.2.1
  have o3 := hc.1.2.2.2.2.1
  have o4 := hc.1.2.2.2.2.2.1
  by_cases hx : ∃ k, 1 ≤ k ∧ k ≤ 999 ∧ x1 = nI k
  · obtain ⟨k, h1, hk, rfl⟩ := hx
    have hle : nI k ≤ 999 := (nj_le (b := 999) (by omega) (by decide)).mpr hk
    have hlo : ¬ nI k < 1 := fun z => absurd ((nj_lt (b := 1) (by omega) (by decide)).mp z) (by omega)
    cases hr3 : r 3 with
    | zero =>
      rw [hr3] at ec em
      have e1 : g 20 3 = -1 := ec
      have e9 : h 1 3 = -9 := em
      unfold B_X5_goes_0
      refine ⟨fun z => absurd z hlo, fun _ => ⟨fun _ => ⟨fun z => absurd e1 z, fun _ => ?_⟩, fun z => absurd hle z⟩⟩
      unfold B_X6_goes_0
      exact s_in_y (lo := 1) (hi := 999) h1 hk (by decide) ⟨fun _ => ⟨fun z => absurd e9 z, fun _ => ⟨rfl, hI0⟩⟩, fun z => absurd z i10⟩
    | succ t =>
      rw [hr3] at ec em
      have e1 : g 20 3 = nI t := ec
      have e9 : h 1 3 = nI t := em
      have htl := laterN_lt (show t < 11520 by omega) k
      unfold B_X5_goes_0
      refine ⟨fun z => absurd z hlo, fun _ => ⟨fun _ => ⟨fun _ => ?_, fun z => absurd (e1 ▸ z) (n1 (by omega))⟩, fun z => absurd hle z⟩⟩
      refine c_rem hc (fun g4 hc4 e20 _ => ?_)
      rw [e20, e1]
      refine s_later3 (by omega) (by omega) (fun g6 e6 => ?_)
      have hc6 := c_fld (r' := rF r 3 (laterN t k + 1)) (g' := g6) hc4 (fun q hq => by rw [e6, sput_r hq]) (by rw [e6]; exact hC_f3 rfl hc4.1.1) (ok_f3 hc4.1.2 (by omega)) (rF_i (by decide)) (rF_sy (by decide))
      have q4 : g6 20 4 = nI (r 4) := by
        have := hc6.1.1.2.2.2.2.1
        rw [rF_i (by decide)] at this
        exact this
      have q3 : g6 20 3 = nI (laterN t k) := by rw [e6, sput_s]
      rw [q4, nI_add]
      refine s_min (b := 9999) (by omega) (by decide) (fun g8 e8 => ?_)
      generalize hage : (if 9999 < r 4 + k then 9999 else r 4 + k) = ag at e8
      have hag : ag ≤ 9999 := by rw [← hage]; split <;> omega
      have hc8 := c_fld (r' := rF (rF r 3 (laterN t k + 1)) 4 ag) (g' := g8) hc6 (fun q hq => by rw [e8, sput_r hq]) (by rw [e8]; exact hC_f4 rfl hc6.1.1) (ok_f4 hc6.1.2 hag) (rF_i (by decide)) (rF_sy (by decide))
      have q8 : g8 20 3 = nI (laterN t k) := by rw [e8, sput_i (by decide)]; exact q3
      rw [q8]
      show B_X6_goes_0 (fun r2 h3 => nI (laterN t k) / 8 = r2 ∧ Inv0 g8 h3) (nI k) h
      unfold B_X6_goes_0 B_X6_goes_80
      refine s_in_y (lo := 1) (hi := 999) h1 hk (by decide) ⟨fun _ => ⟨fun _ => m_rem hm (fun h4 hm4 t4 f4 => ?_), fun z => absurd (e9 ▸ z) (n9 (by omega))⟩, fun z => absurd z i10⟩
      rw [f4, e9]
      refine s_later6 (by omega) (by omega) (fun h6 b6 => ?_)
      have hm6 := m_row (r' := rF r 3 (laterN t k + 1)) (h' := h6) hm4 t4 (fun q hq => by rw [b6, sput_r hq]) (by rw [b6]; exact hM_f3 rfl hm4.1.1) (ok_f3 hm4.1.2 (by omega))
      have t6 : h6 0 2 = 0 := by rw [b6, sput_r (by decide)]; exact t4
      have p4 : h6 1 4 = nI (r 4) := by
        have := hm6.1.1.2.2.2.2.1
        rw [rF_i (by decide)] at this
        exact this
      have p3 : h6 1 3 = nI (laterN t k) := by rw [b6, sput_s]
      rw [p4, nI_add]
      have fin : ∀ w : Int32, w = nI ag → ∀ h8 : SG, h8 = sput h6 1 4 w → nI (laterN t k) / 8 = h8 1 3 / 8 ∧ Inv0 g8 h8 := by
        intro w hw h8 b8
        have p8 : h8 1 3 = nI (laterN t k) := by rw [b8, sput_i (by decide)]; exact p3
        refine ⟨by rw [p8], _, _, _, _, _, _, hc8, m_row hm6 t6 (fun q hq => by rw [b8, sput_r hq]) ?_ (ok_f4 hm6.1.2 hag)⟩
        rw [b8]
        exact hM_f4 hw hm6.1.1
      refine ⟨fun d => ⟨nj_in (a := 4) (by decide) (by decide), fin _ ?_⟩, fun d => ⟨nj_in (a := 4) (by decide) (by decide), fin _ ?_⟩⟩
      · have d : r 4 + k ≤ 9999 := (nj_le (b := 9999) (by omega) (by decide)).mp d
        rw [← hage, if_neg (by omega)]
      · have d : ¬ r 4 + k ≤ 9999 := fun z => d ((nj_le (b := 9999) (by omega) (by decide)).mpr z)
        rw [← hage, if_pos (by omega)]
        rfl
  · have bad : B_X6_goes_0 (fun r2 h3 => -1 = r2 ∧ Inv0 g h3) x1 h := by
      unfold B_X6_goes_0
      exact s_in_n (lo := 1) (hi := 999) (by decide) (by decide) hx ⟨fun z => absurd rfl z, fun _ => ⟨rfl, hI0⟩⟩
    unfold B_X5_goes_0 B_X5_goes_12
    exact ⟨fun _ => bad, fun c1 => ⟨fun c2 => (out_no (lo := 1) (hi := 999) (by decide) (by decide) hx c1 (Int32.not_lt.mpr c2)).elim, fun _ => bad⟩⟩
