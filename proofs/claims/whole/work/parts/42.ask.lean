/-! both sides at once: what is asked -/
theorem m1_lt {j : Nat} (hj : j < 2147483648) : nI 0 - 1 < nI j := by
  rw [Int32.lt_iff_toInt_lt, nj_ti hj, show (nI 0 - 1).toInt = -1 by decide]
  omega
theorem s_in_p {post : Int32 → Prop} {x : Int32} {n : Nat} (hn : n < 2147483648) (h1 : ∀ k, k < n → x = nI k → post 1) (h0 : (¬ ∃ k, k < n ∧ x = nI k) → post 0) : B_X6_in_0 post x 0 (nI n - 1) := by
  by_cases hx : ∃ k, k < n ∧ x = nI k
  · obtain ⟨k, hk, rfl⟩ := hx
    obtain ⟨m, rfl⟩ : ∃ m, n = m + 1 := ⟨n - 1, by omega⟩
    have e : nI (m + 1) - 1 = nI m := nI_pred m
    rw [e]
    exact s_in_y (lo := 0) (hi := m) (by omega) (by omega) (by omega) (h1 k hk rfl)
  · refine s_in (fun c => ?_) (fun _ => h0 hx)
    obtain ⟨j, hj, rfl⟩ := nI_of c.1
    cases n with
    | zero => exact absurd (m1_lt hj) c.2
    | succ m =>
      have e : nI (m + 1) - 1 = nI m := nI_pred m
      rw [e] at c
      have : ¬ m < j := fun z => c.2 ((nj_lt (by omega) hj).mpr z)
      exact absurd ⟨j, by omega, rfl⟩ hx
theorem sim_symbol (g h : SG) (x1 : Int32) (hI : Inv0 g h) : B_X5_symbol_0 (fun r => B_X6_symbol_0 (fun r2 => r = r2 ∧ Inv0 g h) x1 h) x1 g := by
  have hI0 := hI
  obtain ⟨r, R, u, c, I, kp, hc, hm⟩ := hI
  have ec : g 20 0 = nI (r 0) := hc.1.1.1
  have em : h 1 0 = nI (r 0) := hm.1.1.1
  have hn := hc.1.2.1
  unfold B_X5_symbol_0 B_X5_symbol_15 B_X5_symbol_28
  rw [ec]
  have bad : (¬ ∃ k, k < r 0 ∧ x1 = nI k) → B_X6_symbol_0 (fun r2 => -1 = r2 ∧ Inv0 g h) x1 h := by
    intro hx
    unfold B_X6_symbol_0 B_X6_symbol_25
    rw [em]
    exact s_in_p (by omega) (fun k hk e => absurd ⟨k, hk, e⟩ hx) (fun _ => ⟨fun _ => ⟨rfl, hI0⟩, fun z => absurd rfl z⟩)
  refine ⟨fun d => bad (fun ⟨k, hk, e⟩ => ge0 (by omega) (e ▸ d)), fun d => ⟨fun d2 => ?_, fun d2 => bad (fun ⟨k, hk, e⟩ => d2 (e ▸ (nj_lt (by omega) (by omega)).mpr hk))⟩⟩
  obtain ⟨k, hk, rfl⟩ := nI_of d
  have d2 : k < r 0 := (nj_lt hk (by omega)).mp d2
  rw [nj_cl hk]
  refine ⟨nj_in (by omega) (by decide), ?_⟩
  have e40 : g 40 k = nI (r (6 + k)) := hc.1.1.2.2.2.2.2 k d2
  rw [e40]
  unfold B_X6_symbol_0 B_X6_symbol_25
  rw [em]
  refine s_in_p (by omega) (fun j hj e => ⟨fun z => absurd z i10, fun _ => s_symAt (by omega) ⟨?_, hI0⟩⟩) (fun z => absurd ⟨k, d2, rfl⟩ z)
  exact ((m_rowM hm).2.2 k d2).1.symm
theorem s_of3 {post : Int32 → Prop} {m s h l : Nat} (hp : post (nI (8 * m + 4 * s + 2 * h + l))) : B_X3_of_0 post (nI m) (nI s) (nI h) (nI l) := by
  unfold B_X3_of_0
  rw [nl 8, nl 4, nl 2, pk_mul, pk_mul, pk_mul, nI_add, nI_add, nI_add]
  exact hp
theorem s_of6 {post : Int32 → Prop} {m s h l : Nat} (hp : post (nI (8 * m + 4 * s + 2 * h + l))) : B_X6_codeOf_0 post (nI m) (nI s) (nI h) (nI l) := by
  unfold B_X6_codeOf_0
  rw [nl 8, nl 4, nl 2, pk_mul, pk_mul, pk_mul, nI_add, nI_add, nI_add]
  exact hp
theorem sim_bits (g h : SG) (x1 x2 x3 x4 : Int32) (hI : Inv0 g h) : B_X5_bits_0 (fun r => B_X6_bits_0 (fun r2 => r = r2 ∧ Inv0 g h) x1 x2 x3 x4 h) x1 x2 x3 x4 g := by
  unfold B_X5_bits_0
  refine s_isTime3 (fun hT => ⟨fun _ => ?_, fun z => absurd z i10⟩) (fun hT => ⟨fun z => absurd rfl z, fun _ => ?_⟩)
  · have hT0 := hT
    obtain ⟨m, s, sh, l, hm, hs, hh, hl, rfl, rfl, rfl, rfl⟩ := hT
    refine s_of3 (s_bits3 (by omega) ?_)
    unfold B_X6_bits_0 B_X6_bits_26
    exact s_isTime6 (fun _ => ⟨fun z => absurd z i10, fun _ => s_of6 (s_bits6 (by omega) ⟨rfl, hI⟩)⟩) (fun z => absurd hT0 z)
  · unfold B_X6_bits_0 B_X6_bits_26
    exact s_isTime6 (fun z => absurd z hT) (fun _ => ⟨fun _ => ⟨rfl, hI⟩, fun z => absurd rfl z⟩)
theorem sim_misses (g h : SG) (x1 x2 x3 x4 : Int32) (hI : Inv0 g h) : B_X5_misses_0 (fun r g3 => B_X6_misses_0 (fun r2 h3 => r = r2 ∧ Inv0 g3 h3) x1 x2 x3 x4 h) x1 x2 x3 x4 g := by
  have hI0 := hI
  obtain ⟨r, R, u, c, I, kp, hc, hm⟩ := hI
  unfold B_X5_misses_0
  refine s_isTime3 (fun hT => ⟨fun _ => ?_, fun z => absurd z i10⟩) (fun hT => ⟨fun z => absurd rfl z, fun _ => ?_⟩)
  · have hT0 := hT
    obtain ⟨m, s, sh, l, hm', hs, hh, hl, rfl, rfl, rfl, rfl⟩ := hT
    refine c_frames hc (fun g3 hc3 f3 _ => s_of3 (s_mf3 hc.1.2.1 f3 (by omega) ?_))
    unfold B_X6_misses_0
    refine s_isTime6 (fun _ => ⟨fun _ => m_tells hm (fun h3 hm3 t3 _ _ => s_of6 ?_), fun z => absurd z i10⟩) (fun z => absurd hT0 z)
    rw [nj_cl (by omega), t3.2.1 _ (by omega)]
    exact ⟨nj_in (by omega) (by decide), rfl, _, _, _, _, _, _, hc3, hm3⟩
  · unfold B_X6_misses_0
    exact s_isTime6 (fun z => absurd z hT) (fun _ => ⟨fun z => absurd rfl z, fun _ => ⟨rfl, hI0⟩⟩)
/-! count -/
def cntV (r : Nat → Nat) (c : Nat) (x : Int) : Int32 := if x = 0 then nI (r 0) else if x = 1 then nI (phN (r 0) (syR r)) else if x = 2 then nI (cnN (r 0) (syR r)) else if x = 3 then nI (r 1) else if x = 4 then nI (r 2) else if x = 5 then (if r 3 = 0 then 0 else 1) else if x = 6 then nI c else -1
theorem clkC_no {t : Nat} (h : t ≤ 11520) : clkC t = -1 ↔ t = 0 := by
  unfold clkC
  by_cases e : t = 0
  · rw [if_pos e]; exact ⟨fun _ => e, fun _ => rfl⟩
  · rw [if_neg e]; exact ⟨fun z => absurd z (n1 (by omega)), fun z => absurd z e⟩
theorem clkM_no {t : Nat} (h : t ≤ 11520) : clkM t = -9 ↔ t = 0 := by
  unfold clkM
  by_cases e : t = 0
  · rw [if_pos e]; exact ⟨fun _ => e, fun _ => rfl⟩
  · rw [if_neg e]; exact ⟨fun z => absurd z (n9 (by omega)), fun z => absurd z e⟩
section AC
variable {r : Nat → Nat} {R : Nat → Nat → Nat} {u c : Nat} {I : Nat → Nat → Nat} {kp : Nat → Nat}
theorem c_count {post : Int32 → SG → Prop} {g : SG} {x1 : Int32} (hI : CI g r R u c I kp) (h : ∀ g' : SG, CI g' r R u c I kp → post (cntV r c x1.toInt) g') : B_X5_count_0 post x1 g := by
  have e0 : g 20 0 = nI (r 0) := hI.1.1.1
  have e1 : g 20 1 = nI (r 1) := hI.1.1.2.1
  have e2 : g 20 2 = nI (r 2) := hI.1.1.2.2.1
  have e3 : g 20 3 = clkC (r 3) := hI.1.1.2.2.2.1
  have o3 := hI.1.2.2.2.2.1
  have e6 : g 0 3 = nI c := hI.2.1.2.2.2
  unfold B_X5_count_0 B_X5_count_100
  rw [e0, e1, e2, e3, e6, clkC_no o3]
  have p : ∀ v : Int32, cntV r c x1.toInt = v → ∀ g' : SG, CI g' r R u c I kp → post v g' := fun v e g' hc => e ▸ h g' hc
  unfold cntV at p
  refine ⟨fun d => p _ ?_ g hI, fun d => p _ ?_ g hI, fun d => c_frames hI (fun g1 h1 f1 _ => f1.1 ▸ p _ ?_ g1 h1), fun d => c_frames hI (fun g1 h1 f1 _ => f1.2.1 ▸ p _ ?_ g1 h1), fun d => p _ ?_ g hI, fun d => p _ ?_ g hI, fun d => ⟨fun e => p _ ?_ g hI, fun e => p _ ?_ g hI⟩, fun d => p _ ?_ g hI⟩
  · rw [if_neg (by omega), if_neg (by omega), if_neg (by omega), if_neg (by omega), if_neg (by omega), if_neg (by omega), if_neg (by omega)]
  · rw [d, if_pos rfl]
  · rw [d, if_neg (by decide), if_pos rfl]
  · rw [d, if_neg (by decide), if_neg (by decide), if_pos rfl]
  · rw [d, if_neg (by decide), if_neg (by decide), if_neg (by decide), if_pos rfl]
  · rw [d, if_neg (by decide), if_neg (by decide), if_neg (by decide), if_neg (by decide), if_pos rfl]
  · rw [d, if_neg (by decide), if_neg (by decide), if_neg (by decide), if_neg (by decide), if_neg (by decide), if_pos rfl, if_neg e]
  · rw [d, if_neg (by decide), if_neg (by decide), if_neg (by decide), if_neg (by decide), if_neg (by decide), if_pos rfl, if_pos e]
  · rw [d, if_neg (by decide), if_neg (by decide), if_neg (by decide), if_neg (by decide), if_neg (by decide), if_neg (by decide), if_pos rfl]
theorem m_count {post : Int32 → SG → Prop} {g : SG} {x1 : Int32} (hI : MI g r R u c I kp) (h : ∀ g' : SG, MI g' r R u c I kp → post (cntV r c x1.toInt) g') : B_X6_count_0 post x1 g := by
  unfold B_X6_count_0 B_X6_count_95
  refine m_tells hI (fun g1 h1 t1 _ _ => ?_)
  have e0 : g1 1 0 = nI (r 0) := h1.1.1.1
  have e1 : g1 1 1 = nI (r 1) := h1.1.1.2.1
  have e2 : g1 1 2 = nI (r 2) := h1.1.1.2.2.1
  have e3 : g1 1 3 = clkM (r 3) := h1.1.1.2.2.2.1
  have o3 := h1.1.2.2.2.2.1
  have e6 : g1 0 0 = nI c := h1.2.1.2.2.2
  rw [e0, e1, e2, e3, e6, clkM_no o3, t1.1.1, t1.1.2.1]
  have p : ∀ v : Int32, cntV r c x1.toInt = v → post v g1 := fun v e => e ▸ h g1 h1
  unfold cntV at p
  refine ⟨fun d => p _ ?_, fun d => p _ ?_, fun d => p _ ?_, fun d => p _ ?_, fun d => p _ ?_, fun d => p _ ?_, fun d => ⟨fun e => p _ ?_, fun e => p _ ?_⟩, fun d => p _ ?_⟩
  · rw [if_neg (by omega), if_neg (by omega), if_neg (by omega), if_neg (by omega), if_neg (by omega), if_neg (by omega), if_neg (by omega)]
  · rw [d, if_pos rfl]
  · rw [d, if_neg (by decide), if_pos rfl]
  · rw [d, if_neg (by decide), if_neg (by decide), if_pos rfl]
  · rw [d, if_neg (by decide), if_neg (by decide), if_neg (by decide), if_pos rfl]
  · rw [d, if_neg (by decide), if_neg (by decide), if_neg (by decide), if_neg (by decide), if_pos rfl]
  · rw [d, if_neg (by decide), if_neg (by decide), if_neg (by decide), if_neg (by decide), if_neg (by decide), if_pos rfl, if_neg e]
  · rw [d, if_neg (by decide), if_neg (by decide), if_neg (by decide), if_neg (by decide), if_neg (by decide), if_pos rfl, if_pos e]
  · rw [d, if_neg (by decide), if_neg (by decide), if_neg (by decide), if_neg (by decide), if_neg (by decide), if_neg (by decide), if_pos rfl]
end AC
theorem sim_count (g h : SG) (x1 : Int32) (hI : Inv0 g h) : B_X5_count_0 (fun r g3 => B_X6_count_0 (fun r2 h3 => r = r2 ∧ Inv0 g3 h3) x1 h) x1 g := by
  obtain ⟨r, R, u, c, I, kp, hc, hm⟩ := hI
  exact c_count hc (fun g3 hc3 => m_count hm (fun h3 hm3 => ⟨rfl, _, _, _, _, _, _, hc3, hm3⟩))
/-! vote -/
def votV (r : Nat → Nat) (k : Nat) : Int32 := if k < 4 then nI (partN (beN (r 0) (syR r)) k) else if k = 4 then nI (misN (r 0) (syR r) (beN (r 0) (syR r))) else if k = 5 then nI (maN (r 0) (syR r)) else if k = 6 then (if 0 < cnN (r 0) (syR r) ∧ r 1 ≤ maN (r 0) (syR r) then 1 else 0) else nI (partN (laN (r 0) (syR r)) (k - 7))
section AV
variable {r : Nat → Nat} {R : Nat → Nat → Nat} {u c : Nat} {I : Nat → Nat → Nat} {kp : Nat → Nat}
theorem c_voteA {post : Int32 → SG → Prop} {g : SG} {k : Nat} (hk : k ≤ 10) (hI : CI g r R u c I kp) (h0 : cnN (r 0) (syR r) = 0 → ∀ g' : SG, CI g' r R u c I kp → post (-9) g') (h : cnN (r 0) (syR r) ≠ 0 → ∀ g' : SG, CI g' r R u c I kp → post (votV r k) g') : B_X5_vote_0 post (nI k) g := by
  have hc6 := cnN_le (sy := syR r) hI.1.2.1
  have hle : nI k ≤ 10 := (nj_le (b := 10) (by omega) (by decide)).mpr hk
  unfold B_X5_vote_0 B_X5_vote_78 B_X5_vote_106
  refine ⟨fun z => absurd z (ge0 (by omega)), fun _ => ⟨fun _ => c_frames hI (fun g3 h3 f3 _ => ?_), fun z => absurd hle z⟩⟩
  rw [f3.2.1, nj_ti (by omega)]
  refine ⟨fun d => ?_, fun d => h0 ((nj_eq (b := 0) (by omega) (by decide)).mp d) g3 h3⟩
  have d : cnN (r 0) (syR r) ≠ 0 := fun z => d (by rw [z]; rfl)
  have p : ∀ v : Int32, votV r k = v → ∀ g' : SG, CI g' r R u c I kp → post v g' := fun v e g' hc => e ▸ h d g' hc
  unfold votV at p
  refine c_vote h3 (fun g5 h5 v5 _ _ => ⟨fun e => ⟨fun e2 => ?_, fun e2 => ?_⟩, fun e => ?_, fun e => ?_, fun e => ?_⟩)
  · have e2 : 4 ≤ k := (nj_le (a := 4) (by decide) (by omega)).mp e2
    have es : nI k - 7 = nI (k - 7) := by rw [nl 7, nj_sub (by omega)]
    rw [v5.2.2.2.2, es]
    exact s_part3 (laN_lt _ _) (by omega) (p _ (by rw [if_neg (by omega), if_neg (by omega), if_neg (by omega), if_neg (by omega)]) g5 h5)
  · have e2 : ¬ 4 ≤ k := fun z => e2 ((nj_le (a := 4) (by decide) (by omega)).mpr z)
    rw [v5.2.1]
    exact s_part3 (beN_lt _ _) (by omega) (p _ (by rw [if_pos (by omega)]) g5 h5)
  · rw [v5.2.2.1]
    exact p _ (by rw [if_neg (by omega), if_pos (by omega)]) g5 h5
  · rw [v5.2.2.2.1]
    exact p _ (by rw [if_neg (by omega), if_neg (by omega), if_pos (by omega)]) g5 h5
  · refine c_shown h5 (fun y1 y2 g6 h6 => ⟨fun z => absurd z i10, fun _ => p _ ?_ g6 h6⟩) (fun no g6 h6 => ⟨fun _ => p _ ?_ g6 h6, fun z => absurd rfl z⟩)
    · rw [if_neg (by omega), if_neg (by omega), if_neg (by omega), if_pos (by omega), if_pos ⟨y1, y2⟩]
    · rw [if_neg (by omega), if_neg (by omega), if_neg (by omega), if_pos (by omega), if_neg no]
theorem m_voteA {post : Int32 → SG → Prop} {g : SG} {k : Nat} (hk : k ≤ 10) (hI : MI g r R u c I kp) (h0 : cnN (r 0) (syR r) = 0 → ∀ g' : SG, MI g' r R u c I kp → post (-9) g') (h : cnN (r 0) (syR r) ≠ 0 → ∀ g' : SG, MI g' r R u c I kp → post (votV r k) g') : B_X6_vote_0 post (nI k) g := by
  have hn := hI.1.2.1
  have hc6 := cnN_le (sy := syR r) hn
  have hbe := beN_lt (r 0) (syR r)
  unfold B_X6_vote_0 B_X6_vote_79 B_X6_vote_107
  refine s_in_y (lo := 0) (hi := 10) (by omega) hk (by decide) ⟨fun _ => m_tells hI (fun g3 h3 t3 _ _ => ?_), fun z => absurd z i10⟩
  rw [t3.1.2.1, nj_ti (by omega)]
  refine ⟨fun d => ?_, fun d => h0 ((nj_eq (b := 0) (by omega) (by decide)).mp d) g3 h3⟩
  have d : cnN (r 0) (syR r) ≠ 0 := fun z => d (by rw [z]; rfl)
  have p : ∀ v : Int32, votV r k = v → post v g3 := fun v e => e ▸ h d g3 h3
  unfold votV at p
  refine ⟨fun e => ⟨fun e2 => ?_, fun e2 => ?_⟩, fun e => ?_, fun e => ?_, fun e => ?_⟩
  · have e2 : 4 ≤ k := (nj_le (a := 4) (by decide) (by omega)).mp e2
    have es : nI k - 7 = nI (k - 7) := by rw [nl 7, nj_sub (by omega)]
    rw [es]
    exact s_last6 hn t3 (s_part6 (laN_lt _ _) (by omega) (p _ (by rw [if_neg (by omega), if_neg (by omega), if_neg (by omega), if_neg (by omega)])))
  · have e2 : ¬ 4 ≤ k := fun z => e2 ((nj_le (a := 4) (by decide) (by omega)).mpr z)
    rw [t3.2.2.1]
    exact s_part6 hbe (by omega) (p _ (by rw [if_pos (by omega)]))
  · rw [t3.2.2.1, nj_cl (by omega), t3.2.1 _ hbe]
    exact ⟨nj_in hbe (by decide), p _ (by rw [if_neg (by omega), if_pos (by omega)])⟩
  · rw [t3.2.2.2]
    exact p _ (by rw [if_neg (by omega), if_neg (by omega), if_pos (by omega)])
  · refine s_shown6 (n := r 0) (sy := syR r) (nd := r 1) hn (by have := hI.1.2.2.1; omega) t3.1.2.1 t3.2.2.2 h3.1.1.2.1 (fun y1 y2 => ⟨fun z => absurd z i10, fun _ => p _ ?_⟩) (fun no => ⟨fun _ => p _ ?_, fun z => absurd rfl z⟩)
    · rw [if_neg (by omega), if_neg (by omega), if_neg (by omega), if_pos (by omega), if_pos ⟨y1, y2⟩]
    · rw [if_neg (by omega), if_neg (by omega), if_neg (by omega), if_pos (by omega), if_neg no]
end AV
theorem sim_vote (g h : SG) (x1 : Int32) (hI : Inv0 g h) : B_X5_vote_0 (fun r g3 => B_X6_vote_0 (fun r2 h3 => r = r2 ∧ Inv0 g3 h3) x1 h) x1 g := by
  have hI0 := hI
  obtain ⟨r, R, u, c, I, kp, hc, hm⟩ := hI
  by_cases hx : ∃ k, 0 ≤ k ∧ k ≤ 10 ∧ x1 = nI k
  · obtain ⟨k, _, hk, rfl⟩ := hx
    exact c_voteA hk hc (fun z g3 hc3 => m_voteA hk hm (fun _ h3 hm3 => ⟨rfl, _, _, _, _, _, _, hc3, hm3⟩) (fun nz => absurd z nz)) (fun nz g3 hc3 => m_voteA hk hm (fun z => absurd z nz) (fun _ h3 hm3 => ⟨rfl, _, _, _, _, _, _, hc3, hm3⟩))
  · have bad : B_X6_vote_0 (fun r2 h3 => -1 = r2 ∧ Inv0 g h3) x1 h := by
      unfold B_X6_vote_0
      exact s_in_n (lo := 0) (hi := 10) (by decide) (by decide) hx ⟨fun z => absurd rfl z, fun _ => ⟨rfl, hI0⟩⟩
    unfold B_X5_vote_0 B_X5_vote_10
    exact ⟨fun _ => bad, fun c1 => ⟨fun c2 => (out_no (lo := 0) (hi := 10) (by decide) (by decide) hx c1 (Int32.not_lt.mpr c2)).elim, fun _ => bad⟩⟩
