/-! what both machines hold: the row, the ring of rows before, the images -/
def syR (r : Nat → Nat) : Nat → Nat := fun k => r (6 + k)
def hM (h : SG) (q o : Nat) (r : Nat → Nat) : Prop := h q (o + 0) = nI (r 0) ∧ h q (o + 1) = nI (r 1) ∧ h q (o + 2) = nI (r 2) ∧ h q (o + 3) = clkM (r 3) ∧ h q (o + 4) = nI (r 4) ∧ ∀ k, k < r 0 → h q (o + (6 + k)) = nI (r (6 + k))
theorem hM_same {h h' : SG} {q o : Nat} {r : Nat → Nat} (e : h' q = h q) (hm : hM h q o r) : hM h' q o r := by
  unfold hM
  rw [e]
  exact hm
theorem hM_copy {h h' : SG} {q o q' o' : Nat} {r : Nat → Nat} (ok : okR r) (e : ∀ k, k < 126 → h' q' (o' + k) = h q (o + k)) (hm : hM h q o r) : hM h' q' o' r := by
  obtain ⟨m0, m1, m2, m3, m4, m5⟩ := hm
  refine ⟨?_, ?_, ?_, ?_, ?_, fun k hk => ?_⟩
  · rw [e 0 (by decide)]; exact m0
  · rw [e 1 (by decide)]; exact m1
  · rw [e 2 (by decide)]; exact m2
  · rw [e 3 (by decide)]; exact m3
  · rw [e 4 (by decide)]; exact m4
  · have := ok.1
    rw [e (6 + k) (by omega)]; exact m5 k hk
def CI (g : SG) (r : Nat → Nat) (R : Nat → Nat → Nat) (u c : Nat) (I : Nat → Nat → Nat) (kp : Nat → Nat) : Prop := (hC g 0 r ∧ okR r) ∧ (u < 10 ∧ c ≤ 10 ∧ g 0 2 = nI u ∧ g 0 3 = nI c) ∧ (∀ j, j < 10 → (u + 9 - j) % 10 < c → hC g (j + 1) (R j) ∧ okR (R j)) ∧ (∀ i, i < 2 → kp i < 2 ∧ g 1 i = nI (kp i) ∧ (kp i = 1 → hC g (11 + i) (I i) ∧ okR (I i))) ∧ (g 0 0 = 0 ∨ (g 0 0 = 1 ∧ fC g (r 0) (syR r))) ∧ (g 0 1 = 0 ∨ (g 0 1 = 1 ∧ vC g (r 0) (syR r)))
def MI (h : SG) (r : Nat → Nat) (R : Nat → Nat → Nat) (u c : Nat) (I : Nat → Nat → Nat) (kp : Nat → Nat) : Prop := (hM h 1 0 r ∧ okR r) ∧ (u < 10 ∧ c ≤ 10 ∧ h 0 1 = nI u ∧ h 0 0 = nI c) ∧ (∀ j, j < 10 → (u + 9 - j) % 10 < c → hM h 2 (126 * j) (R j) ∧ okR (R j)) ∧ (∀ i, i < 2 → kp i < 2 ∧ h 3 i = nI (kp i) ∧ (kp i = 1 → hM h 4 (126 * i) (I i) ∧ okR (I i))) ∧ (h 0 2 = 0 ∨ (h 0 2 = 1 ∧ tM h (r 0) (syR r)))
def rgN (R : Nat → Nat → Nat) (u : Nat) (r : Nat → Nat) : Nat → Nat → Nat := fun j => if j = u then r else R j
def cn1 (c : Nat) : Nat := if c < 10 then c + 1 else 10
theorem rgN_s (R : Nat → Nat → Nat) (u : Nat) (r : Nat → Nat) : rgN R u r u = r := if_pos rfl
theorem rgN_i {R : Nat → Nat → Nat} {u j : Nat} {r : Nat → Nat} (h : j ≠ u) : rgN R u r j = R j := if_neg h
theorem cn1_le {c : Nat} (h : c ≤ 10) : cn1 c ≤ 10 := by unfold cn1; split <;> omega
theorem cn1_v {c u j : Nat} (hj : j < 10) (hu : u < 10) (e : j ≠ u) (hv : ((u + 1) % 10 + 9 - j) % 10 < cn1 c) : (u + 9 - j) % 10 < c := by
  unfold cn1 at hv
  split at hv <;> omega
theorem vC_same {g g' : SG} {n : Nat} {sy : Nat → Nat} (h5 : ∀ q, 6 ≤ q → q < 14 → g' q = g q) (h0 : ∀ j, 6 ≤ j → j < 11 → g' 0 j = g 0 j) (h : vC g n sy) : vC g' n sy := by
  refine ⟨ptC_same (h0 10 (by decide) (by decide)) h5 h.1, ?_⟩
  rw [h0 6 (by decide) (by decide), h0 7 (by decide) (by decide), h0 8 (by decide) (by decide), h0 9 (by decide) (by decide)]
  exact h.2
section IV
variable {r : Nat → Nat} {R : Nat → Nat → Nat} {u c : Nat} {I : Nat → Nat → Nat} {kp : Nat → Nat}
theorem c_rowC {g : SG} (hI : CI g r R u c I kp) : rowC g (r 0) (syR r) :=
  ⟨hI.1.1.1, hI.1.2.1, fun k hk => ⟨hI.1.1.2.2.2.2.2 k hk, hI.1.2.2.2.2.2.2 k hk⟩⟩
theorem m_rowM {h : SG} (hI : MI h r R u c I kp) : rowM h (r 0) (syR r) :=
  ⟨hI.1.1.1, hI.1.2.1, fun k hk => ⟨by have := hI.1.1.2.2.2.2.2 k hk; rw [Nat.zero_add] at this; exact this, hI.1.2.2.2.2.2.2 k hk⟩⟩
theorem c_rem {post : SG → Prop} {g : SG} (hI : CI g r R u c I kp) (h : ∀ g' : SG, CI g' r (rgN R u r) ((u + 1) % 10) (cn1 c) I kp → g' 20 = g 20 → g' 40 = g 40 → post g') : B_X2_remember_0 post g := by
  obtain ⟨⟨hr, ok⟩, ⟨hu, hc, e2, e3⟩, hR, hK, hf, hv⟩ := hI
  refine s_rem3 hu hc e2 e3 hr ok (fun g' b1 b2 b3 b4 b5 => h g' ⟨⟨hC_same (b2 _ (by omega) (by omega) (by omega)) (b2 _ (by omega) (by omega) (by omega)) hr, ok⟩, ⟨by omega, cn1_le hc, b4, b5⟩, fun j hj hvv => ?_, fun i hi => ?_, ?_, ?_⟩ (b2 20 (by decide) (by omega) (by omega)) (b2 40 (by decide) (by omega) (by omega)))
  · by_cases e : j = u
    · subst e
      rw [rgN_s]
      exact ⟨b1, ok⟩
    · rw [rgN_i e]
      have := hR j hj (cn1_v hj hu e hvv)
      exact ⟨hC_same (b2 _ (by omega) (by omega) (by omega)) (b2 _ (by omega) (by omega) (by omega)) this.1, this.2⟩
  · have := hK i hi
    refine ⟨this.1, by rw [b2 1 (by decide) (by omega) (by omega)]; exact this.2.1, fun hk => ?_⟩
    have := this.2.2 hk
    exact ⟨hC_same (b2 _ (by omega) (by omega) (by omega)) (b2 _ (by omega) (by omega) (by omega)) this.1, this.2⟩
  · rw [b3 0 (by decide) (by decide)]
    rcases hf with hf | ⟨hf, hF⟩
    · exact Or.inl hf
    · exact Or.inr ⟨hf, fC_same (b3 4 (by decide) (by decide)) (b3 5 (by decide) (by decide)) (b2 3 (by omega) (by omega) (by omega)) (b2 4 (by omega) (by omega) (by omega)) hF⟩
  · rw [b3 1 (by decide) (by decide)]
    rcases hv with hv | ⟨hv, hV⟩
    · exact Or.inl hv
    · exact Or.inr ⟨hv, vC_same (fun q h1 h2 => b2 q (by omega) (by omega) (by omega)) (fun j h1 h2 => b3 j (by omega) (by omega)) hV⟩
theorem c_row {post : SG → Prop} {g g' : SG} {r' : Nat → Nat} (hI : CI g r R u c I kp) (ho : ∀ q, q ≠ 20 → q ≠ 40 → g' q = g q) (hr' : hC g' 0 r') (ok' : okR r') (h : ∀ g'' : SG, CI g'' r' R u c I kp → g'' 20 0 = nI (r' 0) → post g'') : B_X5_rowChanged_0 post g' := by
  obtain ⟨⟨hr, ok⟩, ⟨hu, hc, e2, e3⟩, hR, hK, hf, hv⟩ := hI
  intro g1 e1 g2 e2'
  have rg : ∀ q, q ≠ 0 → g2 q = g' q := fun q hq => by rw [e2', sput_r hq, e1, sput_r hq]
  have ro : ∀ q, q ≠ 0 → q ≠ 20 → q ≠ 40 → g2 q = g q := fun q h0 h1 h2 => by rw [rg q h0]; exact ho q h1 h2
  have r0 : ∀ j, j ≠ 0 → j ≠ 1 → g2 0 j = g 0 j := fun j h0 h1 => by rw [e2', sput_i h1, e1, sput_i h0, ho 0 (by decide) (by decide)]
  refine h g2 ⟨⟨hC_same (rg _ (by omega)) (rg _ (by omega)) hr', ok'⟩, ⟨hu, hc, by rw [r0 2 (by decide) (by decide)]; exact e2, by rw [r0 3 (by decide) (by decide)]; exact e3⟩, fun j hj hvv => ?_, fun i hi => ?_, Or.inl ?_, Or.inl ?_⟩ ?_
  · have := hR j hj hvv
    exact ⟨hC_same (ro _ (by omega) (by omega) (by omega)) (ro _ (by omega) (by omega) (by omega)) this.1, this.2⟩
  · have := hK i hi
    refine ⟨this.1, by rw [ro 1 (by decide) (by omega) (by omega)]; exact this.2.1, fun hk => ?_⟩
    have := this.2.2 hk
    exact ⟨hC_same (ro _ (by omega) (by omega) (by omega)) (ro _ (by omega) (by omega) (by omega)) this.1, this.2⟩
  · rw [e2', sput_i (by decide), e1, sput_s]
  · rw [e2', sput_s]
  · rw [rg 20 (by decide)]; exact hr'.1
theorem c_fld {g g' : SG} {r' : Nat → Nat} (hI : CI g r R u c I kp) (ho : ∀ q, q ≠ 20 → g' q = g q) (hr' : hC g' 0 r') (ok' : okR r') (hn : r' 0 = r 0) (hs : syR r' = syR r) : CI g' r' R u c I kp := by
  obtain ⟨⟨hr, ok⟩, ⟨hu, hc, e2, e3⟩, hR, hK, hf, hv⟩ := hI
  have z0 : g' 0 = g 0 := ho 0 (by decide)
  refine ⟨⟨hr', ok'⟩, ⟨hu, hc, by rw [z0]; exact e2, by rw [z0]; exact e3⟩, fun j hj hvv => ?_, fun i hi => ?_, ?_, ?_⟩
  · have := hR j hj hvv
    exact ⟨hC_same (ho _ (by omega)) (ho _ (by omega)) this.1, this.2⟩
  · have := hK i hi
    refine ⟨this.1, by rw [ho 1 (by decide)]; exact this.2.1, fun hk => ?_⟩
    have := this.2.2 hk
    exact ⟨hC_same (ho _ (by omega)) (ho _ (by omega)) this.1, this.2⟩
  · rw [hn, hs, z0]
    rcases hf with hf | ⟨hf, hF⟩
    · exact Or.inl hf
    · exact Or.inr ⟨hf, fC_same (by rw [z0]) (by rw [z0]) (ho 3 (by decide)) (ho 4 (by decide)) hF⟩
  · rw [hn, hs, z0]
    rcases hv with hv | ⟨hv, hV⟩
    · exact Or.inl hv
    · exact Or.inr ⟨hv, vC_same (fun q h1 h2 => ho q (by omega)) (fun j _ _ => by rw [z0]) hV⟩
theorem c_frames {post : SG → Prop} {g : SG} (hI : CI g r R u c I kp) (h : ∀ g' : SG, CI g' r R u c I kp → fC g' (r 0) (syR r) → g' 20 = g 20 → post g') : B_X5_fittingFrames_0 post g := by
  have hrow := c_rowC hI
  have hI0 := hI
  obtain ⟨⟨hr, ok⟩, ⟨hu, hc, e2, e3⟩, hR, hK, hf, hv⟩ := hI
  unfold B_X5_fittingFrames_0 B_X5_fittingFrames_23
  refine ⟨fun d => ?_, fun d => ?_⟩
  · rcases hf with hf | ⟨hf, hF⟩
    · exact absurd hf d
    · exact h g hI0 hF rfl
  · refine s_cut hrow (fun g2 a1 a2 a3 g3 b => ?_)
    have rg : ∀ q, q ≠ 0 → q ≠ 2 → q ≠ 3 → q ≠ 4 → g3 q = g q := fun q h0 h2 h3 h4 => by rw [b, sput_r h0]; exact a2 q h0 h2 h3 h4
    have r0 : ∀ j, j ≠ 0 → j ≠ 4 → j ≠ 5 → g3 0 j = g 0 j := fun j h0 h4 h5 => by rw [b, sput_i h0]; exact a3 j h4 h5
    have hF3 : fC g3 (r 0) (syR r) := fC_same (by rw [b, sput_i (by decide)]) (by rw [b, sput_i (by decide)]) (by rw [b, sput_r (by decide)]) (by rw [b, sput_r (by decide)]) a1
    refine h g3 ⟨⟨hC_same (rg _ (by omega) (by omega) (by omega) (by omega)) (rg _ (by omega) (by omega) (by omega) (by omega)) hr, ok⟩, ⟨hu, hc, by rw [r0 2 (by decide) (by decide) (by decide)]; exact e2, by rw [r0 3 (by decide) (by decide) (by decide)]; exact e3⟩, fun j hj hvv => ?_, fun i hi => ?_, Or.inr ⟨by rw [b, sput_s], hF3⟩, ?_⟩ hF3 (rg 20 (by decide) (by decide) (by decide) (by decide))
    · have := hR j hj hvv
      exact ⟨hC_same (rg _ (by omega) (by omega) (by omega) (by omega)) (rg _ (by omega) (by omega) (by omega) (by omega)) this.1, this.2⟩
    · have := hK i hi
      refine ⟨this.1, by rw [rg 1 (by decide) (by decide) (by decide) (by decide)]; exact this.2.1, fun hk => ?_⟩
      have := this.2.2 hk
      exact ⟨hC_same (rg _ (by omega) (by omega) (by omega) (by omega)) (rg _ (by omega) (by omega) (by omega) (by omega)) this.1, this.2⟩
    · rw [r0 1 (by decide) (by decide) (by decide)]
      rcases hv with hv | ⟨hv, hV⟩
      · exact Or.inl hv
      · exact Or.inr ⟨hv, vC_same (fun q h1 h2 => rg q (by omega) (by omega) (by omega) (by omega)) (fun j h1 h2 => r0 j (by omega) (by omega) (by omega)) hV⟩
theorem c_vote {post : SG → Prop} {g : SG} (hI : CI g r R u c I kp) (h : ∀ g' : SG, CI g' r R u c I kp → vC g' (r 0) (syR r) → (fC g (r 0) (syR r) → fC g' (r 0) (syR r)) → g' 20 = g 20 → post g') : B_X5_fittingVote_0 post g := by
  unfold B_X5_fittingVote_0 B_X5_fittingVote_23
  refine ⟨fun d => ?_, fun d => ?_⟩
  · rcases hI.2.2.2.2.2 with hv | ⟨hv, hV⟩
    · exact absurd hv d
    · exact h g hI hV id rfl
  · refine c_frames hI (fun g2 hI2 hF2 e20 => ?_)
    obtain ⟨⟨hr, ok⟩, ⟨hu, hc, e2, e3⟩, hR, hK, hf, hv⟩ := hI2
    refine s_take ok.1 hF2 (fun g3 a1 a2 a3 g4 b => ?_)
    have rg : ∀ q, (q ≠ 0 ∧ q < 6) ∨ 13 < q → g4 q = g2 q := fun q hq => by rw [b, sput_r (by omega)]; exact a2 q hq
    have r0 : ∀ j, j ≠ 1 → j < 6 → g4 0 j = g2 0 j := fun j h1 h6 => by rw [b, sput_i h1]; exact a3 j h6
    have hF4 : fC g4 (r 0) (syR r) := fC_same (r0 4 (by decide) (by decide)) (r0 5 (by decide) (by decide)) (rg 3 (by omega)) (rg 4 (by omega)) hF2
    have hV4 : vC g4 (r 0) (syR r) := vC_same (fun q h1 h2 => by rw [b, sput_r (by omega)]) (fun j h1 h2 => by rw [b, sput_i (by omega)]) a1
    refine h g4 ⟨⟨hC_same (rg _ (by omega)) (rg _ (by omega)) hr, ok⟩, ⟨hu, hc, by rw [r0 2 (by decide) (by decide)]; exact e2, by rw [r0 3 (by decide) (by decide)]; exact e3⟩, fun j hj hvv => ?_, fun i hi => ?_, ?_, Or.inr ⟨by rw [b, sput_s], hV4⟩⟩ hV4 (fun _ => hF4) (by rw [rg 20 (by omega)]; exact e20)
    · have := hR j hj hvv
      exact ⟨hC_same (rg _ (by omega)) (rg _ (by omega)) this.1, this.2⟩
    · have := hK i hi
      refine ⟨this.1, by rw [rg 1 (by omega)]; exact this.2.1, fun hk => ?_⟩
      have := this.2.2 hk
      exact ⟨hC_same (rg _ (by omega)) (rg _ (by omega)) this.1, this.2⟩
    · rw [r0 0 (by decide) (by decide)]
      rcases hf with hf | ⟨hf, hF⟩
      · exact Or.inl hf
      · exact Or.inr ⟨hf, hF4⟩
/-! the same of the reference -/
theorem m_rem {post : SG → Prop} {h : SG} (hI : MI h r R u c I kp) (hp : ∀ h' : SG, MI h' r (rgN R u r) ((u + 1) % 10) (cn1 c) I kp → h' 0 2 = 0 → h' 1 = h 1 → post h') : B_X6_remember_0 post h := by
  obtain ⟨⟨hr, ok⟩, ⟨hu, hc, e2, e3⟩, hR, hK, hT⟩ := hI
  refine s_rem6 hu hc e2 e3 ?_
  have rg : ∀ q, q ≠ 0 → q ≠ 2 → rem6 h u c q = h q := fun q h0 h2 => by
    unfold rem6
    rw [sput_r h0, sput_r h0, sput_r h0, cpR_o h2]
  have r2 : ∀ j, rem6 h u c 2 j = cpR h 2 (126 * u) 1 0 126 2 j := fun j => by
    unfold rem6
    rw [sput_r (by decide), sput_r (by decide), sput_r (by decide)]
  have t2 : rem6 h u c 0 2 = 0 := by unfold rem6; rw [sput_s]
  refine hp _ ⟨⟨hM_same (rg 1 (by decide) (by decide)) hr, ok⟩, ⟨by omega, cn1_le hc, ?_, ?_⟩, fun j hj hvv => ?_, fun i hi => ?_, Or.inl t2⟩ t2 (rg 1 (by decide) (by decide))
  · unfold rem6; rw [sput_i (by decide), sput_i (by decide), sput_s]
  · unfold rem6; rw [sput_i (by decide), sput_s]; rfl
  · by_cases e : j = u
    · subst e
      rw [rgN_s]
      refine ⟨hM_copy ok (fun k hk => ?_) hr, ok⟩
      rw [r2, cpR_i hk]
    · rw [rgN_i e]
      have := hR j hj (cn1_v hj hu e hvv)
      refine ⟨hM_copy this.2 (fun k hk => ?_) this.1, this.2⟩
      rw [r2, cpR_x (by omega)]
  · have := hK i hi
    refine ⟨this.1, by rw [rg 3 (by decide) (by decide)]; exact this.2.1, fun hk => ?_⟩
    have := this.2.2 hk
    exact ⟨hM_same (rg 4 (by decide) (by decide)) this.1, this.2⟩
theorem m_row {h h' : SG} {r' : Nat → Nat} (hI : MI h r R u c I kp) (ht : h 0 2 = 0) (ho : ∀ q, q ≠ 1 → h' q = h q) (hr' : hM h' 1 0 r') (ok' : okR r') : MI h' r' R u c I kp := by
  obtain ⟨⟨hr, ok⟩, ⟨hu, hc, e2, e3⟩, hR, hK, hT⟩ := hI
  have z0 : h' 0 = h 0 := ho 0 (by decide)
  refine ⟨⟨hr', ok'⟩, ⟨hu, hc, by rw [z0]; exact e2, by rw [z0]; exact e3⟩, fun j hj hvv => ?_, fun i hi => ?_, Or.inl (by rw [z0]; exact ht)⟩
  · have := hR j hj hvv
    exact ⟨hM_same (ho 2 (by decide)) this.1, this.2⟩
  · have := hK i hi
    refine ⟨this.1, by rw [ho 3 (by decide)]; exact this.2.1, fun hk => ?_⟩
    have := this.2.2 hk
    exact ⟨hM_same (ho 4 (by decide)) this.1, this.2⟩
theorem m_tells {post : SG → Prop} {h : SG} (hI : MI h r R u c I kp) (hp : ∀ h' : SG, MI h' r R u c I kp → tM h' (r 0) (syR r) → h' 1 = h 1 → h' 0 0 = h 0 0 → post h') : B_X6_tells_0 post h := by
  have hrow := m_rowM hI
  obtain ⟨⟨hr, ok⟩, ⟨hu, hc, e2, e3⟩, hR, hK, hT⟩ := hI
  refine s_tells hrow hT (fun h' a1 a2 a3 a4 a5 => hp h' ⟨⟨hM_same (a5 1 (by decide) (by decide) (by decide) (by decide)) hr, ok⟩, ⟨hu, hc, by rw [a4]; exact e2, by rw [a3]; exact e3⟩, fun j hj hvv => ?_, fun i hi => ?_, Or.inr ⟨a2, a1⟩⟩ a1 (a5 1 (by decide) (by decide) (by decide) (by decide)) a3)
  · have := hR j hj hvv
    exact ⟨hM_same (a5 2 (by decide) (by decide) (by decide) (by decide)) this.1, this.2⟩
  · have := hK i hi
    refine ⟨this.1, by rw [a5 3 (by decide) (by decide) (by decide) (by decide)]; exact this.2.1, fun hk => ?_⟩
    have := this.2.2 hk
    exact ⟨hM_same (a5 4 (by decide) (by decide) (by decide) (by decide)) this.1, this.2⟩
end IV
