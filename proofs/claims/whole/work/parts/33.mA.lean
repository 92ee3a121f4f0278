/-! the reference's own methods over its tables -/
def rem6 (g : SG) (u c : Nat) : SG := sput (sput (sput (cpR g 2 (126 * u) 1 0 126) 0 1 (nI ((u + 1) % 10))) 0 0 (nI (if c < 10 then c + 1 else 10))) 0 2 0
theorem rem6_loop {post : SG → Prop} {g : SG} {u c : Nat} (hu : u < 10) (hc : c ≤ 10) (e1 : g 0 1 = nI u) (e0 : g 0 0 = nI c) (h : post (rem6 g u c)) : ∀ (f i : Nat), i ≤ 126 → 126 - i < f → P_X6_remember_2 post f (nI i) (cpR g 2 (126 * u) 1 0 i) := by
  intro f
  induction f with
  | zero => intro i _ h; exact absurd h (Nat.not_lt_zero _)
  | succ f ih =>
    intro i hi hf
    show B_X6_remember_2 post (P_X6_remember_2 post f) (nI i) (cpR g 2 (126 * u) 1 0 i)
    unfold B_X6_remember_2
    have q1 : cpR g 2 (126 * u) 1 0 i 0 1 = nI u := by rw [cpR_o (by decide)]; exact e1
    have q0 : cpR g 2 (126 * u) 1 0 i 0 0 = nI c := by rw [cpR_o (by decide)]; exact e0
    refine ⟨fun c1 => ?_, fun c1 => ?_⟩
    · have c1 : 126 ≤ i := (nj_le (a := 126) (by decide) (by omega)).mp c1
      have : i = 126 := by omega
      subst this
      intro g2 eg2
      rw [q1, nl 1, nl 10, nI_add, nj_rem (by omega) (by decide) (by decide)] at eg2
      have q2 : g2 0 0 = nI c := by rw [eg2, sput_i (by decide)]; exact q0
      rw [q2]
      unfold rem6 at h
      rw [← eg2] at h
      refine ⟨fun d => ?_, fun d => ?_⟩
      · have d : 10 ≤ c := (nj_le (a := 10) (by decide) (by omega)).mp d
        unfold B_X6_remember_66
        intro g1 e1 g3 e3
        rw [nl 0, nI_add] at e1
        rw [if_neg (by omega)] at h
        rw [e3, e1, show c + 0 = 10 by omega]
        exact h
      · have d : ¬ 10 ≤ c := fun z => d ((nj_le (a := 10) (by decide) (by omega)).mpr z)
        unfold B_X6_remember_66
        intro g1 e1 g3 e3
        rw [nl 1, nI_add] at e1
        rw [if_pos (by omega)] at h
        rw [e3, e1]
        exact h
    · have c1 : ¬ 126 ≤ i := fun z => c1 ((nj_le (a := 126) (by decide) (by omega)).mpr z)
      have hx : 126 * nI u + nI i = nI (126 * u + i) := by rw [nl 126, pk_mul, nI_add]
      rw [q1, hx, nj_cl (by omega), nj_cl (by omega)]
      refine ⟨nj_in (by omega) (by decide), nj_in (by omega) (by decide), ?_⟩
      intro g4 eg4 z5 ez5
      have ez5 : z5 = nI (i + 1) := by rw [ez5, nl 1, nI_add]
      have eg4 : g4 = cpR g 2 (126 * u) 1 0 (i + 1) := by
        rw [eg4, cpR_o (r := 1) (by decide)]
        have := cpR_succ g 2 (126 * u) 1 0 i
        rw [Nat.zero_add] at this
        exact this
      subst ez5 eg4
      exact ih (i + 1) (by omega) (by omega)
theorem s_rem6 {post : SG → Prop} {g : SG} {u c : Nat} (hu : u < 10) (hc : c ≤ 10) (e1 : g 0 1 = nI u) (e0 : g 0 0 = nI c) (h : post (rem6 g u c)) : B_X6_remember_0 post g := by
  refine ⟨127, ?_⟩
  have := rem6_loop hu hc e1 e0 h 127 0 (by decide) (by decide)
  rw [cpR_0] at this
  exact this
theorem s_symAt {post : Int32 → Prop} {g : SG} {k : Nat} (hk : k < 120) (h : post (g 1 (6 + k))) : B_X6_symbolAt_0 post (nI k) g := by
  unfold B_X6_symbolAt_0
  have e : 6 + nI k = nI (6 + k) := by rw [nl 6, nI_add]
  rw [e, nj_cl (by omega)]
  exact ⟨nj_in (by omega) (by decide), h⟩
theorem sput2 (g : SG) (a i : Nat) (v w : Int32) : sput (sput g a i v) a i w = sput g a i w := by
  funext r j
  rw [sput_if, sput_if, sput_if]
  by_cases h : r = a ∧ j = i
  · rw [if_pos h, if_pos h]
  · rw [if_neg h, if_neg h, if_neg h]
/-- the reference's row holds n symbols sy -/
def rowM (g : SG) (n : Nat) (sy : Nat → Nat) : Prop := g 1 0 = nI n ∧ n ≤ 120 ∧ ∀ k, k < n → g 1 (6 + k) = nI (sy k) ∧ sy k < 4
theorem gap_skip (sy : Nat → Nat) (p a : Nat) : ∀ d, (∀ j, a ≤ j → j < a + d → j % 20 ≠ p) → gapN sy p (a + d) = gapN sy p a
  | 0, _ => rfl
  | d + 1, h => by
    show gapN sy p (a + d) + (if (a + d) % 20 = p ∧ sy (a + d) = 3 then 1 else 0) = _
    rw [if_neg (fun z => h (a + d) (by omega) (by omega) z.1), gap_skip sy p a d (fun j h1 h2 => h j h1 (by omega))]
    omega
theorem gap_step (sy : Nat → Nat) {p k : Nat} (hk : k % 20 = p) : gapN sy p (k + 20) = gapN sy p k + (if sy k = 3 then 1 else 0) := by
  have h1 : gapN sy p (k + 1 + 19) = gapN sy p (k + 1) := gap_skip sy p (k + 1) 19 (fun j h1 h2 => by omega)
  rw [show k + 20 = k + 1 + 19 by omega, h1]
  show gapN sy p k + (if k % 20 = p ∧ sy k = 3 then 1 else 0) = _
  by_cases h : sy k = 3
  · rw [if_pos ⟨hk, h⟩, if_pos h]
  · rw [if_neg (fun z => h z.2), if_neg h]
theorem gap_end (sy : Nat → Nat) {p n k : Nat} (hk : k % 20 = p) (hn : n ≤ k) (h2 : k < n + 20) : gapN sy p k = gapN sy p n := by
  have := gap_skip sy p n (k - n) (fun j h1 h2 => by omega)
  rw [show n + (k - n) = k by omega] at this
  exact this
theorem lay15 {post : SG → Prop} {k4 : Int32 → Int32 → SG → Prop} {g : SG} {n : Nat} {sy : Nat → Nat} (hr : rowM g n sy) {p : Nat} (hp : p < 20) {x1 : Int32} (h : ((nI (gapN sy p n) ≤ x1) → B_X6_layPhase_64 post k4 x1 (nI p) (nI (gapN sy p n)) (nI 0) (g 0 3) g) ∧ ((¬ nI (gapN sy p n) ≤ x1) → B_X6_layPhase_64 post k4 x1 (nI p) (nI (gapN sy p n)) (nI 0) (nI p) g)) : ∀ (f k : Nat), k % 20 = p → k < n + 20 → n + 20 - k < f → P_X6_layPhase_15 post k4 f x1 (nI p) (nI (gapN sy p k)) (nI k) g := by
  intro f
  induction f with
  | zero => intro k _ _ h; exact absurd h (Nat.not_lt_zero _)
  | succ f ih =>
    intro k hk hkn hf
    have hn := hr.2.1
    have hgl := gapN_le sy p k
    show B_X6_layPhase_15 post k4 (P_X6_layPhase_15 post k4 f) x1 (nI p) (nI (gapN sy p k)) (nI k) g
    unfold B_X6_layPhase_15
    rw [hr.1]
    refine ⟨fun c => ?_, fun c => ?_⟩
    · have c : n ≤ k := (nj_le (by omega) (by omega)).mp c
      rw [gap_end sy hk c hkn]
      unfold B_X6_layPhase_64 B_X6_layPhase_77 at h ⊢
      exact h
    · have c : ¬ n ≤ k := fun z => c ((nj_le (by omega) (by omega)).mpr z)
      refine s_symAt (by omega) ?_
      obtain ⟨es, hs⟩ := hr.2.2 k (by omega)
      rw [es]
      have hst := gap_step sy hk
      refine ⟨fun d => ?_, fun d => ?_⟩
      · have d : ¬ sy k = 3 := fun z => d (by rw [z]; rfl)
        rw [if_neg d] at hst
        unfold B_X6_layPhase_42
        intro z1 e1 z2 e2
        have e1 : z1 = nI (gapN sy p (k + 20)) := by rw [e1, nl 0, nI_add, hst]
        have e2 : z2 = nI (k + 20) := by rw [e2, nl 20, nI_add]
        subst e1 e2
        exact ih (k + 20) (by omega) (by omega) (by omega)
      · have d : sy k = 3 := (nj_eq (a := sy k) (b := 3) (by omega) (by decide)).mp d
        rw [if_pos d] at hst
        unfold B_X6_layPhase_42
        intro z1 e1 z2 e2
        have e1 : z1 = nI (gapN sy p (k + 20)) := by rw [e1, nl 1, nI_add, hst]
        have e2 : z2 = nI (k + 20) := by rw [e2, nl 20, nI_add]
        subst e1 e2
        exact ih (k + 20) (by omega) (by omega) (by omega)
theorem phA_no {G : Nat → Nat} {i : Nat} (h : ¬ G (phA G i) < G (i + 1)) : phA G (i + 1) = phA G i := if_neg h
theorem phA_yes {G : Nat → Nat} {i : Nat} (h : G (phA G i) < G (i + 1)) : phA G (i + 1) = i + 1 := if_pos h
/-- what layPhase knows at p -/
def layI (G : Nat → Nat) (p : Nat) (x1 : Int32) (v : Int32) : Prop := (p = 0 ∧ x1 = -1) ∨ ∃ q, p = q + 1 ∧ x1 = nI (G (phA G q)) ∧ v = nI (phA G q)
theorem lay4 {post : SG → Prop} {g : SG} {n : Nat} {sy : Nat → Nat} (hr : rowM g n sy) (h : post (sput g 0 3 (nI (phN n sy)))) : ∀ (f p : Nat) (x1 v : Int32), p ≤ 20 → 20 - p < f → layI (fun p => gapN sy p n) p x1 v → P_X6_layPhase_4 post f x1 (nI p) (sput g 0 3 v) := by
  intro f
  induction f with
  | zero => intro p _ _ _ h; exact absurd h (Nat.not_lt_zero _)
  | succ f ih =>
    intro p x1 v hp hf hI
    have hn := hr.2.1
    have hr' : rowM (sput g 0 3 v) n sy := by
      unfold rowM
      rw [sput_r (by decide)]
      exact hr
    show B_X6_layPhase_4 post (P_X6_layPhase_4 post f) x1 (nI p) (sput g 0 3 v)
    unfold B_X6_layPhase_4
    refine ⟨fun c => ?_, fun c => ?_⟩
    · have c : 20 ≤ p := (nj_le (a := 20) (by decide) (by omega)).mp c
      rcases hI with hI | ⟨q, hq, _, hv⟩
      · omega
      · have : q = 19 := by omega
        subst this
        rw [hv]
        exact h
    · have c : ¬ 20 ≤ p := fun z => c ((nj_le (a := 20) (by decide) (by omega)).mpr z)
      have g0 : gapN sy p p = 0 := by
        have := gap_skip sy p 0 p (fun j h1 h2 => by omega)
        rw [Nat.zero_add] at this
        exact this
      refine ⟨n + 21, ?_⟩
      have key := lay15 (post := post) (k4 := P_X6_layPhase_4 post f) hr' (p := p) (by omega) (x1 := x1) ?_ (n + 21) p (Nat.mod_eq_of_lt (by omega)) (by omega) (by omega)
      · rw [g0] at key
        exact key
      · have gl := gapN_le sy p n
        have sv : sput g 0 3 v 0 3 = v := sput_s g 0 3 v
        rw [sv]
        unfold B_X6_layPhase_64 B_X6_layPhase_77
        have z1e : ∀ z1 : Int32, z1 = nI p + 1 → z1 = nI (p + 1) := fun z1 e => by rw [e, nl 1, nI_add]
        refine ⟨fun d g1 eg1 => ⟨fun _ z1 ez1 => ?_, fun d2 => absurd d d2⟩, fun d g1 eg1 => ⟨fun d2 => absurd d2 d, fun _ z1 ez1 => ?_⟩⟩
        · rw [z1e z1 ez1, eg1, sput2]
          refine ih (p + 1) x1 v (by omega) (by omega) ?_
          rcases hI with ⟨h0, hx⟩ | ⟨q, hq, hx, hv⟩
          · subst hx
            exact absurd d (by
              intro z
              have := Int32.le_iff_toInt_le.mp z
              rw [nj_ti (by omega)] at this
              have e9 : (-1 : Int32).toInt = -1 := by decide
              omega)
          · have hx : x1 = nI (gapN sy (phA (fun p => gapN sy p n) q) n) := hx
            rw [hx] at d
            have gq := gapN_le sy (phA (fun p => gapN sy p n) q) n
            have d := (nj_le (by omega) (by omega)).mp d
            have hno : phA (fun p => gapN sy p n) (q + 1) = phA (fun p => gapN sy p n) q := phA_no (by rw [← hq]; exact Nat.not_lt.mpr d)
            refine Or.inr ⟨p, rfl, ?_, ?_⟩
            · rw [hx, hq, hno]
            · rw [hv, hq, hno]
        · rw [z1e z1 ez1, eg1, sput2]
          refine ih (p + 1) _ (nI p) (by omega) (by omega) ?_
          refine Or.inr ⟨p, rfl, ?_⟩
          have hph : phA (fun p => gapN sy p n) p = p := by
            rcases hI with ⟨h0, hx⟩ | ⟨q, hq, hx, hv⟩
            · subst h0; rfl
            · have hx : x1 = nI (gapN sy (phA (fun p => gapN sy p n) q) n) := hx
              rw [hx] at d
              have gq := gapN_le sy (phA (fun p => gapN sy p n) q) n
              have d : ¬ gapN sy p n ≤ gapN sy (phA (fun p => gapN sy p n) q) n := fun z => d ((nj_le (by omega) (by omega)).mpr z)
              rw [hq]
              exact phA_yes (by rw [← hq]; exact Nat.lt_of_not_le d)
          rw [hph]
          exact ⟨rfl, rfl⟩
theorem s_layPhase {post : SG → Prop} {g : SG} {n : Nat} {sy : Nat → Nat} (hr : rowM g n sy) (h : post (sput g 0 3 (nI (phN n sy)))) : B_X6_layPhase_0 post g := by
  refine ⟨21, ?_⟩
  have := lay4 hr h 21 0 (-1) (g 0 3) (by decide) (by decide) (Or.inl ⟨rfl, rfl⟩)
  have e : sput g 0 3 (g 0 3) = g := by
    funext r j
    rw [sput_if]
    by_cases h : r = 0 ∧ j = 3
    · rw [if_pos h, h.1, h.2]
    · rw [if_neg h]
  rw [e] at this
  exact this
