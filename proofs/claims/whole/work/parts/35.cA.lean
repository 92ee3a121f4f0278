/-! the class: held rows, the ring, frames -/
def clkC (c : Nat) : Int32 := if c = 0 then -1 else nI (c - 1)
def clkM (c : Nat) : Int32 := if c = 0 then -9 else nI (c - 1)
/-- a row as the document has it: 0 how many symbols, 1 need, 2 drift, 3 the clock (0: none, else its time and one), 4 age, from 6 on the symbols -/
def okR (r : Nat → Nat) : Prop := r 0 ≤ 120 ∧ (1 ≤ r 1 ∧ r 1 ≤ 9) ∧ r 2 ≤ 50 ∧ r 3 ≤ 11520 ∧ r 4 ≤ 9999 ∧ ∀ k, k < r 0 → r (6 + k) < 4
def hC (g : SG) (h : Nat) (r : Nat → Nat) : Prop := g (20 + h) 0 = nI (r 0) ∧ g (20 + h) 1 = nI (r 1) ∧ g (20 + h) 2 = nI (r 2) ∧ g (20 + h) 3 = clkC (r 3) ∧ g (20 + h) 4 = nI (r 4) ∧ ∀ k, k < r 0 → g (40 + h) k = nI (r (6 + k))
theorem hC_same {g g' : SG} {h : Nat} {r : Nat → Nat} (h1 : g' (20 + h) = g (20 + h)) (h2 : g' (40 + h) = g (40 + h)) (hc : hC g h r) : hC g' h r := by
  unfold hC
  rw [h1, h2]
  exact hc
theorem byte4 : ∀ s, s < 4 → vp_nar .byte (nI s) = nI s ∧ (nI s).toInt8.toInt32 = nI s := by decide +kernel
def cpC (g : SG) (ja jb n : Nat) : SG := sput (sput (sput (sput (sput (cpR g (40 + ja) 0 (40 + jb) 0 n) (20 + ja) 0 (g (20 + jb) 0)) (20 + ja) 1 (g (20 + jb) 1)) (20 + ja) 2 (g (20 + jb) 2)) (20 + ja) 3 (g (20 + jb) 3)) (20 + ja) 4 (g (20 + jb) 4)
theorem copy_loop {post : SG → Prop} {g : SG} {ja jb : Nat} (ha : ja < 13) (hb : jb < 13) (hne : ja ≠ jb) {r : Nat → Nat} (hr : hC g jb r) (ok : okR r) (h : post (cpC g ja jb (r 0))) : ∀ (f i : Nat), i ≤ r 0 → r 0 - i < f → P_X1_copyFrom_2 ja jb post f (nI i) (cpR g (40 + ja) 0 (40 + jb) 0 i) := by
  have hn := ok.1
  intro f
  induction f with
  | zero => intro i _ h; exact absurd h (Nat.not_lt_zero _)
  | succ f ih =>
    intro i hi hf
    show B_X1_copyFrom_2 ja jb post (P_X1_copyFrom_2 ja jb post f) (nI i) (cpR g (40 + ja) 0 (40 + jb) 0 i)
    unfold B_X1_copyFrom_2
    have qb : cpR g (40 + ja) 0 (40 + jb) 0 i (20 + jb) = g (20 + jb) := cpR_o (by omega)
    have qs : cpR g (40 + ja) 0 (40 + jb) 0 i (40 + jb) = g (40 + jb) := cpR_o (by omega)
    rw [qb, qs, hr.1]
    refine ⟨fun c => ?_, fun c => ?_⟩
    · have c : r 0 ≤ i := (nj_le (by omega) (by omega)).mp c
      have hi0 : i = r 0 := by omega
      subst hi0
      intro g2 e2 g3 e3 g4 e4 g5 e5 g6 e6
      have n2 : 20 + jb ≠ 20 + ja := by omega
      rw [e2, sput_r n2, qb] at e3
      rw [e3, sput_r n2, sput_r n2, qb] at e4
      rw [e4, sput_r n2, sput_r n2, sput_r n2, qb] at e5
      rw [e5, sput_r n2, sput_r n2, sput_r n2, sput_r n2, qb] at e6
      rw [e6, ← hr.1]
      exact h
    · have c : ¬ r 0 ≤ i := fun z => c ((nj_le (by omega) (by omega)).mpr z)
      have hs := ok.2.2.2.2.2 i (by omega)
      rw [nj_cl (by omega), hr.2.2.2.2.2 i (by omega), (byte4 _ hs).1]
      refine ⟨nj_in (by omega) (by decide), nj_in (by omega) (by decide), fun g7 e7 z8 e8 => ?_⟩
      have e8 : z8 = nI (i + 1) := by rw [e8, nl 1, nI_add]
      have e7 : g7 = cpR g (40 + ja) 0 (40 + jb) 0 (i + 1) := by
        rw [e7]
        have := cpR_succ g (40 + ja) 0 (40 + jb) 0 i
        rw [Nat.zero_add, hr.2.2.2.2.2 i (by omega)] at this
        exact this
      subst e8 e7
      exact ih (i + 1) (by omega) (by omega)
theorem s_copy {post : SG → Prop} {g : SG} {ja jb : Nat} (ha : ja < 13) (hb : jb < 13) (hne : ja ≠ jb) {r : Nat → Nat} (hr : hC g jb r) (ok : okR r) (h : ∀ g' : SG, hC g' ja r → (∀ q, q ≠ 20 + ja → q ≠ 40 + ja → g' q = g q) → post g') : B_X1_copyFrom_0 ja jb post g := by
  refine ⟨r 0 + 1, ?_⟩
  have key := copy_loop ha hb hne hr ok (post := post) ?_ (r 0 + 1) 0 (Nat.zero_le _) (by omega)
  · rw [cpR_0] at key
    exact key
  · refine h _ ?_ (fun q h1 h2 => ?_)
    · obtain ⟨r0, r1, r2, r3, r4, r5⟩ := hr
      have n40 : 40 + ja ≠ 20 + ja := by omega
      unfold hC cpC
      refine ⟨?_, ?_, ?_, ?_, ?_, fun k hk => ?_⟩
      · rw [sput_i (by decide), sput_i (by decide), sput_i (by decide), sput_i (by decide), sput_s]; exact r0
      · rw [sput_i (by decide), sput_i (by decide), sput_i (by decide), sput_s]; exact r1
      · rw [sput_i (by decide), sput_i (by decide), sput_s]; exact r2
      · rw [sput_i (by decide), sput_s]; exact r3
      · rw [sput_s]; exact r4
      · rw [sput_r n40, sput_r n40, sput_r n40, sput_r n40, sput_r n40]
        have := cpR_i (g := g) (rd := 40 + ja) (od := 0) (rs := 40 + jb) (os := 0) hk
        rw [Nat.zero_add] at this
        rw [this]
        exact r5 k hk
    · unfold cpC
      rw [sput_r h1, sput_r h1, sput_r h1, sput_r h1, sput_r h1, cpR_o h2]
theorem s_rem3 {post : SG → Prop} {g : SG} {u c : Nat} (hu : u < 10) (hc : c ≤ 10) (e2 : g 0 2 = nI u) (e3 : g 0 3 = nI c) {r : Nat → Nat} (hr : hC g 0 r) (ok : okR r) (h : ∀ g' : SG, hC g' (u + 1) r → (∀ q, q ≠ 0 → q ≠ 21 + u → q ≠ 41 + u → g' q = g q) → (∀ j, j ≠ 2 → j ≠ 3 → g' 0 j = g 0 j) → g' 0 2 = nI ((u + 1) % 10) → g' 0 3 = nI (if c < 10 then c + 1 else 10) → post g') : B_X2_remember_0 post g := by
  unfold B_X2_remember_0
  rw [e2, nj_cl (by omega)]
  refine ⟨nj_in (by omega) (by decide), s_copy (by omega) (by decide) (by omega) hr ok (fun g2 hg2 ho => ?_)⟩
  have z0 : g2 0 = g 0 := ho 0 (by omega) (by omega)
  intro g3 eg3
  rw [z0, e2, nl 1, nl 10, nI_add, nj_rem (by omega) (by decide) (by decide)] at eg3
  have z3 : g3 0 3 = nI c := by rw [eg3, sput_i (by decide), z0]; exact e3
  rw [z3, nl 1, nl 10, nI_add]
  refine s_min (by omega) (by decide) ?_
  intro g5 eg5
  have rg : ∀ q, q ≠ 0 → g5 q = g2 q := fun q hq => by rw [eg5, sput_r hq, eg3, sput_r hq]
  refine h g5 ?_ (fun q h0 h1 h2 => ?_) (fun j h2 h3 => ?_) ?_ ?_
  · exact hC_same (rg _ (by omega)) (rg _ (by omega)) hg2
  · rw [rg q h0]; exact ho q (by omega) (by omega)
  · rw [eg5, sput_i h3, eg3, sput_i h2, z0]
  · rw [eg5, sput_i (by decide), eg3, sput_s]
  · rw [eg5, sput_s]
    congr 1
    by_cases hlt : c < 10
    · rw [if_neg (by omega), if_pos hlt]
    · rw [if_pos (by omega), if_neg hlt]
theorem s_recall {post : SG → Prop} {g : SG} {u c : Nat} (hu : u < 10) (hc : c < 10) (e2 : g 0 2 = nI u) (e3 : g 0 3 = nI (c + 1)) {r : Nat → Nat} (hr : hC g ((u + 9) % 10 + 1) r) (ok : okR r) (h : ∀ g' : SG, hC g' 0 r → (∀ q, q ≠ 0 → q ≠ 20 → q ≠ 40 → g' q = g q) → (∀ j, j ≠ 2 → j ≠ 3 → g' 0 j = g 0 j) → g' 0 2 = nI ((u + 9) % 10) → g' 0 3 = nI c → post g') : B_X2_recall_0 post g := by
  unfold B_X2_recall_0
  rw [e3]
  refine ⟨fun _ => ?_, fun z => absurd ((nj_eq (b := 0) (by omega) (by decide)).mp z) (by omega)⟩
  intro g2 eg2 g3 eg3
  rw [e2, nl 10, nl 1, nI_add, nj_sub (by omega), nj_rem (by omega) (by decide) (by decide), show u + 10 - 1 = u + 9 by omega] at eg2
  have z3 : g2 0 3 = nI (c + 1) := by rw [eg2, sput_i (by decide)]; exact e3
  rw [z3, nI_pred] at eg3
  have z2 : g3 0 2 = nI ((u + 9) % 10) := by rw [eg3, sput_i (by decide), eg2, sput_s]
  have rg : ∀ q, q ≠ 0 → g3 q = g q := fun q hq => by rw [eg3, sput_r hq, eg2, sput_r hq]
  rw [z2, nj_cl (by omega)]
  refine ⟨nj_in (by omega) (by decide), s_copy (by decide) (by omega) (by omega) (hC_same (rg _ (by omega)) (rg _ (by omega)) hr) ok (fun g5 hg5 ho => ?_)⟩
  have z0 : g5 0 = g3 0 := ho 0 (by omega) (by omega)
  refine h g5 hg5 (fun q h0 h1 h2 => ?_) (fun j h2 h3 => ?_) ?_ ?_
  · rw [ho q h1 h2, rg q h0]
  · rw [z0, eg3, sput_i h3, eg2, sput_i h2]
  · rw [z0]; exact z2
  · rw [z0, eg3, sput_s]
/-! symbols at the end, symbols lost -/
theorem s_app3 {post : SG → Prop} {g : SG} {n s : Nat} (hn : n < 120) (hs : s < 4) (e : g 20 0 = nI n) (h : post (sput (sput g 40 n (nI s)) 20 0 (nI (n + 1)))) : B_X1_append_0 post (nI s) g := by
  unfold B_X1_append_0 B_X1_append_30
  rw [e, nj_cl (by omega), (byte4 s hs).2, (byte4 s hs).1]
  refine ⟨fun c => absurd ((nj_le (a := 120) (by decide) (by omega)).mp c) (by omega), fun _ => ⟨nj_in hn (by decide), fun g2 e2 g3 e3 => ?_⟩⟩
  have z : g2 20 0 = nI n := by rw [e2, sput_r (by decide)]; exact e
  rw [z, nl 1, nI_add, e2] at e3
  rw [e3]
  exact h
theorem s_comes6 {post : SG → Prop} {g : SG} {n s : Nat} (hn : n < 120) (e : g 1 0 = nI n) (h : post (sput (sput g 1 (6 + n) (nI s)) 1 0 (nI (n + 1)))) : B_X6_comes_0 post (nI s) g := by
  unfold B_X6_comes_0
  have ex : 6 + nI n = nI (6 + n) := by rw [nl 6, nI_add]
  rw [e, ex, nj_cl (by omega)]
  refine ⟨nj_in (by omega) (by decide), fun g1 e1 g2 e2 => ?_⟩
  have z : g1 1 0 = nI n := by rw [e1, sput_i (by omega)]; exact e
  rw [z, nl 1, nI_add, e1] at e2
  rw [e2]
  exact h
theorem drop_loop {post : SG → Prop} {g : SG} {n k : Nat} {sy : Nat → Nat} (hn : n ≤ 120) (hk : 1 ≤ k) (hkn : k ≤ n) (e : g 20 0 = nI n) (hs : ∀ j, j < n → g 40 j = nI (sy j) ∧ sy j < 4) (h : post (sput (shR g 40 0 k (n - k)) 20 0 (nI (n - k)))) : ∀ (f i : Nat), i ≤ n - k → n - k - i < f → P_X1_dropFirst_15 post f (nI k) (nI (k + i)) (shR g 40 0 k i) := by
  intro f
  induction f with
  | zero => intro i _ h; exact absurd h (Nat.not_lt_zero _)
  | succ f ih =>
    intro i hi hf
    show B_X1_dropFirst_15 post (P_X1_dropFirst_15 post f) (nI k) (nI (k + i)) (shR g 40 0 k i)
    unfold B_X1_dropFirst_15
    have q : shR g 40 0 k i 20 0 = nI n := by rw [shR_o (by decide)]; exact e
    rw [q]
    refine ⟨fun c => ?_, fun c => ?_⟩
    · have c : n ≤ k + i := (nj_le (by omega) (by omega)).mp c
      have hi0 : i = n - k := by omega
      subst hi0
      intro g2 e2
      rw [nj_sub hkn] at e2
      rw [e2]
      exact h
    · have c : ¬ n ≤ k + i := fun z => c ((nj_le (by omega) (by omega)).mpr z)
      have qx : shR g 40 0 k i 40 (k + i) = nI (sy (k + i)) := by rw [shR_x (by omega)]; exact (hs _ (by omega)).1
      rw [nj_cl (by omega), nj_sub (by omega), show k + i - k = i by omega, nj_cl (by omega), qx, (byte4 _ (hs _ (by omega)).2).1]
      refine ⟨nj_in (by omega) (by decide), nj_in (by omega) (by decide), fun g3 e3 z4 e4 => ?_⟩
      have e4 : z4 = nI (k + (i + 1)) := by rw [e4, nl 1, nI_add]; rfl
      have e3 : g3 = shR g 40 0 k (i + 1) := by
        rw [e3]
        have := shR_succ g 40 0 k i
        rw [Nat.zero_add, show i + k = k + i by omega, (hs (k + i) (by omega)).1] at this
        exact this
      subst e4 e3
      exact ih (i + 1) (by omega) (by omega)
theorem s_drop3 {post : SG → Prop} {g : SG} {n k : Nat} {sy : Nat → Nat} (hn : n ≤ 120) (hk : 1 ≤ k) (hkn : k ≤ n) (e : g 20 0 = nI n) (hs : ∀ j, j < n → g 40 j = nI (sy j) ∧ sy j < 4) (h : post (sput (shR g 40 0 k (n - k)) 20 0 (nI (n - k)))) : B_X1_dropFirst_0 post (nI k) g := by
  unfold B_X1_dropFirst_0
  rw [e]
  refine ⟨fun c => absurd c (nI_pos (by omega)), fun _ => ⟨fun _ => ⟨n + 1, ?_⟩, fun c => absurd ((nj_le (by omega) (by omega)).mpr hkn) c⟩⟩
  have := drop_loop hn hk hkn e hs h (n + 1) 0 (Nat.zero_le _) (by omega)
  rw [shR_0] at this
  exact this
/-! where minutes begin -/
def rowC (g : SG) (n : Nat) (sy : Nat → Nat) : Prop := g 20 0 = nI n ∧ n ≤ 120 ∧ ∀ k, k < n → g 40 k = nI (sy k) ∧ sy k < 4
theorem fp67 {post : SG → Prop} {g : SG} {G : Nat → Nat} (hG : ∀ p, p < 20 → g 2 p = nI (G p) ∧ G p ≤ 120) (h : post (sput g 0 4 (nI (phA G 19)))) : ∀ (f i : Nat), 1 ≤ i → i ≤ 20 → 20 - i < f → P_X0_findPhase_67 post f (nI i) (sput g 0 4 (nI (phA G (i - 1)))) := by
  intro f
  induction f with
  | zero => intro i _ _ h; exact absurd h (Nat.not_lt_zero _)
  | succ f ih =>
    intro i h1 hi hf
    obtain ⟨q, rfl⟩ : ∃ q, i = q + 1 := ⟨i - 1, by omega⟩
    show B_X0_findPhase_67 post (P_X0_findPhase_67 post f) (nI (q + 1)) (sput g 0 4 (nI (phA G q)))
    unfold B_X0_findPhase_67 B_X0_findPhase_96
    have hl := phA_le G q
    have s4 : sput g 0 4 (nI (phA G q)) 0 4 = nI (phA G q) := sput_s _ _ _ _
    have s2 : sput g 0 4 (nI (phA G q)) 2 = g 2 := sput_r (by decide)
    have z1e : ∀ z : Int32, z = nI (q + 1) + 1 → z = nI (q + 1 + 1) := fun z e => by rw [e, nl 1, nI_add]
    refine ⟨fun c => ?_, fun c => ?_⟩
    · have c : 20 ≤ q + 1 := (nj_le (a := 20) (by decide) (by omega)).mp c
      have : q = 19 := by omega
      subst this
      exact h
    · have c : ¬ 20 ≤ q + 1 := fun z => c ((nj_le (a := 20) (by decide) (by omega)).mpr z)
      obtain ⟨a1, a2⟩ := hG (q + 1) (by omega)
      obtain ⟨b1, b2⟩ := hG (phA G q) (by omega)
      rw [s4, s2, nj_cl (by omega), nj_cl (by omega), a1, b1]
      refine ⟨nj_in (by omega) (by decide), nj_in (by omega) (by decide), fun d z1 e1 => ?_, fun d g3 e3 z1 e1 => ?_⟩
      · have d : G (q + 1) ≤ G (phA G q) := (nj_le (by omega) (by omega)).mp d
        rw [z1e z1 e1]
        have := ih (q + 1 + 1) (by omega) (by omega) (by omega)
        rw [show q + 1 + 1 - 1 = q + 1 by omega, phA_no (Nat.not_lt.mpr d)] at this
        exact this
      · have d : ¬ G (q + 1) ≤ G (phA G q) := fun z => d ((nj_le (by omega) (by omega)).mpr z)
        rw [z1e z1 e1, e3, sput2]
        have := ih (q + 1 + 1) (by omega) (by omega) (by omega)
        rw [show q + 1 + 1 - 1 = q + 1 by omega, phA_yes (Nat.lt_of_not_le d)] at this
        exact this
theorem fp23 {post : SG → Prop} {g : SG} {n : Nat} {sy : Nat → Nat} (hr : rowC g n sy) (h : ∀ g' : SG, (∀ q, q ≠ 0 → q ≠ 2 → g' q = g q) → (∀ j, j ≠ 4 → g' 0 j = g 0 j) → g' 0 4 = nI (phN n sy) → post g') : ∀ (f k : Nat) (g' : SG), k ≤ n → n - k < f → (∀ q, q ≠ 2 → g' q = g q) → (∀ p, p < 20 → g' 2 p = nI (gapN sy p k)) → P_X0_findPhase_23 post f (nI k) g' := by
  have hn := hr.2.1
  intro f
  induction f with
  | zero => intro k g' _ h; exact absurd h (Nat.not_lt_zero _)
  | succ f ih =>
    intro k g' hk hf ho hG
    show B_X0_findPhase_23 post (P_X0_findPhase_23 post f) (nI k) g'
    unfold B_X0_findPhase_23 B_X0_findPhase_54
    rw [ho 20 (by decide), ho 40 (by decide), hr.1]
    have z1e : ∀ z : Int32, z = nI k + 1 → z = nI (k + 1) := fun z e => by rw [e, nl 1, nI_add]
    refine ⟨fun c => ?_, fun c => ?_⟩
    · have c : n ≤ k := (nj_le (by omega) (by omega)).mp c
      have : k = n := by omega
      subst this
      intro g2 e2
      refine ⟨20, ?_⟩
      have key := fp67 (post := post) (g := g') (G := fun p => gapN sy p k) (fun p hp => ⟨hG p hp, Nat.le_trans (gapN_le sy p k) hn⟩) ?_ 20 1 (by decide) (by decide) (by decide)
      · rw [e2]
        exact key
      · refine h _ (fun q h0 h2 => by rw [sput_r h0]; exact ho q h2) (fun j hj => by rw [sput_i hj, ho 0 (by decide)]) (sput_s _ _ _ _)
    · have c : ¬ n ≤ k := fun z => c ((nj_le (by omega) (by omega)).mpr z)
      obtain ⟨es, hs⟩ := hr.2.2 k (by omega)
      have er : jrem (nI k) 20 = nI (k % 20) := by rw [nl 20, nj_rem (by omega) (by decide) (by decide)]
      rw [nj_cl (by omega), es, er, nj_cl (by omega)]
      refine ⟨nj_in (by omega) (by decide), fun d z1 e1 => ?_, fun d => ⟨nj_in (by omega) (by decide), nj_in (by omega) (by decide), fun g4 e4 z1 e1 => ?_⟩⟩
      · have d : ¬ sy k = 3 := fun z => d (by rw [z]; rfl)
        rw [z1e z1 e1]
        refine ih (k + 1) g' (by omega) (by omega) ho (fun p hp => ?_)
        rw [hG p hp]
        show _ = nI (gapN sy p k + (if k % 20 = p ∧ sy k = 3 then 1 else 0))
        rw [if_neg (fun z => d z.2), Nat.add_zero]
      · have d : sy k = 3 := (nj_eq (b := 3) (by omega) (by decide)).mp d
        rw [z1e z1 e1]
        refine ih (k + 1) g4 (by omega) (by omega) (fun q hq => by rw [e4, sput_r hq]; exact ho q hq) (fun p hp => ?_)
        show _ = nI (gapN sy p k + (if k % 20 = p ∧ sy k = 3 then 1 else 0))
        by_cases hp2 : p = k % 20
        · subst hp2
          rw [e4, sput_s, if_pos ⟨rfl, d⟩, hG _ (by omega), nl 1, nI_add]
        · rw [e4, sput_i hp2, hG p hp, if_neg (fun z => hp2 z.1.symm), Nat.add_zero]
theorem fp2 {post : SG → Prop} {g : SG} {n : Nat} {sy : Nat → Nat} (hr : rowC g n sy) (h : ∀ g' : SG, (∀ q, q ≠ 0 → q ≠ 2 → g' q = g q) → (∀ j, j ≠ 4 → g' 0 j = g 0 j) → g' 0 4 = nI (phN n sy) → post g') : ∀ (f i : Nat) (g' : SG), i ≤ 20 → 20 - i < f → (∀ q, q ≠ 2 → g' q = g q) → (∀ p, p < i → g' 2 p = 0) → P_X0_findPhase_2 post f (nI i) g' := by
  intro f
  induction f with
  | zero => intro i g' _ h; exact absurd h (Nat.not_lt_zero _)
  | succ f ih =>
    intro i g' hi hf ho hz
    show B_X0_findPhase_2 post (P_X0_findPhase_2 post f) (nI i) g'
    unfold B_X0_findPhase_2
    refine ⟨fun c => ?_, fun c => ?_⟩
    · have c : 20 ≤ i := (nj_le (a := 20) (by decide) (by omega)).mp c
      refine ⟨n + 1, fp23 hr h (n + 1) 0 g' (Nat.zero_le _) (by omega) ho (fun p hp => hz p (by omega))⟩
    · have c : ¬ 20 ≤ i := fun z => c ((nj_le (a := 20) (by decide) (by omega)).mpr z)
      rw [nj_cl (by omega)]
      refine ⟨nj_in (by omega) (by decide), fun g2 e2 z3 e3 => ?_⟩
      have e3 : z3 = nI (i + 1) := by rw [e3, nl 1, nI_add]
      subst e3
      refine ih (i + 1) g2 (by omega) (by omega) (fun q hq => by rw [e2, sput_r hq]; exact ho q hq) (fun p hp => ?_)
      by_cases e : p = i
      · subst e; rw [e2, sput_s]
      · rw [e2, sput_i e]; exact hz p (by omega)
theorem s_findPhase {post : SG → Prop} {g : SG} {n : Nat} {sy : Nat → Nat} (hr : rowC g n sy) (h : ∀ g' : SG, (∀ q, q ≠ 0 → q ≠ 2 → g' q = g q) → (∀ j, j ≠ 4 → g' 0 j = g 0 j) → g' 0 4 = nI (phN n sy) → post g') : B_X0_findPhase_0 post g :=
  ⟨21, fp2 hr h 21 0 g (by decide) (by decide) (fun _ _ => rfl) (fun p hp => absurd hp (Nat.not_lt_zero _))⟩
theorem s_first3 {post : Int32 → Prop} {g : SG} {n : Nat} {sy : Nat → Nat} {f : Nat} (e4 : g 0 4 = nI (phN n sy)) (hf : f < 100) (h : post (nI (fiN n sy + 20 * f))) : B_X0_firstOf_0 post (nI f) g := by
  unfold B_X0_firstOf_0
  have := phN_lt n sy
  rw [e4, nl 1, nl 20, nI_add, nj_rem (by omega) (by decide) (by decide), pk_mul, nI_add]
  exact h
theorem tf8 {post : SG → Prop} {g : SG} {n : Nat} {sy : Nat → Nat} (hr : rowC g n sy) {f : Nat} (hf : f < cnN n sy) (e5 : g 0 5 = nI f) (h : post (sput (sput g 3 f (nI (onN n sy f))) 4 f (nI (knN n sy f)))) : ∀ (u i : Nat), i ≤ 19 → 19 - i < u → P_X0_takeFrame_8 post u (nI (fiN n sy + 20 * f)) (nI (bmA (ocN n sy f) i)) (nI (bmA (kcN n sy f) i)) (nI i) g := by
  have hn := hr.2.1
  have hc6 := cnN_le (sy := sy) hn
  have hfi := (cnN_iff (n := n) (sy := sy) f).mp hf
  intro u
  induction u with
  | zero => intro i _ h; exact absurd h (Nat.not_lt_zero _)
  | succ u ih =>
    intro i hi hu
    show B_X0_takeFrame_8 post (P_X0_takeFrame_8 post u) (nI (fiN n sy + 20 * f)) (nI (bmA (ocN n sy f) i)) (nI (bmA (kcN n sy f) i)) (nI i) g
    unfold B_X0_takeFrame_8
    rw [e5, nj_cl (by omega)]
    refine ⟨fun c => ?_, fun c => ?_⟩
    · have c : 19 ≤ i := (nj_le (a := 19) (by decide) (by omega)).mp c
      have : i = 19 := by omega
      subst this
      refine ⟨nj_in (by omega) (by decide), fun g2 e2 => ?_⟩
      have z5 : g2 0 5 = nI f := by rw [e2, sput_r (by decide)]; exact e5
      rw [z5, nj_cl (by omega)]
      refine ⟨nj_in (by omega) (by decide), fun g3 e3 => ?_⟩
      rw [e3, e2]
      exact h
    · have c : ¬ 19 ≤ i := fun z => c ((nj_le (a := 19) (by decide) (by omega)).mpr z)
      have ex : nI (fiN n sy + 20 * f) + nI i = nI (fiN n sy + 20 * f + i) := nI_add _ _
      obtain ⟨es, hs⟩ := hr.2.2 (fiN n sy + 20 * f + i) (by omega)
      rw [ex, nj_cl (by omega), es]
      refine ⟨nj_in (by omega) (by decide), fun z4 e4 => ?_⟩
      subst e4
      have z1e : ∀ z : Int32, z = nI i + 1 → z = nI (i + 1) := fun z e => by rw [e, nl 1, nI_add]
      have ih' := ih (i + 1) (by omega) (by omega)
      have stay : ∀ (c : Nat → Bool), c i = false → bmA c (i + 1) = bmA c i := fun c hc => by
        show bmA c i + (if c i then 2 ^ i else 0) = _
        rw [hc]; rfl
      refine ⟨fun d => ?_, fun d => ?_⟩
      · have d : ¬ sy (fiN n sy + 20 * f + i) = 1 := fun z => d (by rw [z]; rfl)
        have so := stay (ocN n sy f) (decide_eq_false d)
        unfold B_X0_takeFrame_39
        refine ⟨fun z => absurd ((nj_eq (b := 1) (by omega) (by decide)).mp z) d, fun _ => ⟨fun d2 => ?_, fun d2 => ?_⟩⟩
        · have d2 : ¬ sy (fiN n sy + 20 * f + i) = 0 := fun z => d2 (by rw [z]; rfl)
          have sk := stay (kcN n sy f) (decide_eq_false (by omega))
          unfold B_X0_takeFrame_59
          intro z1 e1
          rw [z1e z1 e1, ← so, ← sk]
          exact ih'
        · have d2 : sy (fiN n sy + 20 * f + i) = 0 := (nj_eq (b := 0) (by omega) (by decide)).mp d2
          unfold B_X0_takeFrame_50 B_X0_takeFrame_59
          intro z1 e1 z2 e2
          rw [z1e z2 e2, e1, bm_1 (by omega) (decide_eq_true (by omega)), ← so]
          exact ih'
      · have d : sy (fiN n sy + 20 * f + i) = 1 := (nj_eq (b := 1) (by omega) (by decide)).mp d
        intro z6 e6
        unfold B_X0_takeFrame_39 B_X0_takeFrame_50 B_X0_takeFrame_59
        refine ⟨fun _ z1 e1 z2 e2 => ?_, fun z => absurd (by rw [d]; rfl) z⟩
        rw [z1e z2 e2, e1, e6, bm_1 (c := kcN n sy f) (by omega) (decide_eq_true (by omega)), bm_1 (c := ocN n sy f) (by omega) (decide_eq_true d)]
        exact ih'
theorem s_takeFrame {post : SG → Prop} {g : SG} {n : Nat} {sy : Nat → Nat} (hr : rowC g n sy) {f : Nat} (hf : f < cnN n sy) (e5 : g 0 5 = nI f) (h : post (sput (sput g 3 f (nI (onN n sy f))) 4 f (nI (knN n sy f)))) : B_X0_takeFrame_0 post (nI (fiN n sy + 20 * f)) g :=
  ⟨20, tf8 hr hf e5 h 20 0 (by decide) (by decide)⟩
/-- frames stand in the class's tables -/
def fC (g : SG) (n : Nat) (sy : Nat → Nat) : Prop := g 0 4 = nI (phN n sy) ∧ g 0 5 = nI (cnN n sy) ∧ ∀ j, j < cnN n sy → g 4 j = nI (knN n sy j) ∧ g 3 j = nI (onN n sy j)
theorem cut16 {post : SG → Prop} {g : SG} {n : Nat} {sy : Nat → Nat} (hr : rowC g n sy) (e4 : g 0 4 = nI (phN n sy)) (h : ∀ g' : SG, fC g' n sy → (∀ q, q ≠ 0 → q ≠ 3 → q ≠ 4 → g' q = g q) → (∀ j, j ≠ 5 → g' 0 j = g 0 j) → post g') : ∀ (u f : Nat) (g' : SG), f ≤ cnN n sy → cnN n sy - f < u → (∀ q, q ≠ 0 → q ≠ 3 → q ≠ 4 → g' q = g q) → (∀ j, j ≠ 5 → g' 0 j = g 0 j) → g' 0 5 = nI f → (∀ j, j < f → g' 4 j = nI (knN n sy j) ∧ g' 3 j = nI (onN n sy j)) → P_X0_cut_16 post u (nI (fiN n sy + 20 * f)) g' := by
  have hn := hr.2.1
  have hc6 := cnN_le (sy := sy) hn
  have hfl : fiN n sy < 20 := Nat.mod_lt _ (by decide)
  intro u
  induction u with
  | zero => intro f g' _ h; exact absurd h (Nat.not_lt_zero _)
  | succ u ih =>
    intro f g' hfc hu j1 j2 j3 j4
    have hr' : rowC g' n sy := by
      unfold rowC
      rw [j1 20 (by decide) (by decide) (by decide), j1 40 (by decide) (by decide) (by decide)]
      exact hr
    have fin : f = cnN n sy → post g' := fun e => by
      subst e
      exact h g' ⟨(j2 4 (by decide)).trans e4, j3, j4⟩ j1 j2
    show B_X0_cut_16 post (P_X0_cut_16 post u) (nI (fiN n sy + 20 * f)) g'
    unfold B_X0_cut_16 B_X0_cut_58
    rw [j3, hr'.1]
    have ex : nI (fiN n sy + 20 * f) + 19 = nI (fiN n sy + 20 * f + 19) := by rw [nl 19, nI_add]
    rw [ex]
    refine ⟨fun c => ?_, fun c => ⟨fun d => ?_, fun d => ?_⟩⟩
    · have c : 6 ≤ f := (nj_le (a := 6) (by decide) (by omega)).mp c
      exact fin (by omega)
    · have d : n < fiN n sy + 20 * f + 19 := (nj_lt (by omega) (by omega)).mp d
      have hno : ¬ f < cnN n sy := fun z => by have := (cnN_iff f).mp z; omega
      exact fin (by omega)
    · have d : ¬ n < fiN n sy + 20 * f + 19 := fun z => d ((nj_lt (by omega) (by omega)).mpr z)
      have hf : f < cnN n sy := (cnN_iff f).mpr (by omega)
      refine s_takeFrame hr' hf j3 ?_
      intro g4 eg4 z5 e5
      have z : sput (sput g' 3 f (nI (onN n sy f))) 4 f (nI (knN n sy f)) 0 5 = nI f := by rw [sput_r (by decide), sput_r (by decide)]; exact j3
      rw [z, nl 1, nI_add] at eg4
      have e5 : z5 = nI (fiN n sy + 20 * (f + 1)) := by rw [e5, nl 20, nI_add]; congr 1
      subst e5
      refine ih (f + 1) g4 (by omega) (by omega) (fun q a b d => ?_) (fun j hj => ?_) ?_ (fun j hj => ?_)
      · rw [eg4, sput_r a, sput_r d, sput_r b]; exact j1 q a b d
      · rw [eg4, sput_i hj, sput_r (by decide), sput_r (by decide)]; exact j2 j hj
      · rw [eg4, sput_s]
      · have r4 : g4 4 j = sput (sput g' 3 f (nI (onN n sy f))) 4 f (nI (knN n sy f)) 4 j := by rw [eg4, sput_r (a := 0) (b := 4) (by decide)]
        have r3 : g4 3 j = sput g' 3 f (nI (onN n sy f)) 3 j := by rw [eg4, sput_r (a := 0) (b := 3) (by decide), sput_r (a := 4) (b := 3) (by decide)]
        rw [r4, r3]
        by_cases e : j = f
        · subst e; exact ⟨sput_s _ _ _ _, sput_s _ _ _ _⟩
        · rw [sput_i e, sput_i (a := 3) (b := 3) e, sput_r (a := 3) (b := 4) (by decide)]; exact j4 j (by omega)
theorem s_cut {post : SG → Prop} {g : SG} {n : Nat} {sy : Nat → Nat} (hr : rowC g n sy) (h : ∀ g' : SG, fC g' n sy → (∀ q, q ≠ 0 → q ≠ 2 → q ≠ 3 → q ≠ 4 → g' q = g q) → (∀ j, j ≠ 4 → j ≠ 5 → g' 0 j = g 0 j) → post g') : B_X0_cut_0 post g := by
  unfold B_X0_cut_0
  refine s_findPhase hr (fun g1 a1 a2 a3 => ?_)
  refine s_first3 (f := 0) a3 (by decide) ?_
  intro g3 e3
  have hr3 : rowC g3 n sy := by
    unfold rowC
    rw [e3, sput_r (by decide), sput_r (by decide), a1 20 (by decide) (by decide), a1 40 (by decide) (by decide)]
    exact hr
  refine ⟨8, cut16 hr3 (by rw [e3, sput_i (by decide)]; exact a3) (fun g' b1 b2 b3 => ?_) 8 0 g3 (Nat.zero_le _) (by have := cnN_le (sy := sy) hr.2.1; omega) (fun _ _ _ _ => rfl) (fun _ _ => rfl) (by rw [e3, sput_s]; rfl) (fun j hj => absurd hj (Nat.not_lt_zero _))⟩
  refine h g' b1 (fun q c0 c2 c3 c4 => ?_) (fun j c4 c5 => ?_)
  · rw [b2 q c0 c3 c4, e3, sput_r c0, a1 q c0 c2]
  · rw [b3 j c5, e3, sput_i c5, a2 j c4]
