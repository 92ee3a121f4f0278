/-! both sides at once: what changes the row or its numbers -/
def Inv0 (g h : SG) : Prop := ∃ (r : Nat → Nat) (R : Nat → Nat → Nat) (u c : Nat) (I : Nat → Nat → Nat) (kp : Nat → Nat), CI g r R u c I kp ∧ MI h r R u c I kp
theorem out_no {x : Int32} {lo hi : Nat} (hlo : lo < 2147483648) (hhi : hi < 2147483648) (hx : ¬ ∃ k, lo ≤ k ∧ k ≤ hi ∧ x = nI k) (h1 : ¬ x < nI lo) (h2 : ¬ nI hi < x) : False := by
  have h0 : ¬ x < 0 := fun z => h1 (by
    rw [Int32.lt_iff_toInt_lt] at z ⊢
    rw [nj_ti hlo]
    have : (0 : Int32).toInt = 0 := rfl
    omega)
  obtain ⟨j, hj, rfl⟩ := in_lit hhi h0 h2
  exact hx ⟨j, Nat.not_lt.mp (fun z => h1 ((nj_lt (by omega) hlo).mpr z)), hj, rfl⟩
theorem s_in_y {post : Int32 → Prop} {k lo hi : Nat} (hlo : lo ≤ k) (hhi : k ≤ hi) (hh : hi < 2147483648) (h : post 1) : B_X6_in_0 post (nI k) (nI lo) (nI hi) :=
  s_in (fun _ => h) (fun c => by
    rcases c with c | c
    · have := (nj_lt (by omega) (by omega)).mp c
      omega
    · have := (nj_lt (by omega) (by omega)).mp c
      omega)
theorem s_in_n {post : Int32 → Prop} {x : Int32} {lo hi : Nat} (hlo : lo < 2147483648) (hhi : hi < 2147483648) (hx : ¬ ∃ k, lo ≤ k ∧ k ≤ hi ∧ x = nI k) (h : post 0) : B_X6_in_0 post x (nI lo) (nI hi) :=
  s_in (fun c => (out_no hlo hhi hx c.1 c.2).elim) (fun _ => h)
theorem i10 : ¬ (1 : Int32) = 0 := by decide
theorem ge0 {k : Nat} (h : k < 2147483648) : ¬ nI k < 0 := nI_pos h
/-! rows changed -/
def rAp (r : Nat → Nat) (s : Nat) : Nat → Nat := fun i => if i = 0 then r 0 + 1 else if i = 6 + r 0 then s else r i
def rF (r : Nat → Nat) (k v : Nat) : Nat → Nat := fun i => if i = k then v else r i
def rLo (r : Nat → Nat) (n : Nat) : Nat → Nat := fun i => if i = 0 then r 0 - n else if 6 ≤ i then r (i + n) else r i
theorem rF_s (r : Nat → Nat) (k v : Nat) : rF r k v k = v := if_pos rfl
theorem rF_i {r : Nat → Nat} {k v i : Nat} (h : i ≠ k) : rF r k v i = r i := if_neg h
theorem rF_sy {r : Nat → Nat} {k v : Nat} (h : k < 6) : syR (rF r k v) = syR r := by
  funext i
  show rF r k v (6 + i) = r (6 + i)
  exact rF_i (by omega)
theorem rAp_0 (r : Nat → Nat) (s : Nat) : rAp r s 0 = r 0 + 1 := if_pos rfl
theorem rAp_lo {r : Nat → Nat} {s i : Nat} (h0 : i ≠ 0) (h : i < 6) : rAp r s i = r i := by
  unfold rAp
  rw [if_neg h0, if_neg (by omega)]
theorem rAp_n (r : Nat → Nat) (s : Nat) : rAp r s (6 + r 0) = s := by
  unfold rAp
  rw [if_neg (by omega), if_pos rfl]
theorem rAp_k {r : Nat → Nat} {s k : Nat} (h : k < r 0) : rAp r s (6 + k) = r (6 + k) := by
  unfold rAp
  rw [if_neg (by omega), if_neg (by omega)]
theorem ok_ap {r : Nat → Nat} {s : Nat} (ok : okR r) (hn : r 0 < 120) (hs : s < 4) : okR (rAp r s) := by
  obtain ⟨o0, o1, o2, o3, o4, o5⟩ := ok
  refine ⟨by rw [rAp_0]; omega, by rw [rAp_lo (by decide) (by decide)]; exact o1, by rw [rAp_lo (by decide) (by decide)]; exact o2, by rw [rAp_lo (by decide) (by decide)]; exact o3, by rw [rAp_lo (by decide) (by decide)]; exact o4, fun k hk => ?_⟩
  rw [rAp_0] at hk
  by_cases e : k = r 0
  · subst e; rw [rAp_n]; exact hs
  · rw [rAp_k (by omega)]; exact o5 k (by omega)
theorem c_app {post : SG → Prop} {g : SG} {r : Nat → Nat} {s : Nat} (hr : hC g 0 r) (hn : r 0 < 120) (hs : s < 4) (h : ∀ g' : SG, (∀ q, q ≠ 20 → q ≠ 40 → g' q = g q) → hC g' 0 (rAp r s) → post g') : B_X1_append_0 post (nI s) g := by
  obtain ⟨r0, r1, r2, r3, r4, r5⟩ := hr
  refine s_app3 hn hs r0 (h _ (fun q h1 h2 => by rw [sput_r h1, sput_r h2]) ⟨?_, ?_, ?_, ?_, ?_, fun k hk => ?_⟩)
  · show sput (sput g 40 (r 0) (nI s)) 20 0 (nI (r 0 + 1)) 20 0 = _
    rw [sput_s, rAp_0]
  · show sput (sput g 40 (r 0) (nI s)) 20 0 (nI (r 0 + 1)) 20 1 = _
    rw [sput_i (by decide), sput_r (by decide), rAp_lo (by decide) (by decide)]; exact r1
  · show sput (sput g 40 (r 0) (nI s)) 20 0 (nI (r 0 + 1)) 20 2 = _
    rw [sput_i (by decide), sput_r (by decide), rAp_lo (by decide) (by decide)]; exact r2
  · show sput (sput g 40 (r 0) (nI s)) 20 0 (nI (r 0 + 1)) 20 3 = _
    rw [sput_i (by decide), sput_r (by decide), rAp_lo (by decide) (by decide)]; exact r3
  · show sput (sput g 40 (r 0) (nI s)) 20 0 (nI (r 0 + 1)) 20 4 = _
    rw [sput_i (by decide), sput_r (by decide), rAp_lo (by decide) (by decide)]; exact r4
  · show sput (sput g 40 (r 0) (nI s)) 20 0 (nI (r 0 + 1)) 40 k = _
    rw [rAp_0] at hk
    rw [sput_r (by decide)]
    by_cases e : k = r 0
    · subst e; rw [sput_s, rAp_n]
    · rw [sput_i e, rAp_k (by omega)]; exact r5 k (by omega)
theorem m_app {post : SG → Prop} {h : SG} {r : Nat → Nat} {s : Nat} (hr : hM h 1 0 r) (hn : r 0 < 120) (hp : ∀ h' : SG, (∀ q, q ≠ 1 → h' q = h q) → hM h' 1 0 (rAp r s) → post h') : B_X6_comes_0 post (nI s) h := by
  obtain ⟨r0, r1, r2, r3, r4, r5⟩ := hr
  refine s_comes6 hn r0 (hp _ (fun q h1 => by rw [sput_r h1, sput_r h1]) ⟨?_, ?_, ?_, ?_, ?_, fun k hk => ?_⟩)
  · rw [sput_s, rAp_0]
  · rw [sput_i (by decide), sput_i (by omega), rAp_lo (by decide) (by decide)]; exact r1
  · rw [sput_i (by decide), sput_i (by omega), rAp_lo (by decide) (by decide)]; exact r2
  · rw [sput_i (by decide), sput_i (by omega), rAp_lo (by decide) (by decide)]; exact r3
  · rw [sput_i (by decide), sput_i (by omega), rAp_lo (by decide) (by decide)]; exact r4
  · rw [rAp_0] at hk
    rw [sput_i (by omega), Nat.zero_add]
    by_cases e : k = r 0
    · subst e; rw [sput_s, rAp_n]
    · rw [sput_i (by omega), rAp_k (by omega)]
      have := r5 k (by omega)
      rw [Nat.zero_add] at this
      exact this
/-! hears -/
def symN (k : Nat) : Nat := if k = 0 then 3 else if 8 ≤ k ∧ k ≤ 12 then 0 else if 18 ≤ k ∧ k ≤ 22 then 1 else 2
theorem symN_lt (k : Nat) : symN k < 4 := by
  unfold symN
  repeat' split
  all_goals decide
theorem s_sym {post : Int32 → Prop} {k : Nat} (hk : k < 1000) (h : post (nI (symN k))) : B_X5_symbolOfLength_0 post (nI k) := by
  unfold B_X5_symbolOfLength_0 B_X5_symbolOfLength_20 B_X5_symbolOfLength_36 B_X5_symbolOfLength_37
  have lt : ∀ b, b < 1000 → (nI k < nI b ↔ k < b) := fun b hb => nj_lt (by omega) (by omega)
  have gt : ∀ b, b < 1000 → (nI b < nI k ↔ b < k) := fun b hb => nj_lt (by omega) (by omega)
  have l8 := lt 8 (by decide)
  have l18 := lt 18 (by decide)
  have g12 := gt 12 (by decide)
  have g22 := gt 22 (by decide)
  have p : ∀ s : Nat, symN k = s → post (nI s) := fun s e => e ▸ h
  unfold symN at p
  have three : (nI k < nI 8 ∨ nI 12 < nI k) → ¬ k = 0 → ((nI k < nI 18 → post (nI 2)) ∧ (¬ nI k < nI 18 → (nI 22 < nI k → post (nI 2)) ∧ (¬ nI 22 < nI k → post (nI 1)))) := by
    intro d d0
    rw [l8, g12] at d
    rw [l18, g22]
    refine ⟨fun e => p 2 ?_, fun e => ⟨fun e2 => p 2 ?_, fun e2 => p 1 ?_⟩⟩
    · rw [if_neg d0, if_neg (by omega), if_neg (by omega)]
    · rw [if_neg d0, if_neg (by omega), if_neg (by omega)]
    · rw [if_neg d0, if_neg (by omega), if_pos (by omega)]
  refine ⟨fun c => ?_, fun c => ?_⟩
  · have c : ¬ k = 0 := fun z => c (by rw [z]; rfl)
    refine ⟨fun d => three (Or.inl d) c, fun d => ⟨fun e => three (Or.inr e) c, fun e => p 0 ?_⟩⟩
    have d : ¬ k < 8 := fun z => d (l8.mpr z)
    have e : ¬ 12 < k := fun z => e (g12.mpr z)
    rw [if_neg c, if_pos (by omega)]
  · have c : k = 0 := (nj_eq (b := 0) (by omega) (by decide)).mp c
    exact p 3 (by rw [if_pos c])
theorem sim_hears (g h : SG) (x1 : Int32) (hI : Inv0 g h) : B_X5_hears_0 (fun r g3 => B_X6_hears_0 (fun r2 h3 => r = r2 ∧ Inv0 g3 h3) x1 h) x1 g := by
  have hI0 := hI
  obtain ⟨r, R, u, c, I, kp, hc, hm⟩ := hI
  by_cases hx : ∃ k, 0 ≤ k ∧ k ≤ 30 ∧ x1 = nI k
  · obtain ⟨k, _, hk, rfl⟩ := hx
    have hle : nI k ≤ 30 := (nj_le (b := 30) (by omega) (by decide)).mpr hk
    have ec : g 20 0 = nI (r 0) := hc.1.1.1
    have em : h 1 0 = nI (r 0) := hm.1.1.1
    have hn := hc.1.2.1
    unfold B_X5_hears_0
    rw [ec]
    refine ⟨fun z => absurd z (ge0 (by omega)), fun _ => ⟨fun _ => ⟨fun d => ?_, fun d => ?_⟩, fun z => absurd hle z⟩⟩
    · have d : r 0 < 120 := (nj_lt (b := 120) (by omega) (by decide)).mp d
      refine c_rem hc (fun g4 hc4 _ _ => s_sym (by omega) (c_app hc4.1.1 d (symN_lt k) (fun g6 a1 a2 => c_row hc4 a1 a2 (ok_ap hc4.1.2 d (symN_lt k)) (fun g7 hc7 e7 => ?_))))
      unfold B_X6_hears_0
      rw [em]
      refine s_in_y (lo := 0) (hi := 30) (by omega) hk (by decide) ⟨fun _ => ⟨fun _ => m_rem hm (fun h4 hm4 t4 _ => ?_), fun z => absurd ((nj_eq (b := 120) (by omega) (by decide)).mp z) (by omega)⟩, fun z => absurd z i10⟩
      have fin : ∀ s : Nat, symN k = s → B_X6_hears_70 (fun r2 h3 => g7 20 0 = r2 ∧ Inv0 g7 h3) (nI k) (nI s) h4 := by
        intro s e
        unfold B_X6_hears_70
        refine m_app (s := s) hm4.1.1 d (fun h5 b1 b2 => ⟨?_, _, _, _, _, _, _, hc7, m_row hm4 t4 b1 (e ▸ b2) (ok_ap hm4.1.2 d (symN_lt k))⟩)
        rw [e7, rAp_0]
        have := b2.1
        rw [rAp_0] at this
        exact this.symm
      unfold symN at fin
      refine ⟨fun e => ?_, fun e => ?_⟩
      · have e : ¬ k = 0 := fun z => e (by rw [z]; rfl)
        by_cases e1 : 8 ≤ k ∧ k ≤ 12
        · refine s_in_y (lo := 8) (hi := 12) e1.1 e1.2 (by decide) ⟨fun z => absurd z i10, fun _ => fin 0 ?_⟩
          rw [if_neg e, if_pos e1]
        · refine s_in_n (lo := 8) (hi := 12) (by decide) (by decide) (fun ⟨j, h1, h2, h3⟩ => ?_) ⟨fun _ => ?_, fun z => absurd rfl z⟩
          · have : k = j := (nj_eq (by omega) (by omega)).mp h3
            omega
          by_cases e2 : 18 ≤ k ∧ k ≤ 22
          · refine s_in_y (lo := 18) (hi := 22) e2.1 e2.2 (by decide) ⟨fun z => absurd z i10, fun _ => fin 1 ?_⟩
            rw [if_neg e, if_neg e1, if_pos e2]
          · refine s_in_n (lo := 18) (hi := 22) (by decide) (by decide) (fun ⟨j, h1, h2, h3⟩ => ?_) ⟨fun _ => fin 2 ?_, fun z => absurd rfl z⟩
            · have : k = j := (nj_eq (by omega) (by omega)).mp h3
              omega
            · rw [if_neg e, if_neg e1, if_neg e2]
      · have e : k = 0 := (nj_eq (b := 0) (by omega) (by decide)).mp e
        exact fin 3 (by rw [if_pos e])
    · have d : ¬ r 0 < 120 := fun z => d ((nj_lt (b := 120) (by omega) (by decide)).mpr z)
      have e120 : r 0 = 120 := by omega
      unfold B_X6_hears_0
      rw [em, e120]
      exact s_in_y (lo := 0) (hi := 30) (by omega) hk (by decide) ⟨fun _ => ⟨fun z => absurd rfl z, fun _ => ⟨rfl, hI0⟩⟩, fun z => absurd z i10⟩
  · have bad : B_X6_hears_0 (fun r2 h3 => -1 = r2 ∧ Inv0 g h3) x1 h := by
      unfold B_X6_hears_0
      exact s_in_n (lo := 0) (hi := 30) (by decide) (by decide) hx ⟨fun z => absurd rfl z, fun _ => ⟨rfl, hI0⟩⟩
    unfold B_X5_hears_0 B_X5_hears_10
    exact ⟨fun _ => bad, fun c1 => ⟨fun c2 => (out_no (lo := 0) (hi := 30) (by decide) (by decide) hx c1 (Int32.not_lt.mpr c2)).elim, fun _ => bad⟩⟩
/-! frames -/
def symF (a b i : Nat) : Nat := if i = 19 then 3 else if b / 2 ^ i % 2 = 1 then 2 else a / 2 ^ i % 2
theorem symF_lt (a b i : Nat) : symF a b i < 4 := by
  unfold symF
  split
  · decide
  · split
    · decide
    · omega
def rApK (r : Nat → Nat) (f : Nat → Nat) : Nat → Nat → Nat
  | 0 => r
  | k + 1 => rAp (rApK r f k) (f k)
theorem rApK_0 (r : Nat → Nat) (f : Nat → Nat) : ∀ k, rApK r f k 0 = r 0 + k
  | 0 => rfl
  | k + 1 => by
    show rAp (rApK r f k) (f k) 0 = _
    rw [rAp_0, rApK_0 r f k]
    rfl
theorem ok_apK {r : Nat → Nat} {f : Nat → Nat} (ok : okR r) (hf : ∀ i, f i < 4) : ∀ k, r 0 + k ≤ 120 → okR (rApK r f k)
  | 0, _ => ok
  | k + 1, h => ok_ap (ok_apK ok hf k (by omega)) (by rw [rApK_0]; omega) (hf k)
theorem bit1 {b i : Nat} (hb : b < 2147483648) (hi : i < 32) : (jshr (nI b) (nI i) &&& 1) = nI (b / 2 ^ i % 2) := by rw [nj_shr hb hi, nl 1, nj_and1]
theorem fr5 {post : Int32 → SG → Prop} {g : SG} {r : Nat → Nat} {R : Nat → Nat → Nat} {u c : Nat} {I : Nat → Nat → Nat} {kp : Nat → Nat} {a b : Nat} (ha : a < 524288) (hb : b < 524288) (hc : CI g r R u c I kp) (hn : r 0 + 20 ≤ 120) (h : ∀ g' : SG, CI g' (rApK r (symF a b) 20) R u c I kp → g' 20 0 = nI (r 0 + 20) → post (g' 20 0) g') : ∀ (n i : Nat) (g' : SG), i ≤ 19 → 19 - i < n → (∀ q, q ≠ 20 → q ≠ 40 → g' q = g q) → hC g' 0 (rApK r (symF a b) i) → P_X5_frames_53 post n (nI a) (nI b) (nI i) g' := by
  intro n
  induction n with
  | zero => intro i g' _ h; exact absurd h (Nat.not_lt_zero _)
  | succ n ih =>
    intro i g' hi hf j1 j2
    have h0 := rApK_0 r (symF a b) i
    have hlt : rApK r (symF a b) i 0 < 120 := by omega
    have step : ∀ s : Nat, symF a b i = s → i < 19 → ∀ x y : Int32, B_X5_frames_93 post (P_X5_frames_53 post n) (nI a) (nI b) (nI i) x (nI s) g' := by
      intro s e hi2 x _
      unfold B_X5_frames_93
      refine c_app j2 hlt (e ▸ symF_lt a b i) (fun g1 a1 a2 z2 e2 => ?_)
      have e2 : z2 = nI (i + 1) := by rw [e2, nl 1, nI_add]
      rw [e2]
      refine ih (i + 1) g1 (by omega) (by omega) (fun q h1 h2 => by rw [a1 q h1 h2]; exact j1 q h1 h2) ?_
      show hC g1 0 (rAp (rApK r (symF a b) i) (symF a b i))
      rw [e]
      exact a2
    show B_X5_frames_53 post (P_X5_frames_53 post n) (nI a) (nI b) (nI i) g'
    unfold B_X5_frames_53 B_X5_frames_73
    rw [bit1 (b := a) (i := i) (by omega) (by omega), bit1 (b := b) (i := i) (by omega) (by omega)]
    have m2 : b / 2 ^ i % 2 < 2 := Nat.mod_lt _ (by decide)
    refine ⟨fun d => ?_, fun d => ?_⟩
    · have d : 19 ≤ i := (nj_le (a := 19) (by decide) (by omega)).mp d
      have : i = 19 := by omega
      subst this
      refine c_app (s := 3) j2 hlt (by decide) (fun g2 a1 a2 => ?_)
      have e3 : rApK r (symF a b) 20 = rAp (rApK r (symF a b) 19) 3 := rfl
      refine c_row hc (fun q h1 h2 => by rw [a1 q h1 h2]; exact j1 q h1 h2) (e3 ▸ a2) (ok_apK hc.1.2 (symF_lt a b) 20 (by omega)) (fun g3 hc3 e4 => h g3 hc3 (by rw [e4, rApK_0]))
    · have d : ¬ 19 ≤ i := fun z => d ((nj_le (a := 19) (by decide) (by omega)).mpr z)
      refine ⟨fun e => ⟨fun _ => step _ ?_ (by omega) _ 0, fun z => absurd rfl z⟩, fun e => ⟨fun z => absurd z i10, fun _ => step 2 ?_ (by omega) _ 0⟩⟩
      · have e : ¬ b / 2 ^ i % 2 = 1 := fun z => e (by rw [z]; rfl)
        unfold symF
        rw [if_neg (by omega), if_neg e]
      · have e : b / 2 ^ i % 2 = 1 := (nj_eq (b := 1) (by omega) (by decide)).mp e
        unfold symF
        rw [if_neg (by omega), if_pos e]
theorem fr6 {post : Int32 → SG → Prop} {g : SG} {r : Nat → Nat} {R : Nat → Nat → Nat} {u c : Nat} {I : Nat → Nat → Nat} {kp : Nat → Nat} {a b : Nat} (ha : a < 524288) (hb : b < 524288) (hm : MI g r R u c I kp) (ht : g 0 2 = 0) (hn : r 0 + 20 ≤ 120) (h : ∀ g' : SG, MI g' (rApK r (symF a b) 20) R u c I kp → g' 1 0 = nI (r 0 + 20) → post (g' 1 0) g') : ∀ (n i : Nat) (g' : SG), i ≤ 19 → 19 - i < n → (∀ q, q ≠ 1 → g' q = g q) → hM g' 1 0 (rApK r (symF a b) i) → P_X6_frames_47 post n (nI a) (nI b) (nI i) g' := by
  intro n
  induction n with
  | zero => intro i g' _ h; exact absurd h (Nat.not_lt_zero _)
  | succ n ih =>
    intro i g' hi hf j1 j2
    have h0 := rApK_0 r (symF a b) i
    have hlt : rApK r (symF a b) i 0 < 120 := by omega
    have step : ∀ s : Nat, symF a b i = s → i < 19 → B_X6_frames_79 post (P_X6_frames_47 post n) (nI a) (nI b) (nI i) (nI s) g' := by
      intro s e hi2
      unfold B_X6_frames_79
      refine m_app j2 hlt (fun g1 a1 a2 z2 e2 => ?_)
      have e2 : z2 = nI (i + 1) := by rw [e2, nl 1, nI_add]
      rw [e2]
      refine ih (i + 1) g1 (by omega) (by omega) (fun q h1 => by rw [a1 q h1]; exact j1 q h1) ?_
      show hM g1 1 0 (rAp (rApK r (symF a b) i) (symF a b i))
      rw [e]
      exact a2
    show B_X6_frames_47 post (P_X6_frames_47 post n) (nI a) (nI b) (nI i) g'
    unfold B_X6_frames_47
    have m2 : b / 2 ^ i % 2 < 2 := Nat.mod_lt _ (by decide)
    have m1 : a / 2 ^ i % 2 < 2 := Nat.mod_lt _ (by decide)
    refine ⟨fun d => ?_, fun d => ?_⟩
    · have d : 19 ≤ i := (nj_le (a := 19) (by decide) (by omega)).mp d
      have : i = 19 := by omega
      subst this
      refine m_app (s := 3) j2 hlt (fun g2 a1 a2 => ?_)
      have e3 : rApK r (symF a b) 20 = rAp (rApK r (symF a b) 19) 3 := rfl
      have a3 : hM g2 1 0 (rApK r (symF a b) 20) := e3 ▸ a2
      refine h g2 (m_row hm ht (fun q h1 => by rw [a1 q h1]; exact j1 q h1) a3 (ok_apK hm.1.2 (symF_lt a b) 20 (by omega))) ?_
      have := a3.1
      rw [rApK_0] at this
      exact this
    · have d : ¬ 19 ≤ i := fun z => d ((nj_le (a := 19) (by decide) (by omega)).mpr z)
      refine s_has (by omega) (by omega) ⟨fun e => ?_, fun e => step 2 ?_ (by omega)⟩
      · have e := (nz m2).1.mp e
        refine s_has (by omega) (by omega) ⟨fun e1 => step 0 ?_ (by omega), fun e1 => step 1 ?_ (by omega)⟩
        · have e1 := (nz m1).1.mp e1
          unfold symF
          rw [if_neg (by omega), if_neg (by omega), e1]
        · have e1 := (nz m1).2.mp e1
          unfold symF
          rw [if_neg (by omega), if_neg (by omega), e1]
      · have e := (nz m2).2.mp e
        unfold symF
        rw [if_neg (by omega), if_pos e]
theorem sim_frames (g h : SG) (x1 x2 : Int32) (hI : Inv0 g h) : B_X5_frames_0 (fun r g3 => B_X6_frames_0 (fun r2 h3 => r = r2 ∧ Inv0 g3 h3) x1 x2 h) x1 x2 g := by
  have hI0 := hI
  obtain ⟨r, R, u, c, I, kp, hc, hm⟩ := hI
  by_cases hx : ∃ k, 0 ≤ k ∧ k ≤ 524287 ∧ x1 = nI k
  · obtain ⟨a, _, ha, rfl⟩ := hx
    by_cases hy : ∃ k, 0 ≤ k ∧ k ≤ 524287 ∧ x2 = nI k
    · obtain ⟨b, _, hb, rfl⟩ := hy
      have hlb : nI b ≤ 524287 := (nj_le (b := 524287) (by omega) (by decide)).mpr hb
      have hla : ¬ 524287 < nI a := fun z => absurd ((nj_lt (a := 524287) (by decide) (by omega)).mp z) (by omega)
      have ec : g 20 0 = nI (r 0) := hc.1.1.1
      have em : h 1 0 = nI (r 0) := hm.1.1.1
      have hn := hc.1.2.1
      have es : nI (r 0) + 20 = nI (r 0 + 20) := by rw [nl 20, nI_add]
      have es2 : (nI (r 0) + 19) + 1 = nI (r 0 + 20) := by rw [nl 19, nl 1, nI_add, nI_add]
      unfold B_X5_frames_0
      rw [ec, es]
      refine ⟨fun z => absurd z (ge0 (by omega)), fun _ => ⟨fun z => absurd z hla, fun _ => ⟨fun z => absurd z (ge0 (by omega)), fun _ => ⟨fun _ => ⟨fun d => ?_, fun d => ?_⟩, fun z => absurd hlb z⟩⟩⟩⟩
      · have d1 : r 0 + 20 ≤ 120 := (nj_le (b := 120) (by omega) (by decide)).mp d
        refine c_rem hc (fun g6 hc6 _ _ => ⟨20, fr5 (a := a) (b := b) (by omega) (by omega) hc6 d1 (fun g7 hc7 e7 => ?_) 20 0 g6 (by decide) (by decide) (fun _ _ _ => rfl) hc6.1.1⟩)
        unfold B_X6_frames_0
        rw [em, es2]
        refine s_in_y (lo := 0) (hi := 524287) (by omega) ha (by decide) ⟨fun z => absurd z i10, fun _ => s_in_y (lo := 0) (hi := 524287) (by omega) hb (by decide) ⟨fun _ => ⟨fun _ => m_rem hm (fun h6 hm6 t6 _ => ⟨20, fr6 (a := a) (b := b) (by omega) (by omega) hm6 t6 d1 (fun h7 hm7 f7 => ⟨by rw [e7, f7], _, _, _, _, _, _, hc7, hm7⟩) 20 0 h6 (by decide) (by decide) (fun _ _ => rfl) hm6.1.1⟩), fun z => absurd d z⟩, fun z => absurd z i10⟩⟩
      · unfold B_X6_frames_0
        rw [em, es2]
        exact s_in_y (lo := 0) (hi := 524287) (by omega) ha (by decide) ⟨fun z => absurd z i10, fun _ => s_in_y (lo := 0) (hi := 524287) (by omega) hb (by decide) ⟨fun _ => ⟨fun z => absurd z d, fun _ => ⟨rfl, hI0⟩⟩, fun z => absurd z i10⟩⟩
    · have bad : B_X6_frames_0 (fun r2 h3 => -1 = r2 ∧ Inv0 g h3) (nI a) x2 h := by
        unfold B_X6_frames_0 B_X6_frames_20
        exact s_in_y (lo := 0) (hi := 524287) (by omega) ha (by decide) ⟨fun z => absurd z i10, fun _ => s_in_n (lo := 0) (hi := 524287) (by decide) (by decide) hy ⟨fun z => absurd rfl z, fun _ => ⟨rfl, hI0⟩⟩⟩
      unfold B_X5_frames_0 B_X5_frames_20
      exact ⟨fun _ => bad, fun _ => ⟨fun _ => bad, fun _ => ⟨fun _ => bad, fun c1 => ⟨fun c2 => (out_no (lo := 0) (hi := 524287) (by decide) (by decide) hy c1 (Int32.not_lt.mpr c2)).elim, fun _ => bad⟩⟩⟩⟩
  · have bad : B_X6_frames_0 (fun r2 h3 => -1 = r2 ∧ Inv0 g h3) x1 x2 h := by
      unfold B_X6_frames_0 B_X6_frames_20
      exact s_in_n (lo := 0) (hi := 524287) (by decide) (by decide) hx ⟨fun _ => ⟨rfl, hI0⟩, fun z => absurd rfl z⟩
    unfold B_X5_frames_0 B_X5_frames_20
    exact ⟨fun _ => bad, fun c1 => ⟨fun _ => bad, fun c2 => (out_no (lo := 0) (hi := 524287) (by decide) (by decide) hx c1 c2).elim⟩⟩
