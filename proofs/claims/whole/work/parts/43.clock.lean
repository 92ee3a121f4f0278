/-! the clock asked, and how many times are close -/
theorem neg_d : ∀ q, q < 24 → ∀ s, s < 60 → 0 < 60 * q + s → jrem (nI 0 - nI (60 * q + s)) 1440 = nI 0 - nI (60 * q + s) ∧ ¬ 0 ≤ ((nI 0 - nI (60 * q + s)) ^^^ 1440) ∧ ¬ (nI 0 - nI (60 * q + s)) = 0 ∧ (nI 0 - nI (60 * q + s)) + 1440 = nI (1440 - (60 * q + s)) := by decide +kernel
theorem sub_neg {a b : Nat} (h : a ≤ b) : nI a - nI b = nI 0 - nI (b - a) := by
  have e : nI b = nI (b - a) + nI a := by rw [nI_add]; congr 1; omega
  rw [e, Int32.sub_eq_add_neg, Int32.neg_add, Int32.sub_eq_add_neg, Int32.add_comm (-nI (b - a)), ← Int32.add_assoc, ← Int32.sub_eq_add_neg, ← Int32.sub_eq_add_neg, Int32.sub_self]
  rfl
theorem fl_mod {post : Int32 → Prop} {a b : Nat} (ha : a < 1440) (hb : b < 1440) (h : post (nI ((a + 1440 - b) % 1440))) : B_J9_floorMod_7cf53_0 post (nI a - nI b) 1440 := by
  unfold B_J9_floorMod_7cf53_0 B_J9_floorMod_7cf53_18
  refine ⟨by decide, fun z1 e1 => ?_⟩
  by_cases hab : b ≤ a
  · rw [nj_sub hab, nl 1440, nj_rem (by omega) (by decide) (by decide), show (a - b) % 1440 = (a + 1440 - b) % 1440 by omega] at e1
    have hx : (a - b) ^^^ 1440 < 2 ^ 11 := Nat.xor_lt_two_pow (by omega) (by decide)
    have e2 : (nI a - nI b) ^^^ 1440 = nI ((a - b) ^^^ 1440) := by rw [nj_sub hab, nl 1440, nj_xor]
    have le0 : (0 : Int32) ≤ nI ((a - b) ^^^ 1440) := (nj_le (a := 0) (by decide) (by omega)).mpr (Nat.zero_le _)
    rw [e2, e1]
    exact ⟨fun _ => h, fun z => absurd le0 z⟩
  · obtain ⟨d, hd⟩ : ∃ d, b - a = d := ⟨_, rfl⟩
    have key := neg_d (d / 60) (by omega) (d % 60) (by omega) (by omega)
    rw [show 60 * (d / 60) + d % 60 = d by omega] at key
    rw [sub_neg (show a ≤ b by omega), hd] at e1 ⊢
    rw [key.1] at e1
    refine ⟨fun z => absurd z key.2.1, fun _ => ⟨fun z => absurd (e1 ▸ z) key.2.2.1, fun _ => ?_⟩⟩
    rw [e1, key.2.2.2, show 1440 - d = (a + 1440 - b) % 1440 by omega]
    exact h
theorem md_mod {a b : Nat} (ha : a < 1440) (hb : b < 1440) : jrem ((nI a - nI b) + 1440) 1440 = nI ((a + 1440 - b) % 1440) := by
  have e : (nI a - nI b) + 1440 = nI (a + 1440 - b) := by
    rw [Int32.sub_eq_add_neg, Int32.add_assoc, Int32.add_comm (-nI b), ← Int32.add_assoc, ← Int32.sub_eq_add_neg, nl 1440, nI_add, nj_sub (by omega)]
  rw [e, nl 1440, nj_rem (by omega) (by decide) (by decide)]
/-- how far the clock is from the last frame -/
def apV (r : Nat → Nat) (t : Nat) : Int32 := if cnN (r 0) (syR r) = 0 then -1000000 else (if (t / 8 + 1440 - laN (r 0) (syR r) / 8) % 1440 ≤ 720 then nI ((t / 8 + 1440 - laN (r 0) (syR r) / 8) % 1440) else nI ((t / 8 + 1440 - laN (r 0) (syR r) / 8) % 1440) - 1440)
section AP
variable {r : Nat → Nat} {R : Nat → Nat → Nat} {u c : Nat} {I : Nat → Nat → Nat} {kp : Nat → Nat}
theorem c_apart {post : Int32 → SG → Prop} {g : SG} {t : Nat} (ht : r 3 = t + 1) (hI : CI g r R u c I kp) (h : ∀ g' : SG, CI g' r R u c I kp → post (apV r t) g') : B_X5_apart_0 post g := by
  have hc6 := cnN_le (sy := syR r) hI.1.2.1
  have o3 := hI.1.2.2.2.2.1
  have hla := laN_lt (r 0) (syR r)
  unfold B_X5_apart_0 B_X5_apart_59 B_X3_minuteOf_0
  have p : ∀ v : Int32, apV r t = v → ∀ g' : SG, CI g' r R u c I kp → post v g' := fun v e g' hc => e ▸ h g' hc
  unfold apV at p
  refine c_frames hI (fun g1 h1 f1 _ => ?_)
  have e3 : g1 20 3 = nI t := by
    have : g1 20 3 = clkC (r 3) := h1.1.1.2.2.2.1
    rw [this, ht]; rfl
  rw [f1.2.1, e3]
  refine ⟨fun d => c_vote h1 (fun g4 h4 v4 _ _ z6 e6 => ?_), fun d => p _ ?_ g1 h1⟩
  · have d : ¬ cnN (r 0) (syR r) = 0 := fun z => d (by rw [z]; rfl)
    rw [v4.2.2.2.2, nl 8, nj_div (by omega) (by decide) (by decide), nj_div (by omega) (by decide) (by decide)] at e6
    subst e6
    refine fl_mod (by omega) (by omega) ⟨fun e => p _ ?_ g4 h4, fun e => p _ ?_ g4 h4⟩
    · have e := (nj_le (b := 720) (by omega) (by decide)).mp e
      rw [if_neg d, if_pos e]
    · have e : ¬ (t / 8 + 1440 - laN (r 0) (syR r) / 8) % 1440 ≤ 720 := fun z => e ((nj_le (b := 720) (by omega) (by decide)).mpr z)
      rw [if_neg d, if_neg e]
  · have d : cnN (r 0) (syR r) = 0 := (nj_eq (b := 0) (by omega) (by decide)).mp d
    rw [if_pos d]
theorem m_apart {post : Int32 → SG → Prop} {g : SG} {t : Nat} (ht : r 3 = t + 1) (hI : MI g r R u c I kp) (h : ∀ g' : SG, MI g' r R u c I kp → post (apV r t) g') : B_X6_apart_0 post g := by
  have hn := hI.1.2.1
  have hc6 := cnN_le (sy := syR r) hn
  have o3 := hI.1.2.2.2.2.1
  have hla := laN_lt (r 0) (syR r)
  unfold B_X6_apart_0 B_X6_apart_56
  have p : ∀ v : Int32, apV r t = v → ∀ g' : SG, MI g' r R u c I kp → post v g' := fun v e g' hc => e ▸ h g' hc
  unfold apV at p
  refine m_tells hI (fun g1 h1 t1 _ _ => ?_)
  have e3 : g1 1 3 = nI t := by
    have : g1 1 3 = clkM (r 3) := h1.1.1.2.2.2.1
    rw [this, ht]; rfl
  rw [t1.1.2.1, e3]
  refine ⟨fun d => s_last6 hn t1 (fun z4 e4 => ?_), fun d => p _ ?_ g1 h1⟩
  · have d : ¬ cnN (r 0) (syR r) = 0 := fun z => d (by rw [z]; rfl)
    rw [nl 8, nj_div (by omega) (by decide) (by decide), nj_div (by omega) (by decide) (by decide), md_mod (by omega) (by omega)] at e4
    subst e4
    refine ⟨fun e => p _ ?_ g1 h1, fun e => p _ ?_ g1 h1⟩
    · have e := (nj_le (b := 720) (by omega) (by decide)).mp e
      rw [if_neg d, if_pos e]
    · have e : ¬ (t / 8 + 1440 - laN (r 0) (syR r) / 8) % 1440 ≤ 720 := fun z => e ((nj_le (b := 720) (by omega) (by decide)).mpr z)
      rw [if_neg d, if_neg e]
  · have d : cnN (r 0) (syR r) = 0 := (nj_eq (b := 0) (by omega) (by decide)).mp d
    rw [if_pos d]
end AP
def cloV (r : Nat → Nat) (t k : Nat) : Int32 := if k < 4 then nI (partN t k) else if k = 4 then nI (r 4) else if k = 5 then nI (r 2) * nI (r 4) else if k = 6 then (if nI (r 2) * nI (r 4) ≤ 500 then 0 else 1) else apV r t
theorem sim_clock (g h : SG) (x1 : Int32) (hI : Inv0 g h) : B_X5_clock_0 (fun r g3 => B_X6_clock_0 (fun r2 h3 => r = r2 ∧ Inv0 g3 h3) x1 h) x1 g := by
  have hI0 := hI
  obtain ⟨r, R, u, c, I, kp, hc, hm⟩ := hI
  have ec : g 20 3 = clkC (r 3) := hc.1.1.2.2.2.1
  have em : h 1 3 = clkM (r 3) := hm.1.1.2.2.2.1
  have c2 : g 20 2 = nI (r 2) := hc.1.1.2.2.1
  have c4 : g 20 4 = nI (r 4) := hc.1.1.2.2.2.2.1
  have n2 : h 1 2 = nI (r 2) := hm.1.1.2.2.1
  have n4 : h 1 4 = nI (r 4) := hm.1.1.2.2.2.2.1
  have o3 := hc.1.2.2.2.2.1
  by_cases hx : ∃ k, 0 ≤ k ∧ k ≤ 7 ∧ x1 = nI k
  · obtain ⟨k, _, hk, rfl⟩ := hx
    have hla : ¬ 7 < nI k := fun z => absurd ((nj_lt (a := 7) (by decide) (by omega)).mp z) (by omega)
    cases hr3 : r 3 with
    | zero =>
      rw [hr3] at ec em
      have e1 : g 20 3 = -1 := ec
      have e9 : h 1 3 = -9 := em
      unfold B_X5_clock_0 B_X5_clock_21
      refine ⟨fun z => absurd z (ge0 (by omega)), fun _ => ⟨fun z => absurd z hla, fun _ => ⟨fun z => absurd e1 z, fun _ => ?_⟩⟩⟩
      unfold B_X6_clock_0 B_X6_clock_21
      exact s_in_y (lo := 0) (hi := 7) (by omega) hk (by decide) ⟨fun z => absurd z i10, fun _ => ⟨fun z => absurd e9 z, fun _ => ⟨rfl, hI0⟩⟩⟩
    | succ t =>
      rw [hr3] at ec em
      have e1 : g 20 3 = nI t := ec
      have e9 : h 1 3 = nI t := em
      have mod6 : ∀ g3 : SG, CI g3 r R u c I kp → B_X6_clock_0 (fun r2 h3 => cloV r t k = r2 ∧ Inv0 g3 h3) (nI k) h := by
        intro g3 hc3
        have q : ∀ v : Int32, cloV r t k = v → ∀ h' : SG, MI h' r R u c I kp → (cloV r t k = v ∧ Inv0 g3 h') := fun v e h' hm' => ⟨e, _, _, _, _, _, _, hc3, hm'⟩
        unfold B_X6_clock_0 B_X6_clock_89
        rw [e9, n2, n4, nj_ti (by omega)]
        refine s_in_y (lo := 0) (hi := 7) (by omega) hk (by decide) ⟨fun z => absurd z i10, fun _ => ⟨fun _ z4 e4 => ?_, fun z => absurd z (n9 (by omega))⟩⟩
        subst e4
        refine ⟨fun d => s_part6 (by omega) (by omega) (q _ ?_ h hm), fun d => q _ ?_ h hm, fun d => q _ ?_ h hm, fun d => ⟨fun e => q _ ?_ h hm, fun e => q _ ?_ h hm⟩, fun d => m_apart hr3 hm (fun h' hm' => q _ ?_ h' hm')⟩
        · unfold cloV; rw [if_pos (by omega)]
        · unfold cloV; rw [if_neg (by omega), if_pos (by omega)]
        · unfold cloV; rw [if_neg (by omega), if_neg (by omega), if_pos (by omega)]
        · unfold cloV; rw [if_neg (by omega), if_neg (by omega), if_neg (by omega), if_pos (by omega), if_pos e]
        · unfold cloV; rw [if_neg (by omega), if_neg (by omega), if_neg (by omega), if_pos (by omega), if_neg e]
        · unfold cloV; rw [if_neg (by omega), if_neg (by omega), if_neg (by omega), if_neg (by omega)]
      have p : ∀ v : Int32, cloV r t k = v → ∀ g3 : SG, CI g3 r R u c I kp → B_X6_clock_0 (fun r2 h3 => v = r2 ∧ Inv0 g3 h3) (nI k) h := fun v e g3 hc3 => e ▸ mod6 g3 hc3
      unfold B_X5_clock_0 B_X5_clock_84 B_X5_drifted_0
      rw [e1, c2, c4, nj_ti (by omega)]
      refine ⟨fun z => absurd z (ge0 (by omega)), fun _ => ⟨fun z => absurd z hla, fun _ => ⟨fun _ => ⟨fun d => s_part3 (by omega) (by omega) (p _ ?_ g hc), fun d => p _ ?_ g hc, fun d => p _ ?_ g hc, fun d => ⟨fun e => p _ ?_ g hc, fun e => p _ ?_ g hc⟩, fun d => c_apart hr3 hc (fun g' hc' => p _ ?_ g' hc')⟩, fun z => absurd z (n1 (by omega))⟩⟩⟩
      · unfold cloV; rw [if_pos (by omega)]
      · unfold cloV; rw [if_neg (by omega), if_pos (by omega)]
      · unfold cloV; rw [if_neg (by omega), if_neg (by omega), if_pos (by omega)]
      · unfold cloV; rw [if_neg (by omega), if_neg (by omega), if_neg (by omega), if_pos (by omega), if_pos e]
      · unfold cloV; rw [if_neg (by omega), if_neg (by omega), if_neg (by omega), if_pos (by omega), if_neg e]
      · unfold cloV; rw [if_neg (by omega), if_neg (by omega), if_neg (by omega), if_neg (by omega)]
  · have bad : B_X6_clock_0 (fun r2 h3 => -1000000 = r2 ∧ Inv0 g h3) x1 h := by
      unfold B_X6_clock_0 B_X6_clock_21
      exact s_in_n (lo := 0) (hi := 7) (by decide) (by decide) hx ⟨fun _ => ⟨rfl, hI0⟩, fun z => absurd rfl z⟩
    unfold B_X5_clock_0 B_X5_clock_21
    exact ⟨fun _ => bad, fun c1 => ⟨fun _ => bad, fun c2 => (out_no (lo := 0) (hi := 7) (by decide) (by decide) hx c1 c2).elim⟩⟩
/-! close -/
def clA (m : Nat → Nat) (w k : Nat) : Nat → Nat → Nat → Int32
  | 0, _, _ => -9
  | f + 1, t, n => if m t ≤ w then (if n = k then nI t else clA m w k f (t + 1) (n + 1)) else clA m w k f (t + 1) n
def ccA (m : Nat → Nat) (w : Nat) : Nat → Nat → Nat → Nat
  | 0, _, n => n
  | f + 1, t, n => if m t ≤ w then ccA m w f (t + 1) (n + 1) else ccA m w f (t + 1) n
theorem ct5 {post : Int32 → Prop} {g : SG} {m : Nat → Nat} (hm : ∀ t, m t ≤ 114) (hA : mA g m) {w k : Nat} (hw : w ≤ 120) (hk : k < 2147483648) : ∀ (f t n : Nat), f + t = 11520 → n ≤ t → post (clA m w k f t n) → P_X4_closeTime_5 post g (f + 1) (nI w) (nI k) (nI n) (nI t) := by
  intro f
  induction f with
  | zero =>
    intro t n ht hn h
    show B_X4_closeTime_5 post (P_X4_closeTime_5 post g 0) (nI w) (nI k) (nI n) (nI t) g
    have : t = 11520 := by omega
    subst this
    unfold B_X4_closeTime_5
    exact ⟨fun _ => h, fun z => absurd (show (11520 : Int32) ≤ nI 11520 by decide) z⟩
  | succ f ih =>
    intro t n ht hn h
    have hmt := hm t
    show B_X4_closeTime_5 post (P_X4_closeTime_5 post g (f + 1)) (nI w) (nI k) (nI n) (nI t) g
    unfold B_X4_closeTime_5 B_X4_closeTime_34
    unfold clA at h
    have z1e : ∀ z : Int32, z = nI t + 1 → z = nI (t + 1) := fun z e => by rw [e, nl 1, nI_add]
    refine ⟨fun z => absurd ((nj_le (a := 11520) (by decide) (by omega)).mp z) (by omega), fun _ => hA _ t (by omega) ⟨fun d z1 e1 => ?_, fun d => ⟨fun e z4 e4 z1 e1 => ?_, fun e => ?_⟩⟩⟩
    · have d := (nj_lt (by omega) (by omega)).mp d
      rw [if_neg (by omega)] at h
      rw [z1e z1 e1]
      exact ih (t + 1) n (by omega) (by omega) h
    · have d : ¬ w < m t := fun z => d ((nj_lt (by omega) (by omega)).mpr z)
      have e : ¬ n = k := fun z => e (by rw [z])
      rw [if_pos (by omega), if_neg e] at h
      have e4 : z4 = nI (n + 1) := by rw [e4, nl 1, nI_add]
      rw [z1e z1 e1, e4]
      exact ih (t + 1) (n + 1) (by omega) (by omega) h
    · have d : ¬ w < m t := fun z => d ((nj_lt (by omega) (by omega)).mpr z)
      have e : n = k := (nj_eq (by omega) hk).mp e
      rw [if_pos (by omega), if_pos e] at h
      exact h
theorem cc4 {post : Int32 → Prop} {g : SG} {m : Nat → Nat} (hm : ∀ t, m t ≤ 114) (hA : mA g m) {w : Nat} (hw : w ≤ 120) : ∀ (f t n : Nat), f + t = 11520 → n ≤ t → post (nI (ccA m w f t n)) → P_X4_closeCount_4 post g (f + 1) (nI w) (nI n) (nI t) := by
  intro f
  induction f with
  | zero =>
    intro t n ht hn h
    show B_X4_closeCount_4 post (P_X4_closeCount_4 post g 0) (nI w) (nI n) (nI t) g
    have : t = 11520 := by omega
    subst this
    unfold B_X4_closeCount_4
    exact ⟨fun _ => h, fun z => absurd (show (11520 : Int32) ≤ nI 11520 by decide) z⟩
  | succ f ih =>
    intro t n ht hn h
    have hmt := hm t
    show B_X4_closeCount_4 post (P_X4_closeCount_4 post g (f + 1)) (nI w) (nI n) (nI t) g
    unfold B_X4_closeCount_4 B_X4_closeCount_23
    unfold ccA at h
    have z1e : ∀ z : Int32, z = nI t + 1 → z = nI (t + 1) := fun z e => by rw [e, nl 1, nI_add]
    refine ⟨fun z => absurd ((nj_le (a := 11520) (by decide) (by omega)).mp z) (by omega), fun _ => hA _ t (by omega) ⟨fun d z1 e1 => ?_, fun d z4 e4 z1 e1 => ?_⟩⟩
    · have d := (nj_lt (by omega) (by omega)).mp d
      rw [if_neg (by omega)] at h
      rw [z1e z1 e1]
      exact ih (t + 1) n (by omega) (by omega) h
    · have d : ¬ w < m t := fun z => d ((nj_lt (by omega) (by omega)).mpr z)
      rw [if_pos (by omega)] at h
      have e4 : z4 = nI (n + 1) := by rw [e4, nl 1, nI_add]
      rw [z1e z1 e1, e4]
      exact ih (t + 1) (n + 1) (by omega) (by omega) h
/-- the reference's loop, at a time asked for or none -/
theorem cl26 {post : Int32 → SG → Prop} {g : SG} {m : Nat → Nat} (hm : ∀ t, m t ≤ 114) (h7 : ∀ t, t < 11520 → g 7 t = nI (m t)) {w : Nat} (hw : w ≤ 120) {x2 : Int32} {F : Nat → Nat → Nat → Int32} (hF : (∃ k, k < 2147483648 ∧ x2 = nI k ∧ F = clA m w k) ∨ (x2 = -1 ∧ F = fun f t n => nI (ccA m w f t n))) : ∀ (f t n : Nat), f + t = 11520 → n ≤ t → post (F f t n) g → P_X6_close_26 post (f + 1) (nI w) x2 (nI n) (nI t) g := by
  intro f
  induction f with
  | zero =>
    intro t n ht hn h
    show B_X6_close_26 post (P_X6_close_26 post 0) (nI w) x2 (nI n) (nI t) g
    have : t = 11520 := by omega
    subst this
    unfold B_X6_close_26 B_X6_close_72
    refine ⟨fun _ => ?_, fun z => absurd (show (11520 : Int32) ≤ nI 11520 by decide) z⟩
    rcases hF with ⟨k, hk, rfl, rfl⟩ | ⟨rfl, rfl⟩
    · exact ⟨fun _ => h, fun z => absurd ((nj_le (a := 0) (by decide) hk).mpr (Nat.zero_le _)) z⟩
    · exact ⟨fun z => absurd z (by decide), fun _ => h⟩
  | succ f ih =>
    intro t n ht hn h
    have hmt := hm t
    show B_X6_close_26 post (P_X6_close_26 post (f + 1)) (nI w) x2 (nI n) (nI t) g
    unfold B_X6_close_26 B_X6_close_56
    rw [nj_cl (by omega), h7 t (by omega)]
    have z1e : ∀ z : Int32, z = nI t + 1 → z = nI (t + 1) := fun z e => by rw [e, nl 1, nI_add]
    refine ⟨fun z => absurd ((nj_le (a := 11520) (by decide) (by omega)).mp z) (by omega), fun _ => ⟨nj_in (by omega) (by decide), fun d z1 e1 => ?_, fun d => ⟨fun e z4 e4 z1 e1 => ?_, fun e => ?_⟩⟩⟩
    · have d := (nj_lt (by omega) (by omega)).mp d
      rw [z1e z1 e1]
      refine ih (t + 1) n (by omega) (by omega) ?_
      rcases hF with ⟨k, hk, rfl, rfl⟩ | ⟨rfl, rfl⟩
      · unfold clA at h
        rw [if_neg (by omega)] at h
        exact h
      · dsimp only at h ⊢
        unfold ccA at h
        rw [if_neg (by omega)] at h
        exact h
    · have d : ¬ w < m t := fun z => d ((nj_lt (by omega) (by omega)).mpr z)
      have e4 : z4 = nI (n + 1) := by rw [e4, nl 1, nI_add]
      rw [z1e z1 e1, e4]
      refine ih (t + 1) (n + 1) (by omega) (by omega) ?_
      rcases hF with ⟨k, hk, rfl, rfl⟩ | ⟨rfl, rfl⟩
      · have e : ¬ n = k := fun z => e (by rw [z])
        unfold clA at h
        rw [if_pos (by omega), if_neg e] at h
        exact h
      · dsimp only at h ⊢
        unfold ccA at h
        rw [if_pos (by omega)] at h
        exact h
    · have d : ¬ w < m t := fun z => d ((nj_lt (by omega) (by omega)).mpr z)
      rcases hF with ⟨k, hk, rfl, rfl⟩ | ⟨rfl, rfl⟩
      · have e : n = k := (nj_eq (by omega) hk).mp e
        unfold clA at h
        rw [if_pos (by omega), if_pos e] at h
        exact h
      · exact absurd e (n1 (by omega))
theorem m1_of {x : Int32} (h : (-1 : Int32) ≤ x) (hn : ¬ x = -1) : ∃ k, k < 2147483648 ∧ x = nI k := by
  refine nI_of (fun z => hn ?_)
  rw [Int32.le_iff_toInt_le] at h
  rw [Int32.lt_iff_toInt_lt] at z
  have e0 : (0 : Int32).toInt = 0 := rfl
  have e1 : (-1 : Int32).toInt = -1 := by decide
  exact Int32.toInt_inj.mp (by omega)
theorem sim_close (g h : SG) (x1 x2 : Int32) (hI : Inv0 g h) : B_X5_close_0 (fun r g3 => B_X6_close_0 (fun r2 h3 => r = r2 ∧ Inv0 g3 h3) x1 x2 h) x1 x2 g := by
  have hI0 := hI
  obtain ⟨r, R, u, c, I, kp, hc, hm⟩ := hI
  have hms : ∀ t, misN (r 0) (syR r) t ≤ 114 := misN_le hc.1.2.1
  by_cases hx : ∃ k, 0 ≤ k ∧ k ≤ 120 ∧ x1 = nI k
  · obtain ⟨w, _, hw, rfl⟩ := hx
    have hla : ¬ 120 < nI w := fun z => absurd ((nj_lt (a := 120) (by decide) (by omega)).mp z) (by omega)
    unfold B_X5_close_0 B_X5_close_15 B_X5_close_41
    refine ⟨fun z => absurd z (ge0 (by omega)), fun _ => ⟨fun z => absurd z hla, fun _ => ⟨fun d => ?_, fun d => ?_⟩⟩⟩
    · have mod6 : ∀ F : Nat → Nat → Nat → Int32, ((∃ k, k < 2147483648 ∧ x2 = nI k ∧ F = clA (misN (r 0) (syR r)) w k) ∨ (x2 = -1 ∧ F = fun f t n => nI (ccA (misN (r 0) (syR r)) w f t n))) → ∀ g3 : SG, CI g3 r R u c I kp → B_X6_close_0 (fun r2 h3 => F 11520 0 0 = r2 ∧ Inv0 g3 h3) (nI w) x2 h := by
        intro F hF g3 hc3
        unfold B_X6_close_0
        refine s_in_y (lo := 0) (hi := 120) (by omega) hw (by decide) ⟨fun z => absurd z i10, fun _ => ⟨fun _ => m_tells hm (fun h4 hm4 t4 _ _ => ⟨11520 + 1, ?_⟩), fun z => absurd d z⟩⟩
        exact cl26 hms t4.2.1 hw hF 11520 0 0 rfl (Nat.le_refl _) ⟨rfl, _, _, _, _, _, _, hc3, hm4⟩
      refine c_vote hc (fun g4 hc4 v4 _ _ => ⟨fun e => ?_, fun e => ?_⟩)
      · obtain ⟨k, hk, rfl⟩ := m1_of d e
        exact ⟨11520 + 1, ct5 hms (s_mA hc.1.2.1 v4.1) hw hk 11520 0 0 rfl (Nat.le_refl _) (mod6 _ (Or.inl ⟨k, hk, rfl, rfl⟩) g4 hc4)⟩
      · subst e
        exact ⟨11520 + 1, cc4 hms (s_mA hc.1.2.1 v4.1) hw 11520 0 0 rfl (Nat.le_refl _) (mod6 (fun f t n => nI (ccA (misN (r 0) (syR r)) w f t n)) (Or.inr ⟨rfl, rfl⟩) g4 hc4)⟩
    · unfold B_X6_close_0 B_X6_close_15
      exact s_in_y (lo := 0) (hi := 120) (by omega) hw (by decide) ⟨fun z => absurd z i10, fun _ => ⟨fun z => absurd z d, fun _ => ⟨rfl, hI0⟩⟩⟩
  · have bad : B_X6_close_0 (fun r2 h3 => -1 = r2 ∧ Inv0 g h3) x1 x2 h := by
      unfold B_X6_close_0 B_X6_close_15
      exact s_in_n (lo := 0) (hi := 120) (by decide) (by decide) hx ⟨fun _ => ⟨rfl, hI0⟩, fun z => absurd rfl z⟩
    unfold B_X5_close_0 B_X5_close_15
    exact ⟨fun _ => bad, fun c1 => ⟨fun _ => bad, fun c2 => (out_no (lo := 0) (hi := 120) (by decide) (by decide) hx c1 c2).elim⟩⟩
