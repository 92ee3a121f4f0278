/-! times by their numbers: the bits of a frame, the next one; both sides' static methods -/
theorem nk_shr {a : Nat} (k d : Nat) (hd : 2 ^ k = d) (ha : a < 2147483648) (hk : k < 32) : jshr (nI a) (nI k) = nI (a / d) := by rw [nj_shr ha hk, hd]
theorem nk_shl {a : Nat} (k d : Nat) (hd : 2 ^ k = d) (hk : k < 32) (h : a * d < 4294967296) : jshl (nI a) (nI k) = nI (a * d) := by
  subst hd; exact nj_shl hk h
def sgN (s : Nat) : Nat := s / 2 % 2 * 2 + s % 2 * 4 + s / 4 % 2 * 8
def fgN (m : Nat) : Nat := m % 10 * 16 + m / 10 * 256
def fhN (h : Nat) : Nat := h % 10 * 4096 + h / 10 * 65536
def loN (m : Nat) : Nat := fgN m + pop (fgN m) % 2 * 2048
def hiN (h : Nat) : Nat := fhN h + pop (fhN h) % 2 * 262144
def bitsN (t : Nat) : Nat := sgN (t % 8) + loN (t / 8 % 60) + hiN (t / 8 / 60)
def nextN (t : Nat) : Nat :=
  if ¬ (t / 8 + 1) % 1440 % 60 = 0 then 8 * ((t / 8 + 1) % 1440) + t % 8
  else if t / 2 % 2 = 1 then (if t / 4 % 2 = 1 then 8 * (((t / 8 + 1) % 1440 + 1380) % 1440) else 8 * (((t / 8 + 1) % 1440 + 60) % 1440) + 4)
  else 8 * ((t / 8 + 1) % 1440) + 4 * (t / 4 % 2)
def laterN (t : Nat) : Nat → Nat
  | 0 => t
  | n + 1 => nextN (laterN t n)
theorem nextN_lt {t : Nat} (h : t < 11520) : nextN t < 11520 := by
  unfold nextN
  split
  · omega
  · split
    · split <;> omega
    · omega
theorem laterN_lt {t : Nat} (h : t < 11520) : ∀ n, laterN t n < 11520
  | 0 => h
  | n + 1 => nextN_lt (laterN_lt h n)
theorem tab_sl : ∀ s, s < 8 → ∀ m, m < 60 → (((s / 2 % 2 * 2 ||| s % 2 * 4) ||| s / 4 % 2 * 8) ||| (m % 10 * 16 ||| m / 10 * 256)) ||| pop (fgN m) % 2 * 2048 = sgN s + loN m ∧ sgN s + loN m < 4096 := by decide +kernel
theorem tab_lo : ∀ m, m < 60 → (m % 10 * 16 ||| m / 10 * 256) = fgN m ∧ fgN m < 2048 := by decide +kernel
theorem tab_hi : ∀ h, h < 24 → (h % 10 * 4096 ||| h / 10 * 65536) = fhN h ∧ fhN h < 262144 ∧ (fhN h ||| pop (fhN h) % 2 * 262144) = hiN h ∧ hiN h < 524288 ∧ hiN h % 4096 = 0 := by decide +kernel
theorem bitsN_lt {t : Nat} (ht : t < 11520) : bitsN t < 524288 := by
  have h1 := (tab_sl (t % 8) (by omega) (t / 8 % 60) (by omega)).2
  have h2 := (tab_hi (t / 8 / 60) (by omega)).2.2.2
  unfold bitsN
  omega
theorem or_hi {a b : Nat} (ha : a < 4096) (hb : b % 4096 = 0) : a ||| b = a + b := by
  have := Nat.two_pow_add_eq_or_of_lt (i := 12) (b := a) ha (b / 4096)
  rw [show 2 ^ 12 * (b / 4096) = b from by rw [show (2 : Nat) ^ 12 = 4096 from rfl]; omega] at this
  rw [Nat.or_comm, ← this]
  omega
theorem post_eq {post : Int32 → Prop} {a b : Nat} (e : a = b) (h : post (nI a)) : post (nI b) := e ▸ h
theorem s_bits3 {post : Int32 → Prop} {t : Nat} (ht : t < 11520) (h : post (nI (bitsN t))) : B_X3_bitsOf_0 post (nI t) := by
  have hs := tab_sl (t % 8) (by omega) (t / 8 % 60) (by omega)
  have hl := tab_lo (t / 8 % 60) (by omega)
  have hh := tab_hi (t / 8 / 60) (by omega)
  have p1 := pop_le (fgN (t / 8 % 60))
  have p2 := pop_le (fhN (t / 8 / 60))
  unfold B_X3_bitsOf_0 B_X3_minuteOf_0 B_X3_shiftOf_0 B_X3_leapOf_0 B_X3_summerOf_0
  intro z2 e2 z4 e4
  have e2 : z2 = nI (t / 8 % 60) := by rw [e2, nl 8, nl 60, nj_div (by omega) (by decide) (by decide), nj_rem (by omega) (by decide) (by decide)]
  have e4 : z4 = nI (t / 8 / 60) := by rw [e4, nl 8, nl 60, nj_div (by omega) (by decide) (by decide), nj_div (by omega) (by decide) (by decide)]
  subst e2 e4
  intro z8 e8 z9 e9 z10 e10
  have e8 : z8 = nI ((t % 8 / 2 % 2 * 2 ||| t % 8 % 2 * 4) ||| t % 8 / 4 % 2 * 8) := by
    rw [e8, nl 1, nl 2, nl 3, nk_shr 1 2 rfl (by omega) (by decide), nk_shr 2 4 rfl (by omega) (by decide), nj_and1, nj_and1, nj_and1, nk_shl 1 2 rfl (by decide) (by omega), nk_shl 2 4 rfl (by decide) (by omega), nk_shl 3 8 rfl (by decide) (by omega), nj_or, nj_or]
    rw [show t % 8 / 2 % 2 = t / 2 % 2 from by omega, show t % 8 % 2 = t % 2 from by omega, show t % 8 / 4 % 2 = t / 4 % 2 from by omega]
  have e9 : z9 = nI (fgN (t / 8 % 60)) := by
    rw [e9, nl 10, nl 4, nl 8, nj_rem (by omega) (by decide) (by decide), nj_div (by omega) (by decide) (by decide), nk_shl 4 16 rfl (by decide) (by omega), nk_shl 8 256 rfl (by decide) (by omega), nj_or, hl.1]
  have e10 : z10 = nI (fhN (t / 8 / 60)) := by
    rw [e10, nl 10, nl 12, nl 16, nj_rem (by omega) (by decide) (by decide), nj_div (by omega) (by decide) (by decide), nk_shl 12 4096 rfl (by decide) (by omega), nk_shl 16 65536 rfl (by decide) (by omega), nj_or, hh.1]
  subst e8 e9 e10
  refine s_bitCount (by omega) ?_
  intro z12 e12
  have e12 : z12 = nI (pop (fgN (t / 8 % 60)) % 2 * 2048) := by
    rw [e12, nl 2, nl 11, nj_rem (by omega) (by decide) (by decide), nk_shl 11 2048 rfl (by decide) (by omega)]
  subst e12
  refine s_bitCount (by omega) ?_
  intro z14 e14
  have e14 : z14 = nI (pop (fhN (t / 8 / 60)) % 2 * 262144) := by
    rw [e14, nl 2, nl 18, nj_rem (by omega) (by decide) (by decide), nk_shl 18 262144 rfl (by decide) (by omega)]
  subst e14
  have hs1 := hs.1
  rw [hl.1] at hs1
  rw [nj_or, nj_or, nj_or, nj_or, Nat.or_assoc, hh.2.2.1, hs1, or_hi hs.2 hh.2.2.2.2]
  exact h
theorem s_next3 {post : Int32 → Prop} {t : Nat} (ht : t < 11520) (h : post (nI (nextN t))) : B_X3_next_0 post (nI t) := by
  unfold B_X3_next_0 B_X3_minuteOf_0
  intro z2 e2
  have e2 : z2 = nI ((t / 8 + 1) % 1440) := by rw [e2, nl 8, nl 1, nl 1440, nj_div (by omega) (by decide) (by decide), nI_add, nj_rem (by omega) (by decide) (by decide)]
  subst e2
  have cz : jrem (nI ((t / 8 + 1) % 1440)) 60 = nI ((t / 8 + 1) % 1440 % 60) := by rw [nl 60, nj_rem (by omega) (by decide) (by decide)]
  have csum : (jshr (nI t) 2 &&& 1) = nI (t / 4 % 2) := by rw [nl 2, nl 1, nk_shr 2 4 rfl (by omega) (by decide), nj_and1]
  have cshi : (jshr (nI t) 1 &&& 1) = nI (t / 2 % 2) := by rw [nl 1, nk_shr 1 2 rfl (by omega) (by decide), nj_and1]
  rw [cz]
  refine ⟨fun c => ?_, fun c => ?_⟩
  · have c : (t / 8 + 1) % 1440 % 60 = 0 := (nj_eq (by omega) (by decide)).mp c
    unfold B_X3_summerOf_0 B_X3_shiftOf_0
    rw [csum, cshi]
    refine ⟨fun d => ?_, fun d => ?_⟩
    · have d : ¬ t / 2 % 2 = 1 := fun z => d (by rw [z]; rfl)
      unfold B_X3_next_65 B_X3_of_0
      unfold nextN at h
      rw [if_neg (by omega), if_neg d] at h
      rw [nl 8, nl 4, nl 2, nl 0, pk_mul, pk_mul, pk_mul, nI_add, nI_add, nI_add]
      exact post_eq (by omega) h
    · have d : t / 2 % 2 = 1 := (nj_eq (by omega) (by decide)).mp d
      intro z7 e7
      have e7 : z7 = nI (1 - t / 4 % 2) := by rw [e7, nl 1, nj_sub (by omega)]
      subst e7
      unfold nextN at h
      rw [if_neg (by omega), if_pos d] at h
      refine ⟨fun q => ?_, fun q => ?_⟩
      · have q : t / 4 % 2 = 1 := by
          rcases (show t / 4 % 2 = 0 ∨ t / 4 % 2 = 1 by omega) with z | z
          · exact absurd (by rw [z]; rfl) q
          · exact z
        rw [if_pos q] at h
        unfold B_X3_next_59
        intro z1 e1
        have e1 : z1 = nI (((t / 8 + 1) % 1440 + 1380) % 1440) := by rw [e1, nl 1380, nl 1440, nI_add, nj_rem (by omega) (by decide) (by decide)]
        subst e1
        unfold B_X3_next_65 B_X3_of_0
        rw [nl 8, nl 4, nl 2, nl 0, q, pk_mul, pk_mul, pk_mul, nI_add, nI_add, nI_add]
        exact post_eq (by omega) h
      · have q : ¬ t / 4 % 2 = 1 := fun z => by
          rw [z] at q
          exact absurd ((nj_eq (by decide) (by decide)).mp q) (by decide)
        rw [if_neg q] at h
        unfold B_X3_next_59
        intro z1 e1
        have e1 : z1 = nI (((t / 8 + 1) % 1440 + 60) % 1440) := by rw [e1, nl 60, nl 1440, nI_add, nj_rem (by omega) (by decide) (by decide)]
        subst e1
        unfold B_X3_next_65 B_X3_of_0
        rw [nl 8, nl 4, nl 2, nl 0, show t / 4 % 2 = 0 by omega, pk_mul, pk_mul, pk_mul, nI_add, nI_add, nI_add]
        exact post_eq (by omega) h
  · have c : ¬ (t / 8 + 1) % 1440 % 60 = 0 := fun z => c (by rw [z]; rfl)
    unfold nextN at h
    rw [if_pos c] at h
    rw [nl 8, pk_mul, nj_rem (by omega) (by decide) (by decide), nI_add]
    exact h
theorem later3_loop {post : Int32 → Prop} (x0 : Int32) (N : Nat) (hN : N < 100000) : ∀ (f i t : Nat), i ≤ N → N - i < f → t < 11520 → post (nI (laterN t (N - i))) → P_X3_later_4 post f x0 (nI N) (nI t) (nI i) := by
  intro f
  induction f with
  | zero => intro i t _ h; exact absurd h (Nat.not_lt_zero _)
  | succ f ih =>
    intro i t hi hf ht h
    show B_X3_later_4 post (P_X3_later_4 post f) x0 (nI N) (nI t) (nI i)
    unfold B_X3_later_4
    refine ⟨fun c => ?_, fun c => ?_⟩
    · have c : N ≤ i := (nj_le (by omega) (by omega)).mp c
      rw [show N - i = 0 by omega] at h
      exact h
    · have c : ¬ N ≤ i := fun z => c ((nj_le (by omega) (by omega)).mpr z)
      refine s_next3 ht ?_
      intro z3 e3
      have e3 : z3 = nI (i + 1) := by rw [e3, nl 1, nI_add]
      subst e3
      refine ih (i + 1) (nextN t) (by omega) (by omega) (nextN_lt ht) ?_
      have hs : ∀ (k u : Nat), laterN (nextN u) k = laterN u (k + 1) := fun k u => by
        induction k with
        | zero => rfl
        | succ k ih => show nextN (laterN (nextN u) k) = nextN (laterN u (k + 1)); rw [ih]
      rw [hs, show N - (i + 1) + 1 = N - i by omega]
      exact h
theorem s_later3 {post : Int32 → Prop} {t n : Nat} (ht : t < 11520) (hn : n < 100000) (h : post (nI (laterN t n))) : B_X3_later_0 post (nI t) (nI n) :=
  ⟨n + 1, later3_loop _ n hn _ 0 t (Nat.zero_le _) (by omega) ht h⟩
theorem s_later3m {post : Int32 → Prop} {t : Nat} (h : post (nI t)) : B_X3_later_0 post (nI t) (nI 0 - 1) := by
  refine ⟨1, ?_⟩
  show B_X3_later_4 post (P_X3_later_4 post 0) (nI t) (nI 0 - 1) (nI t) 0
  unfold B_X3_later_4
  exact ⟨fun _ => h, fun c => absurd (by decide) c⟩
theorem s_min {post : Int32 → Prop} {a b : Nat} (ha : a < 2147483648) (hb : b < 2147483648) (h : post (nI (if b < a then b else a))) : B_J9_min_7cf53_0 post (nI a) (nI b) := by
  unfold B_J9_min_7cf53_0 B_J9_min_7cf53_10
  refine ⟨fun c => ?_, fun c => ?_⟩
  · rw [if_pos ((nj_lt hb ha).mp c)] at h; exact h
  · rw [if_neg (fun z => c ((nj_lt hb ha).mpr z))] at h; exact h
theorem nb0 : narrow .boolean (.int 0) = .int 0 := rfl
theorem nb1 : narrow .boolean (.int 1) = .int 1 := rfl
/-- a time's parts, told as ints -/
def isT (a b c d : Int32) : Prop := ∃ m s h l : Nat, m < 1440 ∧ s < 2 ∧ h < 2 ∧ l < 2 ∧ a = nI m ∧ b = nI s ∧ c = nI h ∧ d = nI l
theorem sgn_of {x : Int32} (h : x = 0 ∨ x = 1) : ∃ s : Nat, s < 2 ∧ x = nI s := by
  rcases h with h | h
  · exact ⟨0, by decide, h⟩
  · exact ⟨1, by decide, h⟩
theorem s_isSign {post : Int32 → Prop} {x : Int32} (h1 : (x = 0 ∨ x = 1) → post 1) (h0 : ¬ (x = 0 ∨ x = 1) → post 0) : B_X3_isSign_0 post x := by
  unfold B_X3_isSign_0 B_X3_isSign_9 B_X3_isSign_14
  exact ⟨fun c => ⟨nb1, h1 (Or.inl c)⟩, fun c => ⟨fun d => ⟨nb0, h0 (fun z => z.elim c d)⟩, fun d => ⟨nb1, h1 (Or.inr d)⟩⟩⟩
theorem s_isTime3 {post : Int32 → Prop} {a b c d : Int32} (h1 : isT a b c d → post 1) (h0 : ¬ isT a b c d → post 0) : B_X3_isTime_0 post a b c d := by
  unfold B_X3_isTime_0 B_X3_isTime_36 B_X3_isTime_37
  have no : ∀ {P : Prop}, (isT a b c d → P) → ¬ P → post 0 := fun f g => h0 (fun z => g (f z))
  refine ⟨fun c1 => ⟨nb0, h0 fun ⟨m, s, h, l, hm, hs, hh, hl, e1, e2, e3, e4⟩ => ?_⟩, fun c1 => ⟨fun c2 => ⟨nb0, h0 fun ⟨m, s, h, l, hm, hs, hh, hl, e1, e2, e3, e4⟩ => ?_⟩, fun c2 => ?_⟩⟩
  · subst e1; exact nI_pos (by omega) c1
  · subst e1; exact absurd ((nj_le (a := 1440) (by decide) (by omega)).mp c2) (by omega)
  · refine s_isSign (fun c3 => ⟨fun z => absurd z (by decide), fun _ => ?_⟩) (fun c3 => ⟨fun _ => ⟨nb0, h0 fun ⟨m, s, h, l, hm, hs, hh, hl, e1, e2, e3, e4⟩ => c3 ?_⟩, fun z => absurd rfl z⟩)
    · refine s_isSign (fun c4 => ⟨fun z => absurd z (by decide), fun _ => ?_⟩) (fun c4 => ⟨fun _ => ⟨nb0, h0 fun ⟨m, s, h, l, hm, hs, hh, hl, e1, e2, e3, e4⟩ => c4 ?_⟩, fun z => absurd rfl z⟩)
      · refine s_isSign (fun c5 => ⟨fun z => absurd z (by decide), fun _ => ⟨nb1, h1 ?_⟩⟩) (fun c5 => ⟨fun _ => ⟨nb0, h0 fun ⟨m, s, h, l, hm, hs, hh, hl, e1, e2, e3, e4⟩ => c5 ?_⟩, fun z => absurd rfl z⟩)
        · obtain ⟨m, hm, em⟩ := nI_of c1
          obtain ⟨s, hs, es⟩ := sgn_of c3
          obtain ⟨hh, hhl, eh⟩ := sgn_of c4
          obtain ⟨l, hl, el⟩ := sgn_of c5
          refine ⟨m, s, hh, l, ?_, hs, hhl, hl, em, es, eh, el⟩
          subst em
          have : ¬ 1440 ≤ m := fun z => c2 ((nj_le (a := 1440) (by decide) hm).mpr z)
          omega
        · rcases (show l = 0 ∨ l = 1 by omega) with rfl | rfl
          · exact Or.inl e4
          · exact Or.inr e4
      · rcases (show h = 0 ∨ h = 1 by omega) with rfl | rfl
        · exact Or.inl e3
        · exact Or.inr e3
    · rcases (show s = 0 ∨ s = 1 by omega) with rfl | rfl
      · exact Or.inl e2
      · exact Or.inr e2
/-! the reference's own -/
theorem s_in {post : Int32 → Prop} {x a b : Int32} (h1 : (¬ x < a ∧ ¬ b < x) → post 1) (h0 : (x < a ∨ b < x) → post 0) : B_X6_in_0 post x a b := by
  unfold B_X6_in_0 B_X6_in_14 B_X6_in_15
  exact ⟨fun c => ⟨nb0, h0 (Or.inl c)⟩, fun c => ⟨fun d => ⟨nb0, h0 (Or.inr d)⟩, fun d => ⟨nb1, h1 ⟨c, d⟩⟩⟩⟩
theorem s_has {post : Int32 → Prop} {a k : Nat} (ha : a < 2147483648) (hk : k < 32) (h : post (nI (a / 2 ^ k % 2))) : B_X6_has_0 post (nI a) (nI k) := by
  unfold B_X6_has_0 B_X6_has_14
  have e : (jshr (nI a) (nI k) &&& 1) = nI (a / 2 ^ k % 2) := by rw [nj_shr ha hk, nl 1, nj_and1]
  rw [e]
  have hm : a / 2 ^ k % 2 < 2 := Nat.mod_lt _ (by decide)
  generalize a / 2 ^ k % 2 = q at h hm ⊢
  rcases (show q = 0 ∨ q = 1 by omega) with rfl | rfl
  · exact ⟨fun _ => ⟨nb0, h⟩, fun c => absurd ((nj_eq (a := 0) (b := 1) (by decide) (by decide)).mp c) (by decide)⟩
  · exact ⟨fun c => absurd rfl c, fun _ => ⟨nb1, h⟩⟩
theorem s_figures {post : Int32 → Prop} {v : Nat} (k d e : Nat) (hd : 2 ^ k = d) (he : 2 ^ (k + 4) = e) (hk : k < 20) (hv : v < 100) (hde : d < 10000000) (hee : e < 10000000) (h : post (nI (v % 10 * d ||| v / 10 * e))) : B_X6_figures_0 post (nI v) (nI k) := by
  unfold B_X6_figures_0
  have h1 : v % 10 * d < 4294967296 := by
    have : v % 10 * d ≤ 9 * d := Nat.mul_le_mul_right _ (by omega)
    omega
  have h2 : v / 10 * e < 4294967296 := by
    have : v / 10 * e ≤ 9 * e := Nat.mul_le_mul_right _ (by omega)
    omega
  rw [nl 10, nl 4, nj_rem (by omega) (by decide) (by decide), nj_div (by omega) (by decide) (by decide), nI_add, nk_shl k d hd (by omega) h1, nk_shl (k + 4) e he (by omega) h2, nj_or]
  exact h
theorem nz {q : Nat} (hq : q < 2) : (nI q = 0 ↔ q = 0) ∧ (¬ nI q = 0 ↔ q = 1) := by
  rcases (show q = 0 ∨ q = 1 by omega) with rfl | rfl
  · exact ⟨⟨fun _ => rfl, fun _ => rfl⟩, ⟨fun z => absurd rfl z, fun z => absurd z (by decide)⟩⟩
  · have : ¬ nI 1 = 0 := by decide
    exact ⟨⟨fun z => absurd z this, fun z => absurd z (by decide)⟩, ⟨fun _ => rfl, fun _ => this⟩⟩
theorem s_bits6 {post : Int32 → Prop} {t : Nat} (ht : t < 11520) (h : post (nI (bitsN t))) : B_X6_bitsOf_0 post (nI t) := by
  have hs := tab_sl (t % 8) (by omega) (t / 8 % 60) (by omega)
  have hl := tab_lo (t / 8 % 60) (by omega)
  have hh := tab_hi (t / 8 / 60) (by omega)
  have p1 := pop_le (fgN (t / 8 % 60))
  have p2 := pop_le (fhN (t / 8 / 60))
  have m1 : t / 2 ^ 1 % 2 < 2 := Nat.mod_lt _ (by decide)
  have m0 : t / 2 ^ 0 % 2 < 2 := Nat.mod_lt _ (by decide)
  have m2 : t / 2 ^ 2 % 2 < 2 := Nat.mod_lt _ (by decide)
  have k1 : t / 2 ^ 1 % 2 = t % 8 / 2 % 2 := by rw [show (2 : Nat) ^ 1 = 2 from rfl]; omega
  have k0 : t / 2 ^ 0 % 2 = t % 8 % 2 := by rw [show (2 : Nat) ^ 0 = 1 from rfl]; omega
  have k2 : t / 2 ^ 2 % 2 = t % 8 / 4 % 2 := by rw [show (2 : Nat) ^ 2 = 4 from rfl]; omega
  have last : ∀ z x2 : Int32, z = nI ((t % 8 / 2 % 2 * 2 ||| t % 8 % 2 * 4) ||| t % 8 / 4 % 2 * 8) → B_X6_figures_0 (fun r2 => B_X6_figures_0 (fun r3 => B_X6_many_0 (fun r4 => ∀ z5 : Int32, z5 = (r2 ||| (jshl (jrem r4 2) 11)) → B_X6_many_0 (fun r6 => ∀ z7 : Int32, z7 = (r3 ||| (jshl (jrem r6 2) 18)) → post ((z ||| z5) ||| z7)) r3) r2) (nI (t / 8) / 60) 12) (jrem (nI (t / 8)) 60) 4 := by
    intro z x2 ez
    subst ez
    rw [nl 60, nj_div (by omega) (by decide) (by decide), nj_rem (by omega) (by decide) (by decide)]
    refine s_figures 4 16 256 rfl rfl (by decide) (by omega) (by decide) (by decide) ?_
    rw [hl.1]
    refine s_figures 12 4096 65536 rfl rfl (by decide) (by omega) (by decide) (by decide) ?_
    rw [hh.1]
    refine s_many (by omega) ?_
    intro z5 e5
    have e5 : z5 = nI (fgN (t / 8 % 60) ||| pop (fgN (t / 8 % 60)) % 2 * 2048) := by
      rw [e5, nl 2, nl 11, nj_rem (by omega) (by decide) (by decide), nk_shl 11 2048 rfl (by decide) (by omega), nj_or]
    subst e5
    refine s_many (by omega) ?_
    intro z7 e7
    have e7 : z7 = nI (hiN (t / 8 / 60)) := by
      rw [e7, nl 2, nl 18, nj_rem (by omega) (by decide) (by decide), nk_shl 18 262144 rfl (by decide) (by omega), nj_or, hh.2.2.1]
    subst e7
    have hs1 := hs.1
    rw [hl.1] at hs1
    rw [nj_or, nj_or, ← Nat.or_assoc, hs1, or_hi hs.2 hh.2.2.2.2]
    exact h
  unfold B_X6_bitsOf_0
  intro z1 e1
  have e1 : z1 = nI (t / 8) := by rw [e1, nl 8, nj_div (by omega) (by decide) (by decide)]
  subst e1
  refine s_has (k := 1) (by omega) (by decide) ?_
  have third : ∀ q0 q1 : Nat, q0 < 2 → q1 < 2 → q1 = t % 8 / 2 % 2 → q0 = t % 8 % 2 → B_X6_bitsOf_33 post (nI t) (nI (t / 8)) (nI (q1 * 2)) (nI (q0 * 4)) (nI (q1 * 2)) := by
    intro q0 q1 h0 h1 g1 g0
    unfold B_X6_bitsOf_33
    intro z1 e1
    have e1 : z1 = nI (q1 * 2 ||| q0 * 4) := by rw [e1, nj_or]
    subst e1
    refine s_has (k := 2) (by omega) (by decide) ?_
    refine ⟨fun c => ?_, fun c => ?_⟩
    · have c := (nz m2).1.mp c
      unfold B_X6_bitsOf_50
      intro z1 e1
      exact last _ z1 (by rw [e1, nl 0, nj_or, ← g1, ← g0, ← k2, c])
    · have c := (nz m2).2.mp c
      unfold B_X6_bitsOf_50
      intro z1 e1
      exact last _ z1 (by rw [e1, nl 8, nj_or, ← g1, ← g0, ← k2, c])
  have second : ∀ q1 : Nat, q1 < 2 → q1 = t % 8 / 2 % 2 → B_X6_bitsOf_18 post (nI t) (nI (t / 8)) (nI (q1 * 2)) := by
    intro q1 h1 g1
    unfold B_X6_bitsOf_18
    refine s_has (k := 0) (by omega) (by decide) ?_
    refine ⟨fun c => ?_, fun c => ?_⟩
    · have c := (nz m0).1.mp c
      exact third 0 q1 (by decide) h1 g1 (by rw [← k0, c])
    · have c := (nz m0).2.mp c
      exact third 1 q1 (by decide) h1 g1 (by rw [← k0, c])
  refine ⟨fun c => ?_, fun c => ?_⟩
  · have c := (nz m1).1.mp c
    exact second 0 (by decide) (by rw [← k1, c])
  · have c := (nz m1).2.mp c
    exact second 1 (by decide) (by rw [← k1, c])
theorem s_next6 {post : Int32 → Prop} {t : Nat} (ht : t < 11520) (h : post (nI (nextN t))) : B_X6_nextOf_0 post (nI t) := by
  unfold B_X6_nextOf_0
  intro z1 e1
  have e1 : z1 = nI ((t / 8 + 1) % 1440) := by rw [e1, nl 8, nl 1, nl 1440, nj_div (by omega) (by decide) (by decide), nI_add, nj_rem (by omega) (by decide) (by decide)]
  subst e1
  have cz : jrem (nI ((t / 8 + 1) % 1440)) 60 = nI ((t / 8 + 1) % 1440 % 60) := by rw [nl 60, nj_rem (by omega) (by decide) (by decide)]
  rw [cz]
  have m1 : t / 2 ^ 1 % 2 < 2 := Nat.mod_lt _ (by decide)
  have m2 : t / 2 ^ 2 % 2 < 2 := Nat.mod_lt _ (by decide)
  have k1 : t / 2 ^ 1 % 2 = t / 2 % 2 := rfl
  have k2 : t / 2 ^ 2 % 2 = t / 4 % 2 := rfl
  refine ⟨fun c => ?_, fun c => ?_⟩
  · have c : (t / 8 + 1) % 1440 % 60 = 0 := (nj_eq (by omega) (by decide)).mp c
    refine s_has (k := 2) (by omega) (by decide) ?_
    refine s_has (k := 1) (by omega) (by decide) ?_
    unfold nextN at h
    rw [if_neg (by omega)] at h
    refine ⟨fun d => ?_, fun d => ⟨fun q => ?_, fun q => ?_⟩⟩
    · have d : t / 2 % 2 = 0 := (nz m1).1.mp d
      rw [if_neg (by omega)] at h
      unfold B_X6_nextOf_71 B_X6_nextOf_84
      refine ⟨fun q => ?_, fun q => ?_⟩
      · have q : t / 4 % 2 = 0 := (nz m2).1.mp q
        rw [nl 8, nl 0, pk_mul, nI_add]
        exact post_eq (by omega) h
      · have q : t / 4 % 2 = 1 := (nz m2).2.mp q
        rw [nl 8, nl 4, pk_mul, nI_add]
        exact post_eq (by omega) h
    · have d : t / 2 % 2 = 1 := (nz m1).2.mp d
      have q : t / 4 % 2 = 1 := (nz m2).2.mp q
      rw [if_pos d, if_pos q] at h
      unfold B_X6_nextOf_51
      refine ⟨fun _ => ?_, fun z => absurd rfl z⟩
      unfold B_X6_nextOf_65
      intro z1 e1
      have e1 : z1 = nI (((t / 8 + 1) % 1440 + 1380) % 1440) := by rw [e1, nl 1380, nl 1440, nI_add, nj_rem (by omega) (by decide) (by decide)]
      subst e1
      unfold B_X6_nextOf_71 B_X6_nextOf_84
      refine ⟨fun _ => ?_, fun z => absurd rfl z⟩
      rw [nl 8, nl 0, pk_mul, nI_add]
      exact post_eq (by omega) h
    · have d : t / 2 % 2 = 1 := (nz m1).2.mp d
      have q : t / 4 % 2 = 0 := (nz m2).1.mp q
      rw [if_pos d, if_neg (by omega)] at h
      unfold B_X6_nextOf_51
      refine ⟨fun z => absurd z (by decide), fun _ => ?_⟩
      unfold B_X6_nextOf_65
      intro z1 e1
      have e1 : z1 = nI (((t / 8 + 1) % 1440 + 60) % 1440) := by rw [e1, nl 60, nl 1440, nI_add, nj_rem (by omega) (by decide) (by decide)]
      subst e1
      unfold B_X6_nextOf_71 B_X6_nextOf_84
      refine ⟨fun z => absurd z (by decide), fun _ => ?_⟩
      rw [nl 8, nl 4, pk_mul, nI_add]
      exact post_eq (by omega) h
  · have c : ¬ (t / 8 + 1) % 1440 % 60 = 0 := fun z => c (by rw [z]; rfl)
    unfold nextN at h
    rw [if_pos c] at h
    rw [nl 8, pk_mul, nj_rem (by omega) (by decide) (by decide), nI_add]
    exact h
theorem laterN_next (u : Nat) : ∀ k : Nat, laterN (nextN u) k = laterN u (k + 1)
  | 0 => rfl
  | k + 1 => by show nextN (laterN (nextN u) k) = nextN (laterN u (k + 1)); rw [laterN_next u k]
theorem later6_loop {post : Int32 → Prop} (x0 : Int32) (N : Nat) (hN : N < 100000) : ∀ (f i t : Nat), i ≤ N → N - i < f → t < 11520 → post (nI (laterN t (N - i))) → P_X6_later_4 post f x0 (nI N) (nI t) (nI i) := by
  intro f
  induction f with
  | zero => intro i t _ h; exact absurd h (Nat.not_lt_zero _)
  | succ f ih =>
    intro i t hi hf ht h
    show B_X6_later_4 post (P_X6_later_4 post f) x0 (nI N) (nI t) (nI i)
    unfold B_X6_later_4
    refine ⟨fun c => ?_, fun c => ?_⟩
    · have c : N ≤ i := (nj_le (by omega) (by omega)).mp c
      rw [show N - i = 0 by omega] at h
      exact h
    · have c : ¬ N ≤ i := fun z => c ((nj_le (by omega) (by omega)).mpr z)
      refine s_next6 ht ?_
      intro z3 e3
      have e3 : z3 = nI (i + 1) := by rw [e3, nl 1, nI_add]
      subst e3
      refine ih (i + 1) (nextN t) (by omega) (by omega) (nextN_lt ht) ?_
      rw [laterN_next, show N - (i + 1) + 1 = N - i by omega]
      exact h
theorem s_later6 {post : Int32 → Prop} {t n : Nat} (ht : t < 11520) (hn : n < 100000) (h : post (nI (laterN t n))) : B_X6_later_0 post (nI t) (nI n) :=
  ⟨n + 1, later6_loop _ n hn _ 0 t (Nat.zero_le _) (by omega) ht h⟩
theorem s_later6m {post : Int32 → Prop} {t : Nat} (h : post (nI t)) : B_X6_later_0 post (nI t) (nI 0 - 1) := by
  refine ⟨1, ?_⟩
  show B_X6_later_4 post (P_X6_later_4 post 0) (nI t) (nI 0 - 1) (nI t) 0
  unfold B_X6_later_4
  exact ⟨fun _ => h, fun c => absurd (by decide) c⟩
theorem in_lit {x : Int32} {n : Nat} (hn : n < 2147483648) (h1 : ¬ x < 0) (h2 : ¬ nI n < x) : ∃ j : Nat, j ≤ n ∧ x = nI j := by
  obtain ⟨j, hj, rfl⟩ := nI_of h1
  exact ⟨j, Nat.not_lt.mp (fun z => h2 ((nj_lt hn hj).mpr z)), rfl⟩
theorem s_isTime6 {post : Int32 → Prop} {a b c d : Int32} (h1 : isT a b c d → post 1) (h0 : ¬ isT a b c d → post 0) : B_X6_isTime_0 post a b c d := by
  unfold B_X6_isTime_0 B_X6_isTime_42 B_X6_isTime_43
  have bad : ∀ {x : Int32} {n j : Nat}, n < 2147483648 → j ≤ n → x = nI j → (x < 0 ∨ nI n < x) → False := by
    intro x n j hn hj e h
    subst e
    rcases h with h | h
    · exact nI_pos (by omega) h
    · exact absurd ((nj_lt hn (by omega)).mp h) (by omega)
  refine s_in (fun c1 => ⟨fun z => absurd z (by decide), fun _ => ?_⟩) (fun c1 => ⟨fun _ => ⟨nb0, h0 fun ⟨m, s, h, l, hm, hs, hh, hl, e1, e2, e3, e4⟩ => bad (n := 1439) (by decide) (by omega) e1 c1⟩, fun z => absurd rfl z⟩)
  refine s_in (fun c2 => ⟨fun z => absurd z (by decide), fun _ => ?_⟩) (fun c2 => ⟨fun _ => ⟨nb0, h0 fun ⟨m, s, h, l, hm, hs, hh, hl, e1, e2, e3, e4⟩ => bad (n := 1) (by decide) (by omega) e2 c2⟩, fun z => absurd rfl z⟩)
  refine s_in (fun c3 => ⟨fun z => absurd z (by decide), fun _ => ?_⟩) (fun c3 => ⟨fun _ => ⟨nb0, h0 fun ⟨m, s, h, l, hm, hs, hh, hl, e1, e2, e3, e4⟩ => bad (n := 1) (by decide) (by omega) e3 c3⟩, fun z => absurd rfl z⟩)
  refine s_in (fun c4 => ⟨fun z => absurd z (by decide), fun _ => ⟨nb1, h1 ?_⟩⟩) (fun c4 => ⟨fun _ => ⟨nb0, h0 fun ⟨m, s, h, l, hm, hs, hh, hl, e1, e2, e3, e4⟩ => bad (n := 1) (by decide) (by omega) e4 c4⟩, fun z => absurd rfl z⟩)
  obtain ⟨m, hm, em⟩ := in_lit (n := 1439) (by decide) c1.1 c1.2
  obtain ⟨s, hs, es⟩ := in_lit (n := 1) (by decide) c2.1 c2.2
  obtain ⟨h, hh, eh⟩ := in_lit (n := 1) (by decide) c3.1 c3.2
  obtain ⟨l, hl, el⟩ := in_lit (n := 1) (by decide) c4.1 c4.2
  exact ⟨m, s, h, l, by omega, by omega, by omega, by omega, em, es, eh, el⟩
/-- a part of a time -/
def partN (t k : Nat) : Nat := if k = 0 then t / 8 else if k = 1 then t / 4 % 2 else if k = 2 then t / 2 % 2 else t % 2
theorem s_part3 {post : Int32 → Prop} {t k : Nat} (ht : t < 11520) (hk : k < 4) (h : post (nI (partN t k))) : B_X3_partOf_0 post (nI t) (nI k) := by
  unfold B_X3_partOf_0 B_X3_leapOf_0 B_X3_minuteOf_0 B_X3_summerOf_0 B_X3_shiftOf_0
  have e0 : nI t / 8 = nI (t / 8) := by rw [nl 8, nj_div (by omega) (by decide) (by decide)]
  have e1 : (jshr (nI t) 2 &&& 1) = nI (t / 4 % 2) := by rw [nl 2, nl 1, nk_shr 2 4 rfl (by omega) (by decide), nj_and1]
  have e2 : (jshr (nI t) 1 &&& 1) = nI (t / 2 % 2) := by rw [nl 1, nk_shr 1 2 rfl (by omega) (by decide), nj_and1]
  have e3 : nI t &&& 1 = nI (t % 2) := nj_and1 t
  rw [nj_ti (by omega), e0, e1, e2, e3]
  unfold partN at h
  refine ⟨fun c => ?_, fun c => ?_, fun c => ?_, fun c => ?_⟩
  · have : k = 3 := by omega
    subst this; exact h
  · have : k = 0 := by omega
    subst this; exact h
  · have : k = 1 := by omega
    subst this; exact h
  · have : k = 2 := by omega
    subst this; exact h
theorem s_part6 {post : Int32 → Prop} {t k : Nat} (ht : t < 11520) (hk : k < 4) (h : post (nI (partN t k))) : B_X6_partOf_0 post (nI t) (nI k) := by
  unfold B_X6_partOf_0 B_X6_partOf_40
  have e0 : nI t / 8 = nI (t / 8) := by rw [nl 8, nj_div (by omega) (by decide) (by decide)]
  have e1 : jrem (nI t / 4) 2 = nI (t / 4 % 2) := by rw [nl 4, nl 2, nj_div (by omega) (by decide) (by decide), nj_rem (by omega) (by decide) (by decide)]
  have e2 : jrem (nI t / 2) 2 = nI (t / 2 % 2) := by rw [nl 2, nj_div (by omega) (by decide) (by decide), nj_rem (by omega) (by decide) (by decide)]
  have e3 : jrem (nI t) 2 = nI (t % 2) := by rw [nl 2, nj_rem (by omega) (by decide) (by decide)]
  rw [e0, e1, e2, e3]
  unfold partN at h
  have ne : ∀ j : Nat, j < 4 → ¬ k = j → ¬ nI k = nI j := fun j hj h z => h ((nj_eq (by omega) (by omega)).mp z)
  rcases (show k = 0 ∨ k = 1 ∨ k = 2 ∨ k = 3 by omega) with rfl | rfl | rfl | rfl
  · exact ⟨fun c => absurd rfl c, fun _ => h⟩
  · exact ⟨fun _ => ⟨fun c => absurd rfl c, fun _ => h⟩, fun c => absurd c (ne 0 (by decide) (by decide))⟩
  · exact ⟨fun _ => ⟨fun _ => ⟨fun c => absurd rfl c, fun _ => h⟩, fun c => absurd c (ne 1 (by decide) (by decide))⟩, fun c => absurd c (ne 0 (by decide) (by decide))⟩
  · exact ⟨fun _ => ⟨fun _ => ⟨fun _ => h, fun c => absurd c (ne 2 (by decide) (by decide))⟩, fun c => absurd c (ne 1 (by decide) (by decide))⟩, fun c => absurd c (ne 0 (by decide) (by decide))⟩
theorem s_timeAt {post : Int32 → Prop} {a m : Nat} (ha : a < 192) (hm : m < 60) (h : post (nI (8 * (60 * (a / 8) + m) + a % 8))) : B_X4_timeAt_0 post (nI a) (nI m) := by
  unfold B_X4_timeAt_0
  rw [nl 8, nl 60, nj_div (by omega) (by decide) (by decide), pk_mul, nI_add, pk_mul, nj_rem (by omega) (by decide) (by decide), nI_add]
  exact h
