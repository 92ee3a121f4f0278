/-! the vote by parts: minutes, hours and signs -/
theorem and_lo (x : Nat) : x &&& 4080 = 16 * (x / 16 % 256) := by
  have h1 : (x &&& 4080) % 2 ^ 12 = (x % 2 ^ 12) &&& (4080 % 2 ^ 12) := Nat.and_mod_two_pow
  have h2 : (x &&& 4080) / 2 ^ 12 = x / 2 ^ 12 &&& 4080 / 2 ^ 12 := Nat.and_div_two_pow
  have e : ∀ y, y < 4096 → y &&& 4080 = 16 * (y / 16) := by
    intro y hy
    have g1 : (y &&& 4080) % 2 ^ 4 = (y % 2 ^ 4) &&& (4080 % 2 ^ 4) := Nat.and_mod_two_pow
    have g2 : (y &&& 4080) / 2 ^ 4 = y / 2 ^ 4 &&& 4080 / 2 ^ 4 := Nat.and_div_two_pow
    have g3 : y / 16 &&& 255 = y / 16 % 256 := Nat.and_two_pow_sub_one_eq_mod _ 8
    simp only [show (2 : Nat) ^ 4 = 16 from rfl, show 4080 % 16 = 0 from rfl, show 4080 / 16 = 255 from rfl, Nat.and_zero] at g1 g2
    rw [g3] at g2
    omega
  simp only [show (2 : Nat) ^ 12 = 4096 from rfl, show 4080 % 4096 = 4080 from rfl, show 4080 / 4096 = 0 from rfl, Nat.and_zero] at h1 h2
  rw [e _ (Nat.mod_lt _ (by decide))] at h1
  omega
theorem and_hi {x : Nat} (hx : x < 524288) : x &&& 520207 = x % 16 + 4096 * (x / 4096) := by
  have h1 : (x &&& 520207) % 2 ^ 12 = (x % 2 ^ 12) &&& (520207 % 2 ^ 12) := Nat.and_mod_two_pow
  have h2 : (x &&& 520207) / 2 ^ 12 = x / 2 ^ 12 &&& 520207 / 2 ^ 12 := Nat.and_div_two_pow
  have e : ∀ y, y < 4096 → y &&& 15 = y % 16 := fun y _ => Nat.and_two_pow_sub_one_eq_mod y 4
  have e2 : ∀ y, y < 128 → y &&& 127 = y := by decide +kernel
  simp only [show (2 : Nat) ^ 12 = 4096 from rfl, show 520207 % 4096 = 15 from rfl, show 520207 / 4096 = 127 from rfl] at h1 h2
  rw [e _ (Nat.mod_lt _ (by decide))] at h1
  rw [e2 _ (by omega)] at h2
  omega
theorem pop_at (a b c : Nat) (ha : a < 16) (hb : b < 256) (hc : c < 256) : pop (a + 16 * b + 4096 * c) = popF 4 a + popF 8 b + popF 8 c := by
  have h1 := popF_add 4 16 a (b + 256 * c) ha
  have h2 := popF_add 8 8 b c hb
  rw [show a + 2 ^ 4 * (b + 256 * c) = a + 16 * b + 4096 * c by rw [show (2 : Nat) ^ 4 = 16 from rfl]; omega] at h1
  rw [show b + 2 ^ 8 * c = b + 256 * c from rfl] at h2
  unfold pop
  rw [show 20 = 4 + 16 from rfl, h1, show 16 = 8 + 8 from rfl, h2]
  omega
theorem pop_split {w : Nat} (hw : w < 524288) : pop w = pop (w &&& 4080) + pop (w &&& 520207) := by
  have h0 := pop_at (w % 16) (w / 16 % 256) (w / 4096) (by omega) (by omega) (by omega)
  have h1 := pop_at 0 (w / 16 % 256) 0 (by omega) (by omega) (by omega)
  have h2 := pop_at (w % 16) 0 (w / 4096) (by omega) (by omega) (by omega)
  rw [show w % 16 + 16 * (w / 16 % 256) + 4096 * (w / 4096) = w by omega] at h0
  rw [show 0 + 16 * (w / 16 % 256) + 4096 * 0 = 16 * (w / 16 % 256) by omega] at h1
  rw [show w % 16 + 16 * 0 + 4096 * (w / 4096) = w % 16 + 4096 * (w / 4096) by omega] at h2
  rw [and_lo, and_hi hw, h0, h1, h2, popF_0, popF_0]
  omega
theorem wr_mask {b b' o k M : Nat} (h : b &&& M = b' &&& M) : ((b ^^^ o) &&& k) &&& M = ((b' ^^^ o) &&& k) &&& M := by
  have e : ∀ x, ((x ^^^ o) &&& k) &&& M = ((x &&& M) ^^^ (o &&& M)) &&& k := fun x => by
    rw [Nat.and_assoc, Nat.and_comm k M, ← Nat.and_assoc, Nat.and_xor_distrib_right]
  rw [e b, e b', h]
theorem tab_lo2 : ∀ m, m < 60 → loN m % 16 = 0 ∧ loN m < 4096 := by decide +kernel
theorem tab_sg : ∀ s, s < 8 → sgN s < 16 := by decide +kernel
theorem bits_lo {t : Nat} (ht : t < 11520) : bitsN t &&& 4080 = loN (t / 8 % 60) := by
  have h1 := tab_lo2 (t / 8 % 60) (by omega)
  have h2 := tab_sg (t % 8) (by omega)
  have h3 := (tab_hi (t / 8 / 60) (by omega)).2.2.2
  rw [and_lo]
  unfold bitsN
  omega
theorem bits_hi {t : Nat} (ht : t < 11520) : bitsN t &&& 520207 = sgN (t % 8) + hiN (t / 8 / 60) := by
  have h1 := tab_lo2 (t / 8 % 60) (by omega)
  have h2 := tab_sg (t % 8) (by omega)
  have h3 := (tab_hi (t / 8 / 60) (by omega)).2.2.2
  rw [and_hi (bitsN_lt ht)]
  unfold bitsN
  omega
/-- the time of an hour with signs (a) at a minute -/
def tA (a m : Nat) : Nat := 8 * (60 * (a / 8) + m) + a % 8
def foN (a : Nat) : Nat := nextN (tA a 59) / 480 * 8 + nextN (tA a 59) % 8
theorem tab_fo : ∀ a, a < 192 → nextN (tA a 59) = tA (foN a) 0 ∧ foN a < 192 := by decide +kernel
theorem tA_lt {a m : Nat} (ha : a < 192) (hm : m < 60) : tA a m < 11520 := by unfold tA; omega
theorem tA_next {a m : Nat} (ha : a < 192) (hm : m < 59) : nextN (tA a m) = tA a (m + 1) := by
  unfold nextN tA
  rw [if_pos (by omega)]
  omega
theorem later_in {a m : Nat} (ha : a < 192) : ∀ f, m + f < 60 → laterN (tA a m) f = tA a (m + f)
  | 0, _ => rfl
  | f + 1, h => by
    show nextN (laterN (tA a m) f) = _
    rw [later_in ha f (by omega), tA_next ha (by omega)]
    rfl
theorem later_out {a m : Nat} (ha : a < 192) (hm : m < 60) : ∀ d, d < 60 → laterN (tA a m) (60 - m + d) = tA (foN a) d
  | 0, _ => by
    have e : 60 - m + 0 = (59 - m) + 1 := by omega
    rw [e]
    show nextN (laterN (tA a m) (59 - m)) = _
    rw [later_in ha (59 - m) (by omega), show m + (59 - m) = 59 by omega]
    exact (tab_fo a ha).1
  | d + 1, h => by
    have e : 60 - m + (d + 1) = (60 - m + d) + 1 := by omega
    rw [e]
    show nextN (laterN (tA a m) (60 - m + d)) = _
    rw [later_out ha hm d (by omega), tA_next (tab_fo a ha).2 (by omega)]
section VS
variable (n : Nat) (sy : Nat → Nat)
def pmN (m f : Nat) : Nat := pop (wrN n sy (8 * m) f &&& 4080)
def prN (a f : Nat) : Nat := pop (wrN n sy (tA a 0) f &&& 520207)
def bmS (m : Nat) : Nat → Nat
  | 0 => 0
  | k + 1 => bmS m k + pmN n sy ((m + k) % 60) k
def bhS (a : Nat) : Nat → Nat
  | 0 => 0
  | k + 1 => bhS a k + prN n sy a k
end VS
theorem wr_split {n : Nat} {sy : Nat → Nat} {a m f : Nat} (ha : a < 192) (hm : m < 60) : pop (wrN n sy (tA a m) f) = pmN n sy m f + prN n sy a f := by
  rw [pop_split wrN_lt]
  have l1 : bitsN (tA a m) &&& 4080 = bitsN (8 * m) &&& 4080 := by
    rw [bits_lo (tA_lt ha hm), bits_lo (by omega), show tA a m / 8 % 60 = m by unfold tA; omega, show 8 * m / 8 % 60 = m by omega]
  have l2 : bitsN (tA a m) &&& 520207 = bitsN (tA a 0) &&& 520207 := by
    rw [bits_hi (tA_lt ha hm), bits_hi (tA_lt ha (by omega)), show tA a m / 8 / 60 = tA a 0 / 8 / 60 by unfold tA; omega, show tA a m % 8 = tA a 0 % 8 by unfold tA; omega]
  unfold pmN prN wrN
  rw [wr_mask l1, wr_mask l2]
theorem bhS_mono (n : Nat) (sy : Nat → Nat) (a j : Nat) : ∀ d, bhS n sy a j ≤ bhS n sy a (j + d)
  | 0 => Nat.le_refl _
  | d + 1 => Nat.le_trans (bhS_mono n sy a j d) (Nat.le_add_right _ _)
theorem mi_in {n : Nat} {sy : Nat → Nat} {a m : Nat} (ha : a < 192) (hm : m < 60) : ∀ k, k ≤ 60 - m → miA n sy (tA a m) k = bmS n sy m k + bhS n sy a k
  | 0, _ => rfl
  | k + 1, h => by
    show miA n sy (tA a m) k + pop (wrN n sy (laterN (tA a m) k) k) = (bmS n sy m k + pmN n sy ((m + k) % 60) k) + (bhS n sy a k + prN n sy a k)
    rw [mi_in ha hm k (by omega), later_in ha k (by omega), wr_split ha (by omega), Nat.mod_eq_of_lt (show m + k < 60 by omega)]
    omega
theorem mi_out {n : Nat} {sy : Nat → Nat} {a m : Nat} (ha : a < 192) (hm : m < 60) : ∀ d, d < 60 → miA n sy (tA a m) (60 - m + d) = bmS n sy m (60 - m + d) + bhS n sy a (60 - m) + (bhS n sy (foN a) (60 - m + d) - bhS n sy (foN a) (60 - m))
  | 0, _ => by
    rw [Nat.add_zero, mi_in ha hm _ (Nat.le_refl _)]
    omega
  | d + 1, h => by
    have hmn := bhS_mono n sy (foN a) (60 - m) d
    show miA n sy (tA a m) (60 - m + d) + pop (wrN n sy (laterN (tA a m) (60 - m + d)) (60 - m + d)) = (bmS n sy m (60 - m + d) + pmN n sy ((m + (60 - m + d)) % 60) (60 - m + d)) + bhS n sy a (60 - m) + ((bhS n sy (foN a) (60 - m + d) + prN n sy (foN a) (60 - m + d)) - bhS n sy (foN a) (60 - m))
    rw [mi_out ha hm d (by omega), later_out ha hm d (by omega), wr_split (tab_fo a ha).2 (by omega), show (m + (60 - m + d)) % 60 = d by omega]
    omega
/-- the misses of a time, as the class adds them up -/
theorem mis_up {n : Nat} {sy : Nat → Nat} (hn : n ≤ 120) {a m : Nat} (ha : a < 192) (hm : m < 60) (k : Nat) (hk : k = if 60 - m < cnN n sy then 60 - m else cnN n sy) : misN n sy (tA a m) = bmS n sy m (cnN n sy) + bhS n sy a k + (bhS n sy (foN a) (cnN n sy) - bhS n sy (foN a) k) ∧ bhS n sy (foN a) k ≤ bhS n sy (foN a) (cnN n sy) ∧ k ≤ 6 := by
  have hc6 := cnN_le (sy := sy) hn
  unfold misN
  by_cases h : 60 - m < cnN n sy
  · rw [if_pos h] at hk
    subst hk
    obtain ⟨d, hd⟩ : ∃ d, cnN n sy = 60 - m + d := ⟨cnN n sy - (60 - m), by omega⟩
    have := bhS_mono n sy (foN a) (60 - m) d
    rw [hd]
    exact ⟨mi_out ha hm d (by omega), this, by omega⟩
  · rw [if_neg h] at hk
    subst hk
    refine ⟨?_, Nat.le_refl _, hc6⟩
    rw [mi_in ha hm _ (by omega)]
    omega
theorem pmN_le (n : Nat) (sy : Nat → Nat) (m f : Nat) : pmN n sy m f ≤ 20 := pop_le _
theorem prN_le (n : Nat) (sy : Nat → Nat) (m f : Nat) : prN n sy m f ≤ 20 := pop_le _
theorem bmS_le (n : Nat) (sy : Nat → Nat) (m : Nat) : ∀ k, bmS n sy m k ≤ 20 * k
  | 0 => Nat.le_refl _
  | k + 1 => by
    have := bmS_le n sy m k
    have := pmN_le n sy ((m + k) % 60) k
    unfold bmS
    omega
theorem bhS_le (n : Nat) (sy : Nat → Nat) (a : Nat) : ∀ k, bhS n sy a k ≤ 20 * k
  | 0 => Nat.le_refl _
  | k + 1 => by
    have := bhS_le n sy a k
    have := prN_le n sy a k
    unfold bhS
    omega
/-! the class's own methods -/
theorem s_mo3 {post : Int32 → Prop} {g : SG} {n : Nat} {sy : Nat → Nat} (hn : n ≤ 120) (hF : fC g n sy) {b f M : Nat} (hb : b < 524288) (hf : f < cnN n sy) (hM : M < 524288) (h : post (nI (pop (((b ^^^ onN n sy f) &&& knN n sy f) &&& M)))) : B_X0_missesOf_0 post (nI f) (nI b) (nI M) g := by
  have hc6 := cnN_le (sy := sy) hn
  unfold B_X0_missesOf_0
  rw [nj_cl (by omega), (hF.2.2 f hf).1, (hF.2.2 f hf).2, nj_xor, nj_and, nj_and]
  exact ⟨nj_in (by omega) (by decide), nj_in (by omega) (by decide), s_bitCount (Nat.and_lt_two_pow (n := 19) _ hM) h⟩
theorem s_wrong3 {post : Int32 → Prop} {g : SG} {n : Nat} {sy : Nat → Nat} (hn : n ≤ 120) (hF : fC g n sy) {t f : Nat} (ht : t < 11520) (hf : f < cnN n sy) (h : post (nI (wrN n sy t f))) : B_X0_wrong_0 post (nI f) (nI t) g := by
  have hc6 := cnN_le (sy := sy) hn
  unfold B_X0_wrong_0
  refine s_bits3 ht ?_
  rw [nj_cl (by omega), (hF.2.2 f hf).1, (hF.2.2 f hf).2, nj_xor, nj_and]
  exact ⟨nj_in (by omega) (by decide), nj_in (by omega) (by decide), h⟩
theorem mf_loop {post : Int32 → Prop} {g : SG} {n : Nat} {sy : Nat → Nat} (hn : n ≤ 120) (hF : fC g n sy) (x1 : Int32) {t : Nat} (ht : t < 11520) (h : post (nI (misN n sy t))) : ∀ (u f : Nat), f ≤ cnN n sy → cnN n sy - f < u → P_X0_missesFrom_7 post g u x1 (nI (laterN t f)) (nI (miA n sy t f)) (nI f) := by
  have hc6 := cnN_le (sy := sy) hn
  intro u
  induction u with
  | zero => intro f _ h; exact absurd h (Nat.not_lt_zero _)
  | succ u ih =>
    intro f hf hu
    show B_X0_missesFrom_7 post (P_X0_missesFrom_7 post g u) x1 (nI (laterN t f)) (nI (miA n sy t f)) (nI f) g
    unfold B_X0_missesFrom_7
    rw [hF.2.1]
    refine ⟨fun c => ?_, fun c => ?_⟩
    · have c : cnN n sy ≤ f := (nj_le (by omega) (by omega)).mp c
      have : f = cnN n sy := by omega
      subst this
      exact h
    · have c : ¬ cnN n sy ≤ f := fun z => c ((nj_le (by omega) (by omega)).mpr z)
      have htl := laterN_lt ht f
      refine s_bits3 htl ?_
      refine s_mo3 (M := 524287) hn hF (bitsN_lt htl) (by omega) (by decide) ?_
      have hw := wrN_lt (n := n) (sy := sy) (t := laterN t f) (f := f)
      have e0 : ((bitsN (laterN t f) ^^^ onN n sy f) &&& knN n sy f) &&& 524287 = wrN n sy (laterN t f) f := Nat.and_two_pow_sub_one_of_lt_two_pow (n := 19) hw
      rw [e0]
      intro z4 e4
      have e4 : z4 = nI (miA n sy t (f + 1)) := by rw [e4, nI_add]; rfl
      subst e4
      refine s_next3 htl ?_
      intro z6 e6
      have e6 : z6 = nI (f + 1) := by rw [e6, nl 1, nI_add]
      subst e6
      exact ih (f + 1) (by omega) (by omega)
theorem s_mf3 {post : Int32 → Prop} {g : SG} {n : Nat} {sy : Nat → Nat} (hn : n ≤ 120) (hF : fC g n sy) {t : Nat} (ht : t < 11520) (h : post (nI (misN n sy t))) : B_X0_missesFrom_0 post (nI t) g :=
  ⟨8, mf_loop hn hF _ ht h 8 0 (Nat.zero_le _) (by have := cnN_le (sy := sy) hn; omega)⟩
theorem fC_same {g g' : SG} {n : Nat} {sy : Nat → Nat} (h0 : g' 0 4 = g 0 4) (h1 : g' 0 5 = g 0 5) (h3 : g' 3 = g 3) (h4 : g' 4 = g 4) (h : fC g n sy) : fC g' n sy := by
  unfold fC
  rw [h0, h1, h3, h4]
  exact h
theorem cm13 {post : SG → Prop} {k2 : Int32 → SG → Prop} {g : SG} {n : Nat} {sy : Nat → Nat} (hn : n ≤ 120) (hF : fC g n sy) (hK : g 0 10 = nI (cnN n sy)) {m : Nat} (hm : m < 60) (h : k2 (nI (m + 1)) (sput g 6 m (nI (bmS n sy m (cnN n sy))))) : ∀ (u f : Nat), f ≤ cnN n sy → cnN n sy - f < u → P_X4_countByMinute_13 post k2 u (nI m) (nI (bmS n sy m f)) (nI f) g := by
  have hc6 := cnN_le (sy := sy) hn
  intro u
  induction u with
  | zero => intro f _ h; exact absurd h (Nat.not_lt_zero _)
  | succ u ih =>
    intro f hf hu
    show B_X4_countByMinute_13 post k2 (P_X4_countByMinute_13 post k2 u) (nI m) (nI (bmS n sy m f)) (nI f) g
    unfold B_X4_countByMinute_13
    rw [hK]
    refine ⟨fun c => ?_, fun c => ?_⟩
    · have c : cnN n sy ≤ f := (nj_le (by omega) (by omega)).mp c
      have : f = cnN n sy := by omega
      subst this
      rw [nj_cl (by omega)]
      refine ⟨nj_in (by omega) (by decide), fun g2 e2 z3 e3 => ?_⟩
      have e3 : z3 = nI (m + 1) := by rw [e3, nl 1, nI_add]
      rw [e3, e2]
      exact h
    · have c : ¬ cnN n sy ≤ f := fun z => c ((nj_le (by omega) (by omega)).mpr z)
      have ex : 8 * jrem (nI m + nI f) 60 = nI (8 * ((m + f) % 60)) := by rw [nl 8, nl 60, nI_add, nj_rem (by omega) (by decide) (by decide), pk_mul]
      rw [ex]
      refine s_bits3 (by omega) ?_
      refine s_mo3 (M := 4080) hn hF (bitsN_lt (by omega)) (by omega) (by decide) ?_
      intro z6 e6 z7 e7
      have e6 : z6 = nI (bmS n sy m (f + 1)) := by rw [e6, nI_add]; rfl
      have e7 : z7 = nI (f + 1) := by rw [e7, nl 1, nI_add]
      subst e6 e7
      exact ih (f + 1) (by omega) (by omega)
theorem cm2 {post : SG → Prop} {g : SG} {n : Nat} {sy : Nat → Nat} (hn : n ≤ 120) (hF : fC g n sy) (hK : g 0 10 = nI (cnN n sy)) (h : ∀ g' : SG, (∀ q, q ≠ 6 → g' q = g q) → (∀ m, m < 60 → g' 6 m = nI (bmS n sy m (cnN n sy))) → post g') : ∀ (u m : Nat) (g' : SG), m ≤ 60 → 60 - m < u → (∀ q, q ≠ 6 → g' q = g q) → (∀ j, j < m → g' 6 j = nI (bmS n sy j (cnN n sy))) → P_X4_countByMinute_2 post u (nI m) g' := by
  intro u
  induction u with
  | zero => intro m g' _ h; exact absurd h (Nat.not_lt_zero _)
  | succ u ih =>
    intro m g' hm hu j1 j2
    show B_X4_countByMinute_2 post (P_X4_countByMinute_2 post u) (nI m) g'
    unfold B_X4_countByMinute_2
    refine ⟨fun c => ?_, fun c => ?_⟩
    · have c : 60 ≤ m := (nj_le (a := 60) (by decide) (by omega)).mp c
      have : m = 60 := by omega
      subst this
      exact h g' j1 j2
    · have c : ¬ 60 ≤ m := fun z => c ((nj_le (a := 60) (by decide) (by omega)).mpr z)
      have z0 : g' 0 = g 0 := j1 0 (by decide)
      have hF' : fC g' n sy := fC_same (by rw [z0]) (by rw [z0]) (j1 3 (by decide)) (j1 4 (by decide)) hF
      refine ⟨8, cm13 (post := post) (k2 := P_X4_countByMinute_2 post u) hn hF' (by rw [z0]; exact hK) (by omega) ?_ 8 0 (Nat.zero_le _) (by have := cnN_le (sy := sy) hn; omega)⟩
      refine ih (m + 1) _ (by omega) (by omega) (fun q hq => by rw [sput_r hq]; exact j1 q hq) (fun j hj => ?_)
      by_cases e : j = m
      · subst e; rw [sput_s]
      · rw [sput_i e]; exact j2 j (by omega)
/-- the part by hour and signs a, if j frames come before the full hour -/
def hrN (n : Nat) (sy : Nat → Nat) (a j : Nat) : Nat := bhS n sy a j + (bhS n sy (foN a) (cnN n sy) - bhS n sy (foN a) j)
theorem hrN_0 (n : Nat) (sy : Nat → Nat) (a : Nat) : hrN n sy a 0 = bhS n sy (foN a) (cnN n sy) := by
  show 0 + (_ - 0) = _
  omega
theorem hrN_s {n : Nat} {sy : Nat → Nat} {a f : Nat} (hf : f < cnN n sy) : prN n sy (foN a) f ≤ hrN n sy a f + prN n sy a f ∧ hrN n sy a f + prN n sy a f - prN n sy (foN a) f = hrN n sy a (f + 1) := by
  obtain ⟨d, hd⟩ : ∃ d, cnN n sy = (f + 1) + d := ⟨cnN n sy - (f + 1), by omega⟩
  have hmn := bhS_mono n sy (foN a) (f + 1) d
  have e1 : bhS n sy (foN a) (f + 1) = bhS n sy (foN a) f + prN n sy (foN a) f := rfl
  have e2 : bhS n sy a (f + 1) = bhS n sy a f + prN n sy a f := rfl
  unfold hrN
  rw [hd]
  omega
theorem hrN_le {n : Nat} {sy : Nat → Nat} {a j : Nat} : hrN n sy a j ≤ 20 * j + 20 * cnN n sy := by
  have h1 := bhS_le n sy a j
  have h2 := bhS_le n sy (foN a) (cnN n sy)
  unfold hrN
  omega
/-- the rows by hours hold, for hours and signs below a, what they should, and the first k rows for a itself -/
def chJ (g' : SG) (n : Nat) (sy : Nat → Nat) (a k : Nat) : Prop := ∀ j b, j ≤ cnN n sy → (b < a ∨ (b = a ∧ j < k)) → g' (7 + j) b = nI (hrN n sy b j)
theorem chJ_put {g' g8 : SG} {n : Nat} {sy : Nat → Nat} {a k : Nat} (e : g8 = sput g' (7 + k) a (nI (hrN n sy a k))) (h : chJ g' n sy a k) : chJ g8 n sy a (k + 1) := by
  intro j b h1 h3
  by_cases e2 : 7 + j = 7 + k ∧ b = a
  · obtain ⟨ej, eb⟩ := e2
    have : j = k := by omega
    subst this eb
    rw [e, sput_s]
  · rw [e, sput_if, if_neg e2]
    refine h j b h1 ?_
    rcases h3 with h3 | ⟨h3, h4⟩
    · exact Or.inl h3
    · refine Or.inr ⟨h3, ?_⟩
      have : ¬ j = k := fun z => e2 ⟨by omega, h3⟩
      omega
theorem ch81 {post : SG → Prop} {k2 : Int32 → SG → Prop} {g : SG} {n : Nat} {sy : Nat → Nat} (hn : n ≤ 120) (hF : fC g n sy) (hK : g 0 10 = nI (cnN n sy)) {a : Nat} (ha : a < 192) (h : ∀ g' : SG, (∀ q, (q < 7 ∨ 13 < q) → g' q = g q) → chJ g' n sy a (cnN n sy + 1) → k2 (nI (a + 1)) g') : ∀ (u f : Nat) (g' : SG), f ≤ cnN n sy → cnN n sy - f < u → (∀ q, (q < 7 ∨ 13 < q) → g' q = g q) → chJ g' n sy a (f + 1) → P_X4_countByHour_81 post k2 u (nI a) (nI (bitsN (tA a 0))) (nI (bitsN (tA (foN a) 0))) (nI (hrN n sy a f)) (nI f) g' := by
  have hc6 := cnN_le (sy := sy) hn
  intro u
  induction u with
  | zero => intro f g' _ h; exact absurd h (Nat.not_lt_zero _)
  | succ u ih =>
    intro f g' hf hu j1 j2
    have z0 : g' 0 = g 0 := j1 0 (by omega)
    have hF' : fC g' n sy := fC_same (by rw [z0]) (by rw [z0]) (j1 3 (by omega)) (j1 4 (by omega)) hF
    show B_X4_countByHour_81 post k2 (P_X4_countByHour_81 post k2 u) (nI a) (nI (bitsN (tA a 0))) (nI (bitsN (tA (foN a) 0))) (nI (hrN n sy a f)) (nI f) g'
    unfold B_X4_countByHour_81
    rw [z0, hK]
    refine ⟨fun c => ?_, fun c => ?_⟩
    · have c : cnN n sy ≤ f := (nj_le (by omega) (by omega)).mp c
      have : f = cnN n sy := by omega
      subst this
      intro z2 e2
      have e2 : z2 = nI (a + 1) := by rw [e2, nl 1, nI_add]
      rw [e2]
      exact h g' j1 j2
    · have c : ¬ cnN n sy ≤ f := fun z => c ((nj_le (by omega) (by omega)).mpr z)
      refine s_mo3 (M := 520207) hn hF' (bitsN_lt (tA_lt ha (by decide))) (by omega) (by decide) ?_
      intro z4 e4
      refine s_mo3 (M := 520207) hn hF' (bitsN_lt (tA_lt (tab_fo a ha).2 (by decide))) (by omega) (by decide) ?_
      intro z6 e6
      have hs := hrN_s (n := n) (sy := sy) (a := a) (f := f) (by omega)
      have e4 : z4 = nI (hrN n sy a f + prN n sy a f) := by rw [e4, nI_add]; rfl
      have e6 : z6 = nI (hrN n sy a (f + 1)) := by
        rw [e6, e4]
        show nI _ - nI (prN n sy (foN a) f) = _
        rw [nj_sub hs.1, hs.2]
      subst e6
      have ex : nI f + 1 = nI (f + 1) := by rw [nl 1, nI_add]
      rw [ex, nj_cl (by omega), nj_cl (by omega)]
      refine ⟨nj_in (by omega) (by decide), nj_in (by omega) (by decide), fun g8 e8 z9 e9 => ?_⟩
      subst e9
      exact ih (f + 1) g8 (by omega) (by omega) (fun q hq => by rw [e8, sput_r (by omega)]; exact j1 q hq) (chJ_put e8 j2)
theorem ch38 {post : SG → Prop} {k2 : Int32 → SG → Prop} {g : SG} {n : Nat} {sy : Nat → Nat} (hn : n ≤ 120) (hF : fC g n sy) (hK : g 0 10 = nI (cnN n sy)) {a : Nat} (ha : a < 192) (hJ : chJ g n sy a 0) (h : ∀ g' : SG, (∀ q, (q < 7 ∨ 13 < q) → g' q = g q) → chJ g' n sy a (cnN n sy + 1) → k2 (nI (a + 1)) g') : ∀ (u f : Nat), f ≤ cnN n sy → cnN n sy - f < u → P_X4_countByHour_38 post k2 u (nI a) (nI (bitsN (tA a 0))) (nI (bitsN (tA (foN a) 0))) (nI (bhS n sy (foN a) f)) (nI f) g := by
  have hc6 := cnN_le (sy := sy) hn
  intro u
  induction u with
  | zero => intro f _ h; exact absurd h (Nat.not_lt_zero _)
  | succ u ih =>
    intro f hf hu
    show B_X4_countByHour_38 post k2 (P_X4_countByHour_38 post k2 u) (nI a) (nI (bitsN (tA a 0))) (nI (bitsN (tA (foN a) 0))) (nI (bhS n sy (foN a) f)) (nI f) g
    unfold B_X4_countByHour_38
    rw [hK]
    refine ⟨fun c => ?_, fun c => ?_⟩
    · have c : cnN n sy ≤ f := (nj_le (by omega) (by omega)).mp c
      have : f = cnN n sy := by omega
      subst this
      rw [nj_cl (show a < 2147483648 by omega), nl 0, nj_cl (show 0 < 2147483648 by decide), ← hrN_0 n sy a]
      refine ⟨nj_in (by omega) (by decide), nj_in (by omega) (by decide), fun g3 e3 => ⟨8, ?_⟩⟩
      have rg : ∀ q, (q < 7 ∨ 13 < q) → g3 q = g q := fun q hq => by rw [e3, sput_r (by omega)]
      have z0 : g3 0 = g 0 := rg 0 (by omega)
      exact ch81 hn (fC_same (by rw [z0]) (by rw [z0]) (rg 3 (by omega)) (rg 4 (by omega)) hF) (by rw [z0]; exact hK) ha (fun g' q1 q2 => h g' (fun q hq => by rw [q1 q hq]; exact rg q hq) q2) 8 0 g3 (Nat.zero_le _) (by omega) (fun _ _ => rfl) (chJ_put e3 hJ)
    · have c : ¬ cnN n sy ≤ f := fun z => c ((nj_le (by omega) (by omega)).mpr z)
      refine s_mo3 (M := 520207) hn hF (bitsN_lt (tA_lt (tab_fo a ha).2 (by decide))) (by omega) (by decide) ?_
      intro z5 e5 z6 e6
      have e5 : z5 = nI (bhS n sy (foN a) (f + 1)) := by rw [e5, nI_add]; rfl
      have e6 : z6 = nI (f + 1) := by rw [e6, nl 1, nI_add]
      subst e5 e6
      exact ih (f + 1) (by omega) (by omega)
theorem ch2 {post : SG → Prop} {g : SG} {n : Nat} {sy : Nat → Nat} (hn : n ≤ 120) (hF : fC g n sy) (hK : g 0 10 = nI (cnN n sy)) (h : ∀ g' : SG, (∀ q, (q < 7 ∨ 13 < q) → g' q = g q) → chJ g' n sy 192 0 → post g') : ∀ (u a : Nat) (g' : SG), a ≤ 192 → 192 - a < u → (∀ q, (q < 7 ∨ 13 < q) → g' q = g q) → chJ g' n sy a 0 → P_X4_countByHour_2 post u (nI a) g' := by
  intro u
  induction u with
  | zero => intro a g' _ h; exact absurd h (Nat.not_lt_zero _)
  | succ u ih =>
    intro a g' ha hu j1 j2
    show B_X4_countByHour_2 post (P_X4_countByHour_2 post u) (nI a) g'
    unfold B_X4_countByHour_2
    refine ⟨fun c => ?_, fun c => ?_⟩
    · have c : 192 ≤ a := (nj_le (a := 192) (by decide) (by omega)).mp c
      have : a = 192 := by omega
      subst this
      exact h g' j1 j2
    · have c : ¬ 192 ≤ a := fun z => c ((nj_le (a := 192) (by decide) (by omega)).mpr z)
      have z0 : g' 0 = g 0 := j1 0 (by omega)
      have hF' : fC g' n sy := fC_same (by rw [z0]) (by rw [z0]) (j1 3 (by omega)) (j1 4 (by omega)) hF
      have ha : a < 192 := by omega
      refine s_timeAt (m := 0) ha (by decide) ?_
      refine s_bits3 (t := tA a 0) (tA_lt ha (by decide)) ?_
      refine s_timeAt (m := 59) ha (by decide) ?_
      refine s_next3 (t := tA a 59) (tA_lt ha (by decide)) ?_
      rw [(tab_fo a ha).1]
      refine s_bits3 (t := tA (foN a) 0) (tA_lt (tab_fo a ha).2 (by decide)) ?_
      refine ⟨8, ch38 (post := post) (k2 := P_X4_countByHour_2 post u) hn hF' (by rw [z0]; exact hK) ha j2 (fun g2 q1 q2 => ?_) 8 0 (Nat.zero_le _) (by have := cnN_le (sy := sy) hn; omega)⟩
      refine ih (a + 1) g2 (by omega) (by omega) (fun q hq => by rw [q1 q hq]; exact j1 q hq) (fun j b h2 h3 => ?_)
      refine q2 j b h2 ?_
      rcases h3 with h3 | ⟨h3, h4⟩
      · by_cases e : b = a
        · exact Or.inr ⟨e, by omega⟩
        · exact Or.inl (by omega)
      · omega
