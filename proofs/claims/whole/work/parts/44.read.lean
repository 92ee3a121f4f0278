/-! one frame read -/
theorem and_mid (x lo n M : Nat) (hM : M = (2 ^ n - 1) * 2 ^ lo) : x &&& M = x / 2 ^ lo % 2 ^ n * 2 ^ lo := by
  subst hM
  have hp : 0 < 2 ^ lo := Nat.two_pow_pos lo
  have h1 : (x &&& (2 ^ n - 1) * 2 ^ lo) % 2 ^ lo = (x % 2 ^ lo) &&& ((2 ^ n - 1) * 2 ^ lo % 2 ^ lo) := Nat.and_mod_two_pow
  have h2 : (x &&& (2 ^ n - 1) * 2 ^ lo) / 2 ^ lo = x / 2 ^ lo &&& (2 ^ n - 1) * 2 ^ lo / 2 ^ lo := Nat.and_div_two_pow
  rw [Nat.mul_mod_left, Nat.and_zero] at h1
  rw [Nat.mul_div_cancel _ hp, Nat.and_two_pow_sub_one_eq_mod] at h2
  have h3 := Nat.div_add_mod (x &&& (2 ^ n - 1) * 2 ^ lo) (2 ^ lo)
  rw [h1, h2, Nat.add_zero, Nat.mul_comm] at h3
  exact h3.symm
/-- whether n bits from lo on are all ones -/
def clrP (k lo n : Nat) : Prop := k / 2 ^ lo % 2 ^ n = 2 ^ n - 1
theorem clrP_0 (k lo : Nat) : clrP k lo 0 := by
  show k / 2 ^ lo % 1 = 1 - 1
  omega
theorem clrP_succ (k lo n : Nat) : clrP k lo (n + 1) ↔ clrP k lo n ∧ k / 2 ^ (lo + n) % 2 = 1 := by
  unfold clrP
  rw [Nat.mod_pow_succ, Nat.div_div_eq_div_mul, ← Nat.pow_add, Nat.pow_succ]
  have h1 : k / 2 ^ lo % 2 ^ n < 2 ^ n := Nat.mod_lt _ (Nat.two_pow_pos n)
  have h2 : k / 2 ^ (lo + n) % 2 < 2 := Nat.mod_lt _ (by decide)
  generalize k / 2 ^ lo % 2 ^ n = a at h1 ⊢
  generalize k / 2 ^ (lo + n) % 2 = b at h2 ⊢
  generalize 2 ^ n = p at h1 ⊢
  rcases (show b = 0 ∨ b = 1 by omega) with rfl | rfl
  · rw [Nat.mul_zero]; omega
  · rw [Nat.mul_one]; omega
theorem clr_mask {k lo n M : Nat} (hM : M = (2 ^ n - 1) * 2 ^ lo) : k &&& M = M ↔ clrP k lo n := by
  rw [and_mid k lo n M hM, hM]
  unfold clrP
  exact ⟨fun h => Nat.eq_of_mul_eq_mul_right (Nat.two_pow_pos lo) h, fun h => by rw [h]⟩
theorem s_allC {post : Int32 → Prop} {g : SG} {n : Nat} {sy : Nat → Nat} (hn : n ≤ 120) (hF : fC g n sy) {f lo k M : Nat} (hf : f < cnN n sy) (hM : M = (2 ^ k - 1) * 2 ^ lo) (hM2 : M < 524288) (h1 : clrP (knN n sy f) lo k → post 1) (h0 : ¬ clrP (knN n sy f) lo k → post 0) : B_X0_allClear_0 post (nI f) (nI M) g := by
  have hc6 := cnN_le (sy := sy) hn
  have hkn : knN n sy f &&& M < 524288 := Nat.and_lt_two_pow (n := 19) _ hM2
  unfold B_X0_allClear_0 B_X0_allClear_17
  rw [nj_cl (by omega), (hF.2.2 f hf).1, nj_and, nj_eq (by omega) (by omega), clr_mask hM]
  exact ⟨nj_in (by omega) (by decide), fun d => ⟨nb0, h0 d⟩, fun d => ⟨nb1, h1 d⟩⟩
/-- what the reference's isClear has at j -/
theorem ic6 {post : Int32 → Prop} {g : SG} {n : Nat} {sy : Nat → Nat} (hn : n ≤ 120) (hF : fM g n sy) {f lo k : Nat} (hf : f < cnN n sy) (hlk : lo + k < 30) (hk0 : 0 < k) (h1 : clrP (knN n sy f) lo k → post 1) (h0 : ¬ clrP (knN n sy f) lo k → post 0) : ∀ (u j q : Nat), j ≤ k → k - j < u → q < 2 → (q = 1 ↔ clrP (knN n sy f) lo j) → P_X6_isClear_6 post g u (nI f) (nI lo) (nI (lo + k - 1)) (nI q) (nI (lo + j)) := by
  have hc6 := cnN_le (sy := sy) hn
  have hkn := knN_lt n sy f
  intro u
  induction u with
  | zero => intro j q _ h; exact absurd h (Nat.not_lt_zero _)
  | succ u ih =>
    intro j q hj hu hq hqc
    show B_X6_isClear_6 post (P_X6_isClear_6 post g u) (nI f) (nI lo) (nI (lo + k - 1)) (nI q) (nI (lo + j)) g
    unfold B_X6_isClear_6 B_X6_isClear_35 B_X6_isClear_36
    have z1e : ∀ z : Int32, z = nI (lo + j) + 1 → z = nI (lo + (j + 1)) := fun z e => by rw [e, nl 1, nI_add]; rfl
    refine ⟨fun d => ?_, fun d => ⟨fun e z1 e1 => ?_, fun e => ?_⟩⟩
    · have d := (nj_lt (by omega) (by omega)).mp d
      have : j = k := by omega
      subst this
      rcases (show q = 0 ∨ q = 1 by omega) with rfl | rfl
      · exact ⟨nb0, h0 (fun z => absurd (hqc.mpr z) (by decide))⟩
      · exact ⟨nb1, h1 (hqc.mp rfl)⟩
    · have d : ¬ lo + k - 1 < lo + j := fun z => d ((nj_lt (by omega) (by omega)).mpr z)
      have e := (nz hq).1.mp e
      rw [z1e z1 e1]
      refine ih (j + 1) 0 (by omega) (by omega) (by decide) ⟨fun z => absurd z (by decide), fun z => ?_⟩
      have := hqc.mpr ((clrP_succ _ _ _).mp z).1
      omega
    · have d : ¬ lo + k - 1 < lo + j := fun z => d ((nj_lt (by omega) (by omega)).mpr z)
      have e := (nz hq).2.mp e
      have m2 : knN n sy f / 2 ^ (lo + j) % 2 < 2 := Nat.mod_lt _ (by decide)
      rw [nj_cl (by omega), (hF.2.2 f hf).1]
      refine ⟨nj_in (by omega) (by decide), s_has (by omega) (by omega) ⟨fun e2 z1 e1 => ?_, fun e2 z1 e1 => ?_⟩⟩
      · have e2 := (nz m2).1.mp e2
        rw [z1e z1 e1]
        refine ih (j + 1) 0 (by omega) (by omega) (by decide) ⟨fun z => absurd z (by decide), fun z => ?_⟩
        have := ((clrP_succ _ _ _).mp z).2
        omega
      · have e2 := (nz m2).2.mp e2
        rw [z1e z1 e1]
        exact ih (j + 1) 1 (by omega) (by omega) (by decide) ⟨fun _ => (clrP_succ _ _ _).mpr ⟨hqc.mp e, e2⟩, fun _ => rfl⟩
theorem s_isC {post : Int32 → Prop} {g : SG} {n : Nat} {sy : Nat → Nat} (hn : n ≤ 120) (hF : fM g n sy) {f lo k : Nat} (hf : f < cnN n sy) (hlk : lo + k < 30) (hk0 : 0 < k) (h1 : clrP (knN n sy f) lo k → post 1) (h0 : ¬ clrP (knN n sy f) lo k → post 0) : B_X6_isClear_0 post (nI f) (nI lo) (nI (lo + k - 1)) g :=
  ⟨k + 1, ic6 hn hF hf hlk hk0 h1 h0 (k + 1) 0 1 (Nat.zero_le _) (by omega) (by decide) ⟨fun _ => clrP_0 _ _, fun _ => rfl⟩⟩
theorem s_val {post : Int32 → Prop} {g : SG} {n : Nat} {sy : Nat → Nat} (hn : n ≤ 120) (hF : fM g n sy) {f lo k : Nat} (hf : f < cnN n sy) (hlo : lo < 32) (hk : k < 20) (h : post (nI (onN n sy f / 2 ^ lo % 2 ^ k))) : B_X6_valueOf_0 post (nI f) (nI lo) (nI k) g := by
  have hc6 := cnN_le (sy := sy) hn
  have hon := onN_lt n sy f
  have hp : 2 ^ k < 2 ^ 20 := Nat.pow_lt_pow_right (by decide) hk
  have hp1 : 1 ≤ 2 ^ k := Nat.one_le_two_pow
  unfold B_X6_valueOf_0
  rw [nj_cl (by omega), (hF.2.2 f hf).2, nj_shr (by omega) hlo, nl 1, nj_shl (by omega) (by omega), Nat.one_mul, nj_sub hp1, nj_and, Nat.and_two_pow_sub_one_eq_mod]
  exact ⟨nj_in (by omega) (by decide), h⟩
theorem pop_sh {v lo k : Nat} (hv : v < 2 ^ k) (hlk : lo + k ≤ 20) : pop (v * 2 ^ lo) = pop v := by
  have h1 := popF_add lo (20 - lo) 0 v (Nat.two_pow_pos lo)
  rw [Nat.zero_add, popF_0, Nat.zero_add, show lo + (20 - lo) = 20 by omega, Nat.mul_comm] at h1
  have hv2 : v < 2 ^ (20 - lo) := Nat.lt_of_lt_of_le hv (Nat.pow_le_pow_right (by decide) (by omega))
  have h2 := popF_more (20 - lo) v lo hv2
  rw [show 20 - lo + lo = 20 by omega] at h2
  unfold pop
  rw [h1, h2]
/-- parity of bits lo .. lo + k - 1 of a frame -/
def parV (n : Nat) (sy : Nat → Nat) (f lo k : Nat) (b : Bool) : Int32 := if b then nI (1 - pop (onN n sy f / 2 ^ lo % 2 ^ k) % 2) else 2
theorem c_parity {post : Int32 → Prop} {g : SG} {n : Nat} {sy : Nat → Nat} (hn : n ≤ 120) (hF : fC g n sy) {f lo k M : Nat} (hf : f < cnN n sy) (hM : M = (2 ^ k - 1) * 2 ^ lo) (hM2 : M < 524288) (hlk : lo + k ≤ 20) (h1 : clrP (knN n sy f) lo k → post (parV n sy f lo k true)) (h0 : ¬ clrP (knN n sy f) lo k → post (parV n sy f lo k false)) : B_X0_parity_0 post (nI f) (nI M) g := by
  have hc6 := cnN_le (sy := sy) hn
  have hon : onN n sy f &&& M < 524288 := Nat.and_lt_two_pow (n := 19) _ hM2
  unfold B_X0_parity_0 B_X0_parity_32
  refine s_allC hn hF hf hM hM2 (fun d => ⟨fun _ => ?_, fun z => absurd z i10⟩) (fun d => ⟨fun z => absurd rfl z, fun _ => h0 d⟩)
  rw [nj_cl (by omega), (hF.2.2 f hf).2, nj_and]
  refine ⟨nj_in (by omega) (by decide), s_bitCount hon ?_⟩
  have hv : onN n sy f / 2 ^ lo % 2 ^ k < 2 ^ k := Nat.mod_lt _ (Nat.two_pow_pos k)
  have hpl := pop_le (onN n sy f / 2 ^ lo % 2 ^ k)
  rw [and_mid _ lo k M hM, pop_sh hv hlk, nl 2, nj_rem (by omega) (by decide) (by decide)]
  have hv1 := h1 d
  unfold parV at hv1
  rw [if_pos rfl] at hv1
  generalize hq : pop (onN n sy f / 2 ^ lo % 2 ^ k) % 2 = q at hv1 ⊢
  have hq2 : q < 2 := by omega
  refine ⟨fun e => ?_, fun e => ?_⟩
  · have e := (nz hq2).2.mp e
    subst e
    exact hv1
  · have e := (nz hq2).1.mp e
    subst e
    exact hv1
theorem m_parity {post : Int32 → Prop} {g : SG} {n : Nat} {sy : Nat → Nat} (hn : n ≤ 120) (hF : fM g n sy) {f lo k : Nat} (hf : f < cnN n sy) (hlk : lo + k ≤ 20) (hk0 : 0 < k) (hk2 : k < 20) (h1 : clrP (knN n sy f) lo k → post (parV n sy f lo k true)) (h0 : ¬ clrP (knN n sy f) lo k → post (parV n sy f lo k false)) : B_X6_parity_0 post (nI f) (nI lo) (nI (lo + k - 1)) g := by
  unfold B_X6_parity_0 B_X6_parity_32
  refine s_isC hn hF hf (by omega) hk0 (fun d => ⟨fun z => absurd z i10, fun _ => ?_⟩) (fun d => ⟨fun _ => h0 d, fun z => absurd rfl z⟩)
  have ek : nI (lo + k - 1) - nI lo + 1 = nI k := by
    rw [nj_sub (by omega), nl 1, nI_add]
    congr 1
    omega
  rw [ek]
  have hv : onN n sy f / 2 ^ lo % 2 ^ k < 2 ^ k := Nat.mod_lt _ (Nat.two_pow_pos k)
  have hk20 : 2 ^ k ≤ 2 ^ 20 := Nat.pow_le_pow_right (by decide) (by omega)
  have hpl := pop_le (onN n sy f / 2 ^ lo % 2 ^ k)
  refine s_val hn hF hf (by omega) hk2 (s_many (by omega) ?_)
  have hv1 := h1 d
  unfold parV at hv1
  rw [if_pos rfl] at hv1
  have e : (1 : Int32) - jrem (nI (pop (onN n sy f / 2 ^ lo % 2 ^ k))) 2 = nI (1 - pop (onN n sy f / 2 ^ lo % 2 ^ k) % 2) := by
    rw [nl 2, nj_rem (by omega) (by decide) (by decide), nl 1, nj_sub (by omega)]
  rw [e]
  exact hv1
/-- a number of two figures -/
def figV (v1 v2 lim : Nat) (b : Bool) : Int32 := if b = true ∧ v1 < 10 ∧ 10 * v2 + v1 < lim then nI (10 * v2 + v1) else -9
theorem c_fig {post : Int32 → Prop} {v1 v2 lim : Nat} (h1 : v1 < 100) (h2 : v2 < 100) (hl : lim < 1000) (h : post (figV v1 v2 lim true)) : B_X0_byFigures_0 post (nI v2) (nI v1) (nI lim) := by
  unfold B_X0_byFigures_0 B_X0_byFigures_18 B_X0_byFigures_24
  intro z1 e1
  rw [nl 10, pk_mul, nI_add] at e1
  subst e1
  unfold figV at h
  refine ⟨fun d => ?_, fun d => ⟨fun e => ?_, fun e => ?_⟩⟩
  · have d := (nj_lt (a := 9) (by decide) (by omega)).mp d
    rw [if_neg (by omega)] at h
    exact h
  · have d : ¬ 9 < v1 := fun z => d ((nj_lt (a := 9) (by decide) (by omega)).mpr z)
    have e := (nj_lt (by omega) (by omega)).mp e
    rw [if_pos ⟨rfl, by omega, e⟩] at h
    exact h
  · have e : ¬ 10 * v2 + v1 < lim := fun z => e ((nj_lt (by omega) (by omega)).mpr z)
    rw [if_neg (by omega)] at h
    exact h
theorem m_fig {post : Int32 → Prop} {g : SG} {n : Nat} {sy : Nat → Nat} (hn : n ≤ 120) (hF : fM g n sy) {f lo k lim : Nat} (hf : f < cnN n sy) (hlk : lo + (4 + k) ≤ 20) (hk0 : 0 < k) (hk2 : k < 4) (hl : lim < 1000) (h1 : clrP (knN n sy f) lo (4 + k) → post (figV (onN n sy f / 2 ^ lo % 2 ^ 4) (onN n sy f / 2 ^ (lo + 4) % 2 ^ k) (lim + 1) true)) (h0 : ¬ clrP (knN n sy f) lo (4 + k) → post (figV (onN n sy f / 2 ^ lo % 2 ^ 4) (onN n sy f / 2 ^ (lo + 4) % 2 ^ k) (lim + 1) false)) : B_X6_twoFigures_0 post (nI f) (nI lo) (nI (lo + (4 + k) - 1)) (nI lim) g := by
  unfold B_X6_twoFigures_0 B_X6_twoFigures_59 B_X6_twoFigures_61
  have ek : nI (lo + (4 + k) - 1) - nI lo - 3 = nI k := by
    rw [nj_sub (by omega), nl 3, nj_sub (by omega)]
    congr 1
    omega
  have e4 : nI lo + 4 = nI (lo + 4) := by rw [nl 4, nI_add]
  rw [ek, e4]
  refine s_val (k := 4) hn hF hf (by omega) (by decide) (s_val hn hF hf (by omega) (by omega) (fun z3 e3 => ?_))
  have v1 : onN n sy f / 2 ^ lo % 2 ^ 4 < 2 ^ 4 := Nat.mod_lt _ (by decide)
  have v2 : onN n sy f / 2 ^ (lo + 4) % 2 ^ k < 2 ^ k := Nat.mod_lt _ (Nat.two_pow_pos k)
  have hk16 : 2 ^ k ≤ 2 ^ 4 := Nat.pow_le_pow_right (by decide) (by omega)
  generalize onN n sy f / 2 ^ lo % 2 ^ 4 = a at *
  generalize onN n sy f / 2 ^ (lo + 4) % 2 ^ k = b at *
  rw [nl 10, pk_mul, nI_add] at e3
  subst e3
  unfold figV at h1 h0
  refine s_isC hn hF hf (by omega) (by omega) (fun d => ⟨fun z => absurd z i10, fun _ => ⟨fun e => ?_, fun e => ⟨fun e2 => ?_, fun e2 => ?_⟩⟩⟩) (fun d => ⟨fun _ => ?_, fun z => absurd rfl z⟩)
  · have e := (nj_le (a := 10) (by decide) (by omega)).mp e
    have := h1 d
    rw [if_neg (by omega)] at this
    exact this
  · have e2 := (nj_lt (by omega) (by omega)).mp e2
    have := h1 d
    rw [if_neg (by omega)] at this
    exact this
  · have e : ¬ 10 ≤ a := fun z => e ((nj_le (a := 10) (by decide) (by omega)).mpr z)
    have e2 : ¬ lim < 10 * b + a := fun z => e2 ((nj_lt (by omega) (by omega)).mpr z)
    have := h1 d
    rw [if_pos ⟨rfl, by omega, by omega⟩] at this
    exact this
  · have := h0 d
    rw [if_neg (fun z => absurd z.1 (by decide))] at this
    exact this
theorem c_min {post : Int32 → Prop} {g : SG} {n : Nat} {sy : Nat → Nat} (hn : n ≤ 120) (hF : fC g n sy) {f : Nat} (hf : f < cnN n sy) (h1 : clrP (knN n sy f) 4 (4 + 3) → post (figV (onN n sy f / 2 ^ 4 % 2 ^ 4) (onN n sy f / 2 ^ (4 + 4) % 2 ^ 3) (59 + 1) true)) (h0 : ¬ clrP (knN n sy f) 4 (4 + 3) → post (figV (onN n sy f / 2 ^ 4 % 2 ^ 4) (onN n sy f / 2 ^ (4 + 4) % 2 ^ 3) (59 + 1) false)) : B_X0_minuteOfHour_0 post (nI f) g := by
  have hc6 := cnN_le (sy := sy) hn
  have hon := onN_lt n sy f
  unfold B_X0_minuteOfHour_0
  refine s_allC (M := 2032) (lo := 4) (k := 4 + 3) hn hF hf (by decide) (by decide) (fun d => ⟨fun _ => ?_, fun z => absurd z i10⟩) (fun d => ⟨fun z => absurd rfl z, fun _ => ?_⟩)
  · have e1 : (jshr (nI (onN n sy f)) 8 &&& 7) = nI (onN n sy f / 2 ^ (4 + 4) % 2 ^ 3) := by
      rw [nl 8, nl 7, nj_shr (by omega) (by decide), nj_and, show (7 : Nat) = 2 ^ 3 - 1 from rfl, Nat.and_two_pow_sub_one_eq_mod]
    have e2 : (jshr (nI (onN n sy f)) 4 &&& 15) = nI (onN n sy f / 2 ^ 4 % 2 ^ 4) := by
      rw [nl 4, nl 15, nj_shr (by omega) (by decide), nj_and, show (15 : Nat) = 2 ^ 4 - 1 from rfl, Nat.and_two_pow_sub_one_eq_mod]
    have v1 : onN n sy f / 2 ^ 4 % 2 ^ 4 < 2 ^ 4 := Nat.mod_lt _ (by decide)
    have v2 : onN n sy f / 2 ^ (4 + 4) % 2 ^ 3 < 2 ^ 3 := Nat.mod_lt _ (by decide)
    rw [nj_cl (by omega), (hF.2.2 f hf).2, e1, e2]
    exact ⟨nj_in (by omega) (by decide), nj_in (by omega) (by decide), c_fig (lim := 59 + 1) (by omega) (by omega) (by decide) (h1 d)⟩
  · have := h0 d
    unfold figV at this
    rw [if_neg (fun z => absurd z.1 (by decide))] at this
    exact this
theorem c_hour {post : Int32 → Prop} {g : SG} {n : Nat} {sy : Nat → Nat} (hn : n ≤ 120) (hF : fC g n sy) {f : Nat} (hf : f < cnN n sy) (h1 : clrP (knN n sy f) 12 (4 + 2) → post (figV (onN n sy f / 2 ^ 12 % 2 ^ 4) (onN n sy f / 2 ^ (12 + 4) % 2 ^ 2) (23 + 1) true)) (h0 : ¬ clrP (knN n sy f) 12 (4 + 2) → post (figV (onN n sy f / 2 ^ 12 % 2 ^ 4) (onN n sy f / 2 ^ (12 + 4) % 2 ^ 2) (23 + 1) false)) : B_X0_hour_0 post (nI f) g := by
  have hc6 := cnN_le (sy := sy) hn
  have hon := onN_lt n sy f
  unfold B_X0_hour_0
  refine s_allC (M := 258048) (lo := 12) (k := 4 + 2) hn hF hf (by decide) (by decide) (fun d => ⟨fun _ => ?_, fun z => absurd z i10⟩) (fun d => ⟨fun z => absurd rfl z, fun _ => ?_⟩)
  · have e1 : (jshr (nI (onN n sy f)) 16 &&& 3) = nI (onN n sy f / 2 ^ (12 + 4) % 2 ^ 2) := by
      rw [nl 16, nl 3, nj_shr (by omega) (by decide), nj_and, show (3 : Nat) = 2 ^ 2 - 1 from rfl, Nat.and_two_pow_sub_one_eq_mod]
    have e2 : (jshr (nI (onN n sy f)) 12 &&& 15) = nI (onN n sy f / 2 ^ 12 % 2 ^ 4) := by
      rw [nl 12, nl 15, nj_shr (by omega) (by decide), nj_and, show (15 : Nat) = 2 ^ 4 - 1 from rfl, Nat.and_two_pow_sub_one_eq_mod]
    have v1 : onN n sy f / 2 ^ 12 % 2 ^ 4 < 2 ^ 4 := Nat.mod_lt _ (by decide)
    have v2 : onN n sy f / 2 ^ (12 + 4) % 2 ^ 2 < 2 ^ 2 := Nat.mod_lt _ (by decide)
    rw [nj_cl (by omega), (hF.2.2 f hf).2, e1, e2]
    exact ⟨nj_in (by omega) (by decide), nj_in (by omega) (by decide), c_fig (lim := 23 + 1) (by omega) (by omega) (by decide) (h1 d)⟩
  · have := h0 d
    unfold figV at this
    rw [if_neg (fun z => absurd z.1 (by decide))] at this
    exact this
def clrB (k lo n : Nat) : Bool := decide (k / 2 ^ lo % 2 ^ n = 2 ^ n - 1)
/-- what read answers, w between 0 and 8 -/
def reaV (r : Nat → Nat) (f w : Nat) : Int32 := if w = 0 then nI (fiN (r 0) (syR r) + 20 * f) else if w = 1 then parV (r 0) (syR r) f 4 8 (clrB (knN (r 0) (syR r) f) 4 8) else if w = 2 then parV (r 0) (syR r) f 12 7 (clrB (knN (r 0) (syR r) f) 12 7) else if w = 3 then figV (onN (r 0) (syR r) f / 2 ^ 4 % 2 ^ 4) (onN (r 0) (syR r) f / 2 ^ (4 + 4) % 2 ^ 3) (59 + 1) (clrB (knN (r 0) (syR r) f) 4 (4 + 3)) else if w = 4 then figV (onN (r 0) (syR r) f / 2 ^ 12 % 2 ^ 4) (onN (r 0) (syR r) f / 2 ^ (12 + 4) % 2 ^ 2) (23 + 1) (clrB (knN (r 0) (syR r) f) 12 (4 + 2)) else if w = 8 then nI (wrN (r 0) (syR r) (laterN (beN (r 0) (syR r)) f) f) else nI (syR r (fiN (r 0) (syR r) + 20 * f + w - 4))
theorem dec_t {k lo n : Nat} (h : clrP k lo n) : clrB k lo n = true := decide_eq_true h
theorem dec_f {k lo n : Nat} (h : ¬ clrP k lo n) : clrB k lo n = false := decide_eq_false h
section AR
variable {r : Nat → Nat} {R : Nat → Nat → Nat} {u c : Nat} {I : Nat → Nat → Nat} {kp : Nat → Nat}
theorem c_read {post : Int32 → SG → Prop} {g : SG} {f w : Nat} (hI : CI g r R u c I kp) (hf : f < cnN (r 0) (syR r)) (hw : w ≤ 8) (h : ∀ g' : SG, CI g' r R u c I kp → post (reaV r f w) g') : B_X5_read_0 post (nI f) (nI w) g := by
  have hn := hI.1.2.1
  have hc6 := cnN_le (sy := syR r) hn
  have hfi : fiN (r 0) (syR r) < 20 := Nat.mod_lt _ (by decide)
  have hin := (cnN_iff (n := r 0) (sy := syR r) f).mp hf
  have hle : nI w ≤ 8 := (nj_le (b := 8) (by omega) (by decide)).mpr hw
  have p : ∀ v : Int32, reaV r f w = v → ∀ g' : SG, CI g' r R u c I kp → post v g' := fun v e g' hc => e ▸ h g' hc
  unfold reaV at p
  have q : ∀ g1 : SG, CI g1 r R u c I kp → fC g1 (r 0) (syR r) → (w = 5 ∨ w = 6 ∨ w = 7) → B_X5_read_132 post (nI f) (nI w) g1 := by
    intro g1 h1 f1 hw5
    unfold B_X5_read_132
    refine s_first3 f1.1 (by omega) ?_
    have es : nI (fiN (r 0) (syR r) + 20 * f) + nI w - 4 = nI (fiN (r 0) (syR r) + 20 * f + w - 4) := by rw [nI_add, nl 4, nj_sub (by omega)]
    have e0 : g1 20 0 = nI (r 0) := h1.1.1.1
    have e40 : g1 40 (fiN (r 0) (syR r) + 20 * f + w - 4) = nI (syR r (fiN (r 0) (syR r) + 20 * f + w - 4)) := h1.1.1.2.2.2.2.2 _ (by omega)
    rw [es]
    unfold B_X5_symbol_0 B_X5_symbol_28
    rw [e0, nj_cl (by omega), e40]
    refine ⟨fun z => absurd z (ge0 (by omega)), fun _ => ⟨fun _ => ⟨nj_in (by omega) (by decide), p _ ?_ g1 h1⟩, fun z => absurd ((nj_lt (by omega) (by omega)).mpr (by omega)) z⟩⟩
    rw [if_neg (by omega), if_neg (by omega), if_neg (by omega), if_neg (by omega), if_neg (by omega), if_neg (by omega)]
  unfold B_X5_read_0
  refine c_frames hI (fun g1 h1 f1 _ => ?_)
  rw [f1.2.1, nj_ti (a := w) (by omega)]
  refine ⟨fun z => absurd z (ge0 (by omega)), fun _ => ⟨fun z => absurd ((nj_le (by omega) (by omega)).mp z) (by omega), fun _ => ⟨fun z => absurd z (ge0 (by omega)), fun _ => ⟨fun _ => ⟨fun z => absurd z (by omega), fun d => ?_, fun d => ?_, fun d => ?_, fun d => ?_, fun d => ?_, fun d => q g1 h1 f1 (by omega), fun d => q g1 h1 f1 (by omega), fun d => q g1 h1 f1 (by omega), fun d => ?_⟩, fun z => absurd hle z⟩⟩⟩⟩
  · exact s_first3 f1.1 (by omega) (p _ (by rw [if_pos (by omega)]) g1 h1)
  · refine c_parity (M := 4080) (lo := 4) (k := 8) hn f1 hf (by decide) (by decide) (by decide) (fun e => p _ ?_ g1 h1) (fun e => p _ ?_ g1 h1)
    · rw [if_neg (by omega), if_pos (by omega), dec_t e]
    · rw [if_neg (by omega), if_pos (by omega), dec_f e]
  · refine c_parity (M := 520192) (lo := 12) (k := 7) hn f1 hf (by decide) (by decide) (by decide) (fun e => p _ ?_ g1 h1) (fun e => p _ ?_ g1 h1)
    · rw [if_neg (by omega), if_neg (by omega), if_pos (by omega), dec_t e]
    · rw [if_neg (by omega), if_neg (by omega), if_pos (by omega), dec_f e]
  · refine c_min hn f1 hf (fun e => p _ ?_ g1 h1) (fun e => p _ ?_ g1 h1)
    · rw [if_neg (by omega), if_neg (by omega), if_neg (by omega), if_pos (by omega), dec_t e]
    · rw [if_neg (by omega), if_neg (by omega), if_neg (by omega), if_pos (by omega), dec_f e]
  · refine c_hour hn f1 hf (fun e => p _ ?_ g1 h1) (fun e => p _ ?_ g1 h1)
    · rw [if_neg (by omega), if_neg (by omega), if_neg (by omega), if_neg (by omega), if_pos (by omega), dec_t e]
    · rw [if_neg (by omega), if_neg (by omega), if_neg (by omega), if_neg (by omega), if_pos (by omega), dec_f e]
  · refine c_vote h1 (fun g2 h2 v2 k2 _ => ?_)
    rw [v2.2.1]
    refine s_later3 (beN_lt _ _) (by omega) (s_wrong3 hn (k2 f1) (laterN_lt (beN_lt _ _) f) hf (p _ ?_ g2 h2))
    rw [if_neg (by omega), if_neg (by omega), if_neg (by omega), if_neg (by omega), if_neg (by omega), if_pos (by omega)]
theorem m_read {post : Int32 → SG → Prop} {g : SG} {f w : Nat} (hI : MI g r R u c I kp) (hf : f < cnN (r 0) (syR r)) (hw : w ≤ 8) (h : ∀ g' : SG, MI g' r R u c I kp → post (reaV r f w) g') : B_X6_read_0 post (nI f) (nI w) g := by
  have hn := hI.1.2.1
  have hc6 := cnN_le (sy := syR r) hn
  have hfi : fiN (r 0) (syR r) < 20 := Nat.mod_lt _ (by decide)
  have hin := (cnN_iff (n := r 0) (sy := syR r) f).mp hf
  have p : ∀ v : Int32, reaV r f w = v → ∀ g' : SG, MI g' r R u c I kp → post v g' := fun v e g' hc => e ▸ h g' hc
  unfold reaV at p
  have q : ∀ g1 : SG, MI g1 r R u c I kp → tM g1 (r 0) (syR r) → (w = 5 ∨ w = 6 ∨ w = 7) → B_X6_read_142 post (nI f) (nI w) g1 := by
    intro g1 h1 t1 hw5
    unfold B_X6_read_142
    refine s_first6 t1.1.1 (by omega) ?_
    have es : nI (fiN (r 0) (syR r) + 20 * f) + nI w - 4 = nI (fiN (r 0) (syR r) + 20 * f + w - 4) := by rw [nI_add, nl 4, nj_sub (by omega)]
    rw [es]
    refine s_symAt (by omega) ?_
    rw [((m_rowM h1).2.2 _ (by omega)).1]
    refine p _ ?_ g1 h1
    rw [if_neg (by omega), if_neg (by omega), if_neg (by omega), if_neg (by omega), if_neg (by omega), if_neg (by omega)]
  unfold B_X6_read_0
  refine m_tells hI (fun g1 h1 t1 _ _ => ?_)
  rw [t1.1.2.1, nj_ti (a := w) (by omega)]
  refine s_in_p (by omega) (fun j hj _ => ⟨fun z => absurd z i10, fun _ => s_in_y (lo := 0) (hi := 8) (by omega) hw (by decide) ⟨fun _ => ⟨fun z => absurd z (by omega), fun d => ?_, fun d => ?_, fun d => ?_, fun d => ?_, fun d => ?_, fun d => q g1 h1 t1 (by omega), fun d => q g1 h1 t1 (by omega), fun d => q g1 h1 t1 (by omega), fun d => ?_⟩, fun z => absurd z i10⟩⟩) (fun z => absurd ⟨f, hf, rfl⟩ z)
  · exact s_first6 t1.1.1 (by omega) (p _ (by rw [if_pos (by omega)]) g1 h1)
  · refine m_parity (lo := 4) (k := 8) hn t1.1 hf (by decide) (by decide) (by decide) (fun e => p _ ?_ g1 h1) (fun e => p _ ?_ g1 h1)
    · rw [if_neg (by omega), if_pos (by omega), dec_t e]
    · rw [if_neg (by omega), if_pos (by omega), dec_f e]
  · refine m_parity (lo := 12) (k := 7) hn t1.1 hf (by decide) (by decide) (by decide) (fun e => p _ ?_ g1 h1) (fun e => p _ ?_ g1 h1)
    · rw [if_neg (by omega), if_neg (by omega), if_pos (by omega), dec_t e]
    · rw [if_neg (by omega), if_neg (by omega), if_pos (by omega), dec_f e]
  · refine m_fig (lo := 4) (k := 3) (lim := 59) hn t1.1 hf (by decide) (by decide) (by decide) (by decide) (fun e => p _ ?_ g1 h1) (fun e => p _ ?_ g1 h1)
    · rw [if_neg (by omega), if_neg (by omega), if_neg (by omega), if_pos (by omega), dec_t e]
    · rw [if_neg (by omega), if_neg (by omega), if_neg (by omega), if_pos (by omega), dec_f e]
  · refine m_fig (lo := 12) (k := 2) (lim := 23) hn t1.1 hf (by decide) (by decide) (by decide) (by decide) (fun e => p _ ?_ g1 h1) (fun e => p _ ?_ g1 h1)
    · rw [if_neg (by omega), if_neg (by omega), if_neg (by omega), if_neg (by omega), if_pos (by omega), dec_t e]
    · rw [if_neg (by omega), if_neg (by omega), if_neg (by omega), if_neg (by omega), if_pos (by omega), dec_f e]
  · rw [t1.2.2.1]
    refine s_later6 (beN_lt _ _) (by omega) (s_wrong6 hn t1.1 (laterN_lt (beN_lt _ _) f) hf (p _ ?_ g1 h1))
    rw [if_neg (by omega), if_neg (by omega), if_neg (by omega), if_neg (by omega), if_neg (by omega), if_pos (by omega)]
end AR
theorem sim_read (g h : SG) (x1 x2 : Int32) (hI : Inv0 g h) : B_X5_read_0 (fun r g3 => B_X6_read_0 (fun r2 h3 => r = r2 ∧ Inv0 g3 h3) x1 x2 h) x1 x2 g := by
  obtain ⟨r, R, u, c, I, kp, hc, hm⟩ := hI
  have hc6 := cnN_le (sy := syR r) hc.1.2.1
  by_cases hx : ∃ k, k < cnN (r 0) (syR r) ∧ x1 = nI k
  · obtain ⟨f, hf, rfl⟩ := hx
    by_cases hy : ∃ k, 0 ≤ k ∧ k ≤ 8 ∧ x2 = nI k
    · obtain ⟨w, _, hw, rfl⟩ := hy
      exact c_read hc hf hw (fun g3 hc3 => m_read hm hf hw (fun h3 hm3 => ⟨rfl, _, _, _, _, _, _, hc3, hm3⟩))
    · have bad : ∀ g1 : SG, CI g1 r R u c I kp → B_X6_read_0 (fun r2 h3 => -1 = r2 ∧ Inv0 g1 h3) (nI f) x2 h := by
        intro g1 h1
        unfold B_X6_read_0 B_X6_read_28
        refine m_tells hm (fun h1' hm1 t1 _ _ => ?_)
        rw [t1.1.2.1]
        exact s_in_p (by omega) (fun j hj _ => ⟨fun z => absurd z i10, fun _ => s_in_n (lo := 0) (hi := 8) (by decide) (by decide) hy ⟨fun z => absurd rfl z, fun _ => ⟨rfl, _, _, _, _, _, _, h1, hm1⟩⟩⟩) (fun z => absurd ⟨f, hf, rfl⟩ z)
      unfold B_X5_read_0 B_X5_read_27
      refine c_frames hc (fun g1 h1 f1 _ => ?_)
      exact ⟨fun _ => bad g1 h1, fun _ => ⟨fun _ => bad g1 h1, fun _ => ⟨fun _ => bad g1 h1, fun c1 => ⟨fun c2 => (out_no (lo := 0) (hi := 8) (by decide) (by decide) hy c1 (Int32.not_lt.mpr c2)).elim, fun _ => bad g1 h1⟩⟩⟩⟩
  · have bad : ∀ g1 : SG, CI g1 r R u c I kp → B_X6_read_0 (fun r2 h3 => -1 = r2 ∧ Inv0 g1 h3) x1 x2 h := by
      intro g1 h1
      unfold B_X6_read_0 B_X6_read_28
      refine m_tells hm (fun h1' hm1 t1 _ _ => ?_)
      rw [t1.1.2.1]
      exact s_in_p (by omega) (fun j hj e => absurd ⟨j, hj, e⟩ hx) (fun _ => ⟨fun _ => ⟨rfl, _, _, _, _, _, _, h1, hm1⟩, fun z => absurd rfl z⟩)
    unfold B_X5_read_0 B_X5_read_27
    refine c_frames hc (fun g1 h1 f1 _ => ?_)
    rw [f1.2.1]
    refine ⟨fun _ => bad g1 h1, fun c1 => ⟨fun _ => bad g1 h1, fun c2 => (hx ?_).elim⟩⟩
    obtain ⟨j, hj, rfl⟩ := nI_of c1
    exact ⟨j, Nat.lt_of_not_le (fun z => c2 ((nj_le (by omega) hj).mpr z)), rfl⟩
