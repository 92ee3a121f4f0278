/-! numbers that aren't negative; how many ones a number has -/
theorem nl (n : Nat) : (OfNat.ofNat n : Int32) = nI n := rfl
theorem sl_ok : ∀ k, k < 32 → ((nI k &&& 31).toBitVec.smod 32).toNat = k := by decide +kernel
theorem su_ok : ∀ k, k < 32 → (((nI k).toUInt32 &&& Int32.toUInt32 31).toBitVec % 32).toNat = k := by decide +kernel
theorem nj_div {a d : Nat} (ha : a < 2147483648) (h0 : 0 < d) (hd : d < 2147483648) : nI a / nI d = nI (a / d) := pk_div ha h0 hd
theorem nj_rem {a d : Nat} (ha : a < 2147483648) (h0 : 0 < d) (hd : d < 2147483648) : jrem (nI a) (nI d) = nI (a % d) := pk_rem ha h0 hd
theorem nj_shl {a k : Nat} (hk : k < 32) (h : a * 2 ^ k < 4294967296) : jshl (nI a) (nI k) = nI (a * 2 ^ k) := pk_shlN _ k (sl_ok k hk) h
theorem nj_shr {a k : Nat} (ha : a < 2147483648) (hk : k < 32) : jshr (nI a) (nI k) = nI (a / 2 ^ k) := pk_shrN ha _ k (sl_ok k hk)
theorem nj_ushr {a k : Nat} (ha : a < 4294967296) (hk : k < 32) : jushr (nI a) (nI k) = nI (a / 2 ^ k) := pk_ushrN ha _ k (su_ok k hk)
theorem nj_sub {a b : Nat} (h : b ≤ a) : nI a - nI b = nI (a - b) := pk_sub h
theorem nj_and (a b : Nat) : nI a &&& nI b = nI (a &&& b) := by
  apply Int32.toBitVec_inj.1
  show BitVec.ofNat 32 a &&& BitVec.ofNat 32 b = BitVec.ofNat 32 (a &&& b)
  apply BitVec.eq_of_getLsbD_eq
  intro i hi
  simp [hi]
theorem nj_or (a b : Nat) : nI a ||| nI b = nI (a ||| b) := by
  apply Int32.toBitVec_inj.1
  show BitVec.ofNat 32 a ||| BitVec.ofNat 32 b = BitVec.ofNat 32 (a ||| b)
  apply BitVec.eq_of_getLsbD_eq
  intro i hi
  simp [hi]
theorem nj_xor (a b : Nat) : nI a ^^^ nI b = nI (a ^^^ b) := by
  apply Int32.toBitVec_inj.1
  show BitVec.ofNat 32 a ^^^ BitVec.ofNat 32 b = BitVec.ofNat 32 (a ^^^ b)
  apply BitVec.eq_of_getLsbD_eq
  intro i hi
  simp [hi]
theorem nj_and1 (a : Nat) : nI a &&& nI 1 = nI (a % 2) := by rw [nj_and]; exact congrArg nI (Nat.and_two_pow_sub_one_eq_mod a 1)
theorem nj_eq {a b : Nat} (ha : a < 2147483648) (hb : b < 2147483648) : nI a = nI b ↔ a = b := nI_eq ha hb
theorem nj_le {a b : Nat} (ha : a < 2147483648) (hb : b < 2147483648) : nI a ≤ nI b ↔ a ≤ b := nI_leI ha hb
theorem nj_lt {a b : Nat} (ha : a < 2147483648) (hb : b < 2147483648) : nI a < nI b ↔ a < b := nI_ltI ha hb
theorem nj_cl {a : Nat} (ha : a < 2147483648) : (nI a).toNatClampNeg = a := nI_clamp ha
theorem nj_in {a n : Nat} (h : a < n) (hn : n < 2147483648) : vp_in (nI a) n := vp_in_nI h hn
theorem nj_ti {a : Nat} (ha : a < 2147483648) : (nI a).toInt = (a : Int) := nI_toInt ha
/-- the ones of the lowest k bits -/
def popF : Nat → Nat → Nat
  | 0, _ => 0
  | k + 1, n => n % 2 + popF k (n / 2)
def pop (n : Nat) : Nat := popF 20 n
theorem popF_le : ∀ (k n : Nat), popF k n ≤ k
  | 0, _ => Nat.le_refl _
  | k + 1, n => by
    have h := popF_le k (n / 2)
    unfold popF
    omega
theorem pop_le (n : Nat) : pop n ≤ 20 := popF_le 20 n
theorem popF_0 : ∀ k : Nat, popF k 0 = 0
  | 0 => rfl
  | k + 1 => by unfold popF; rw [show 0 / 2 = 0 from rfl, popF_0 k]
theorem popF_pos : ∀ (k n : Nat), n < 2 ^ k → 0 < n → 0 < popF k n
  | 0, n, h, h0 => by simp at h; omega
  | k + 1, n, h, h0 => by
    unfold popF
    by_cases h2 : n % 2 = 1
    · omega
    · have := popF_pos k (n / 2) (by rw [Nat.pow_succ] at h; omega) (by omega)
      omega
theorem popF_low : ∀ (k n : Nat), n < 2 ^ k → 0 < n → popF k (n &&& (n - 1)) + 1 = popF k n
  | 0, n, h, h0 => by simp at h; omega
  | k + 1, n, h, h0 => by
    have hd : (n &&& (n - 1)) / 2 = n / 2 &&& (n - 1) / 2 := Nat.and_div_two
    have hm : (n &&& (n - 1)) % 2 = 0 := by
      have hh := @Nat.and_mod_two_eq_one n (n - 1)
      have hlt : (n &&& (n - 1)) % 2 < 2 := Nat.mod_lt _ (by decide)
      by_cases hq : (n &&& (n - 1)) % 2 = 1
      · have := hh.mp hq
        omega
      · omega
    unfold popF
    rw [hm, hd]
    by_cases h2 : n % 2 = 1
    · have e : (n - 1) / 2 = n / 2 := by omega
      rw [e, Nat.and_self]
      omega
    · have e : (n - 1) / 2 = n / 2 - 1 := by omega
      rw [e]
      have := popF_low k (n / 2) (by rw [Nat.pow_succ] at h; omega) (by omega)
      omega
theorem popF_add : ∀ (j k a b : Nat), a < 2 ^ j → popF (j + k) (a + 2 ^ j * b) = popF j a + popF k b
  | 0, k, a, b, h => by
    simp at h
    subst h
    simp [popF]
  | j + 1, k, a, b, h => by
    have e : j + 1 + k = (j + k) + 1 := by omega
    rw [e]
    show (a + 2 ^ (j + 1) * b) % 2 + popF (j + k) ((a + 2 ^ (j + 1) * b) / 2) = a % 2 + popF j (a / 2) + popF k b
    have e2 : 2 ^ (j + 1) * b = 2 * (2 ^ j * b) := by rw [Nat.pow_succ]; simp [Nat.mul_comm, Nat.mul_left_comm]
    rw [e2]
    have e3 : (a + 2 * (2 ^ j * b)) % 2 = a % 2 := by omega
    have e4 : (a + 2 * (2 ^ j * b)) / 2 = a / 2 + 2 ^ j * b := by omega
    rw [e3, e4, popF_add j k (a / 2) b (by rw [Nat.pow_succ] at h; omega)]
    omega
theorem popF_more (k n j : Nat) (h : n < 2 ^ k) : popF (k + j) n = popF k n := by
  have := popF_add k j n 0 h
  rw [Nat.mul_zero, Nat.add_zero, popF_0] at this
  exact this
/-! the count of ones by halves (Integer.bitCount) -/
def sw1 (b : Nat) : Nat := b - (b / 2 &&& 85)
def sw2 (b : Nat) : Nat := (b &&& 51) + (b / 4 &&& 51)
theorem tb1 : ∀ b, b < 256 → ∀ e, e < 2 → ((b / 2 + 128 * e) &&& 85) = (b / 2 &&& 85) := by decide +kernel
theorem tb2 : ∀ b, b < 256 → ∀ e, e < 4 → ((b / 4 + 64 * e) &&& 51) = (b / 4 &&& 51) := by decide +kernel
theorem tb3 : ∀ b, b < 256 → sw1 b < 256 ∧ sw2 (sw1 b) % 16 ≤ 4 ∧ sw2 (sw1 b) / 16 ≤ 4 ∧ sw2 (sw1 b) % 16 + sw2 (sw1 b) / 16 = popF 8 b := by decide +kernel
theorem land3 (x M : Nat) : x &&& M = ((x % 256) &&& (M % 256)) + 256 * ((x / 256 % 256) &&& (M / 256 % 256)) + 65536 * ((x / 65536) &&& (M / 65536)) := by
  have h1 : (x &&& M) % 2 ^ 8 = (x % 2 ^ 8) &&& (M % 2 ^ 8) := Nat.and_mod_two_pow
  have h2 : (x &&& M) / 2 ^ 8 = x / 2 ^ 8 &&& M / 2 ^ 8 := Nat.and_div_two_pow
  have h3 : (x / 2 ^ 8 &&& M / 2 ^ 8) % 2 ^ 8 = (x / 2 ^ 8 % 2 ^ 8) &&& (M / 2 ^ 8 % 2 ^ 8) := Nat.and_mod_two_pow
  have h4 : (x &&& M) / 2 ^ 16 = x / 2 ^ 16 &&& M / 2 ^ 16 := Nat.and_div_two_pow
  simp only [show (2 : Nat) ^ 8 = 256 from rfl, show (2 : Nat) ^ 16 = 65536 from rfl] at h1 h2 h3 h4
  rw [← h1, ← h3, ← h2, ← h4]
  omega
theorem sw_1 {x : Nat} (hx : x < 524288) : x - (x / 2 &&& 1431655765) = sw1 (x % 256) + 256 * sw1 (x / 256 % 256) + 65536 * sw1 (x / 65536) := by
  rw [land3 (x / 2) 1431655765]
  have e0 : x / 2 % 256 = x % 256 / 2 + 128 * (x / 256 % 2) := by omega
  have e1 : x / 2 / 256 % 256 = x / 256 % 256 / 2 + 128 * (x / 65536 % 2) := by omega
  have e2 : x / 2 / 65536 = x / 65536 / 2 + 128 * 0 := by omega
  rw [e0, e1, e2]
  simp only [show 1431655765 % 256 = 85 from rfl, show 1431655765 / 256 % 256 = 85 from rfl]
  have e3 : (x / 65536 / 2 + 128 * 0) &&& (1431655765 / 65536) = x / 65536 / 2 &&& 85 := by
    have h8 : x / 65536 < 8 := by omega
    revert h8
    generalize x / 65536 = y
    revert y
    decide +kernel
  rw [e3, tb1 _ (by omega) _ (by omega), tb1 _ (by omega) _ (by omega)]
  unfold sw1
  have l0 : (x % 256 / 2 &&& 85) ≤ x % 256 / 2 := Nat.and_le_left
  have l1 : (x / 256 % 256 / 2 &&& 85) ≤ x / 256 % 256 / 2 := Nat.and_le_left
  have l2 : (x / 65536 / 2 &&& 85) ≤ x / 65536 / 2 := Nat.and_le_left
  omega
theorem sw_2 {a b c : Nat} (ha : a < 256) (hb : b < 256) (hc : c < 256) : ((a + 256 * b + 65536 * c) &&& 858993459) + ((a + 256 * b + 65536 * c) / 4 &&& 858993459) = sw2 a + 256 * sw2 b + 65536 * sw2 c := by
  rw [land3 (a + 256 * b + 65536 * c) 858993459, land3 ((a + 256 * b + 65536 * c) / 4) 858993459]
  have d0 : (a + 256 * b + 65536 * c) % 256 = a := by omega
  have d1 : (a + 256 * b + 65536 * c) / 256 % 256 = b := by omega
  have d2 : (a + 256 * b + 65536 * c) / 65536 = c := by omega
  have e0 : (a + 256 * b + 65536 * c) / 4 % 256 = a / 4 + 64 * (b % 4) := by omega
  have e1 : (a + 256 * b + 65536 * c) / 4 / 256 % 256 = b / 4 + 64 * (c % 4) := by omega
  have e2 : (a + 256 * b + 65536 * c) / 4 / 65536 = c / 4 := by omega
  rw [d0, d1, d2, e0, e1, e2]
  simp only [show 858993459 % 256 = 51 from rfl, show 858993459 / 256 % 256 = 51 from rfl]
  have e3 : ∀ y, y < 256 → y &&& (858993459 / 65536) = y &&& 51 := by decide +kernel
  have c4 : c / 4 < 256 := by omega
  rw [tb2 _ ha _ (by omega), tb2 _ hb _ (by omega), e3 _ hc, e3 _ c4]
  unfold sw2
  omega
theorem sw_30 {u v w : Nat} (hu : u < 256) (hv : v < 256) (hw : w < 256) : (u + 256 * v + 65536 * w) &&& 252645135 = u % 16 + 256 * (v % 16) + 65536 * (w % 16) := by
  rw [land3 (u + 256 * v + 65536 * w) 252645135]
  have e : ∀ z, z < 256 → z &&& 15 = z % 16 := by decide +kernel
  have e3 : ∀ z, z < 256 → z &&& (252645135 / 65536) = z % 16 := by decide +kernel
  have y0 : (u + 256 * v + 65536 * w) % 256 = u := by omega
  have y1 : (u + 256 * v + 65536 * w) / 256 % 256 = v := by omega
  have y2 : (u + 256 * v + 65536 * w) / 65536 = w := by omega
  rw [y0, y1, y2]
  simp only [show 252645135 % 256 = 15 from rfl, show 252645135 / 256 % 256 = 15 from rfl]
  rw [e _ hu, e _ hv, e3 _ hw]
theorem sw_31 {ah al bh bl ch cl : Nat} (h1 : al ≤ 4) (h2 : ah ≤ 4) (h3 : bl ≤ 4) (h4 : bh ≤ 4) (h5 : cl ≤ 4) (h6 : ch ≤ 4) : ((16 * ah + al + 256 * (16 * bh + bl) + 65536 * (16 * ch + cl)) + (16 * ah + al + 256 * (16 * bh + bl) + 65536 * (16 * ch + cl)) / 16) &&& 252645135 = (al + ah) + 256 * (bl + bh) + 65536 * (cl + ch) := by
  have q : (16 * ah + al + 256 * (16 * bh + bl) + 65536 * (16 * ch + cl)) / 16 = ah + 16 * (16 * bh + bl) + 4096 * (16 * ch + cl) := by omega
  rw [q]
  have y : (16 * ah + al + 256 * (16 * bh + bl) + 65536 * (16 * ch + cl)) + (ah + 16 * (16 * bh + bl) + 4096 * (16 * ch + cl)) = (al + ah + 16 * (ah + bl)) + 256 * (bl + bh + 16 * (bh + cl)) + 65536 * (cl + ch + 16 * ch) := by omega
  rw [y, sw_30 (by omega) (by omega) (by omega)]
  have r0 : (al + ah + 16 * (ah + bl)) % 16 = al + ah := by omega
  have r1 : (bl + bh + 16 * (bh + cl)) % 16 = bl + bh := by omega
  have r2 : (cl + ch + 16 * ch) % 16 = cl + ch := by omega
  rw [r0, r1, r2]
theorem sw_3 {a b c : Nat} (a1 : a % 16 ≤ 4) (a2 : a / 16 ≤ 4) (b1 : b % 16 ≤ 4) (b2 : b / 16 ≤ 4) (c1 : c % 16 ≤ 4) (c2 : c / 16 ≤ 4) : ((a + 256 * b + 65536 * c) + (a + 256 * b + 65536 * c) / 16) &&& 252645135 = (a % 16 + a / 16) + 256 * (b % 16 + b / 16) + 65536 * (c % 16 + c / 16) := by
  have h := sw_31 (ah := a / 16) (al := a % 16) (bh := b / 16) (bl := b % 16) (ch := c / 16) (cl := c % 16) a1 a2 b1 b2 c1 c2
  rw [Nat.div_add_mod a 16, Nat.div_add_mod b 16, Nat.div_add_mod c 16] at h
  exact h
theorem pop3 {x : Nat} (hx : x < 524288) : pop x = popF 8 (x % 256) + popF 8 (x / 256 % 256) + popF 8 (x / 65536) := by
  have h1 : popF 20 x = popF 8 (x % 256) + popF 12 (x / 256) := by
    have := popF_add 8 12 (x % 256) (x / 256) (by omega)
    rw [show x % 256 + 2 ^ 8 * (x / 256) = x from by omega] at this
    exact this
  have h2 : popF 12 (x / 256) = popF 8 (x / 256 % 256) + popF 4 (x / 65536) := by
    have := popF_add 8 4 (x / 256 % 256) (x / 65536) (by omega)
    rw [show x / 256 % 256 + 2 ^ 8 * (x / 65536) = x / 256 from by omega] at this
    exact this
  have h3 : popF 8 (x / 65536) = popF 4 (x / 65536) := popF_more 4 _ 4 (by omega)
  unfold pop
  omega
theorem s_bitCount {post : Int32 → Prop} {x : Nat} (hx : x < 524288) (h : post (nI (pop x))) : B_J6_bitCount_0f7a4_0 post (nI x) := by
  unfold B_J6_bitCount_0f7a4_0
  have t0 := tb3 (x % 256) (by omega)
  have t1 := tb3 (x / 256 % 256) (by omega)
  have t2 := tb3 (x / 65536) (by omega)
  have s1 := sw_1 hx
  have s2 := sw_2 t0.1 t1.1 t2.1
  have s3 := sw_3 t0.2.1 t0.2.2.1 t1.2.1 t1.2.2.1 t2.2.1 t2.2.2.1
  have hp := pop3 hx
  have l1 : (x / 2 &&& 1431655765) ≤ x / 2 := Nat.and_le_left
  intro z1 e1
  have e1 : z1 = nI (sw1 (x % 256) + 256 * sw1 (x / 256 % 256) + 65536 * sw1 (x / 65536)) := by
    rw [e1, nl 1, nl 1431655765, nj_ushr (by omega) (by decide), nj_and, show x / 2 ^ 1 = x / 2 from rfl, nj_sub (by omega), s1]
  subst e1
  intro z2 e2
  have e2 : z2 = nI (sw2 (sw1 (x % 256)) + 256 * sw2 (sw1 (x / 256 % 256)) + 65536 * sw2 (sw1 (x / 65536))) := by
    rw [e2, nl 2, nl 858993459, nj_ushr (by omega) (by decide), nj_and, nj_and, nI_add, show (2 : Nat) ^ 2 = 4 from rfl, s2]
  subst e2
  intro z3 e3
  have e3 : z3 = nI ((sw2 (sw1 (x % 256)) % 16 + sw2 (sw1 (x % 256)) / 16) + 256 * (sw2 (sw1 (x / 256 % 256)) % 16 + sw2 (sw1 (x / 256 % 256)) / 16) + 65536 * (sw2 (sw1 (x / 65536)) % 16 + sw2 (sw1 (x / 65536)) / 16)) := by
    rw [e3, nl 4, nl 252645135, nj_ushr (by omega) (by decide), nI_add, nj_and, show (2 : Nat) ^ 4 = 16 from rfl, s3]
  subst e3
  rw [t0.2.2.2, t1.2.2.2, t2.2.2.2]
  have q0 := popF_le 8 (x % 256)
  have q1 := popF_le 8 (x / 256 % 256)
  have q2 := popF_le 8 (x / 65536)
  intro z4 e4
  have e4 : z4 = nI ((popF 8 (x % 256) + 256 * popF 8 (x / 256 % 256) + 65536 * popF 8 (x / 65536)) + (popF 8 (x % 256) + 256 * popF 8 (x / 256 % 256) + 65536 * popF 8 (x / 65536)) / 256) := by
    rw [e4, nl 8, nj_ushr (by omega) (by decide), nI_add]
  subst e4
  intro z5 e5
  generalize hy : (popF 8 (x % 256) + 256 * popF 8 (x / 256 % 256) + 65536 * popF 8 (x / 65536)) + (popF 8 (x % 256) + 256 * popF 8 (x / 256 % 256) + 65536 * popF 8 (x / 65536)) / 256 = y at e5
  have e5 : z5 = nI (y + y / 65536) := by
    rw [e5, nl 16, nj_ushr (by omega) (by decide), nI_add]
  subst e5
  rw [nl 63, nj_and, show (63 : Nat) = 2 ^ 6 - 1 from rfl, Nat.and_two_pow_sub_one_eq_mod]
  have hf : (y + y / 65536) % 2 ^ 6 = pop x := by
    rw [hp]
    generalize popF 8 (x % 256) = p0 at q0 hy
    generalize popF 8 (x / 256 % 256) = p1 at q1 hy
    generalize popF 8 (x / 65536) = p2 at q2 hy
    have hy1 : (p0 + 256 * p1 + 65536 * p2) / 256 = p1 + 256 * p2 := by omega
    rw [hy1] at hy
    have hy2 : y / 65536 = p2 := by omega
    rw [hy2, show (2 : Nat) ^ 6 = 64 from rfl]
    omega
  rw [hf]
  exact h
/-! the reference's count of ones -/
theorem many_loop {post : Int32 → Prop} (x0 : Int32) : ∀ (f s c k : Nat), s < 1048576 → popF 20 s = k → k < f → post (nI (c + k)) → P_X6_many_4 post f x0 (nI c) (nI s) := by
  intro f
  induction f with
  | zero => intro s c k _ _ h _; exact absurd h (Nat.not_lt_zero _)
  | succ f ih =>
    intro s c k hs hk hf hp
    show B_X6_many_4 post (P_X6_many_4 post f) x0 (nI c) (nI s)
    unfold B_X6_many_4
    refine ⟨fun h0 => ?_, fun h0 => ?_⟩
    · have hs0 : s = 0 := (nj_eq (by omega) (by decide)).mp h0
      subst hs0
      rw [popF_0] at hk
      subst hk
      exact hp
    · have hs0 : 0 < s := by
        rcases Nat.eq_zero_or_pos s with h | h
        · subst h; exact absurd rfl h0
        · exact h
      have hl := popF_low 20 s hs hs0
      have hle : (s &&& (s - 1)) ≤ s := Nat.and_le_left
      intro z2 e2 z3 e3
      have e2 : z2 = nI (c + 1) := by rw [e2, nl 1, nI_add]
      have e3 : z3 = nI (s &&& (s - 1)) := by rw [e3, nl 1, nj_sub (by omega), nj_and]
      subst e2
      subst e3
      generalize hq : popF 20 (s &&& (s - 1)) = k2 at hl
      exact ih (s &&& (s - 1)) (c + 1) k2 (by omega) hq (by omega) (by rw [show c + 1 + k2 = c + k from by omega]; exact hp)
theorem s_many {post : Int32 → Prop} {x : Nat} (hx : x < 1048576) (h : post (nI (pop x))) : B_X6_many_0 post (nI x) :=
  ⟨pop x + 1, many_loop _ _ x 0 (pop x) hx rfl (Nat.lt_succ_self _) (by rw [Nat.zero_add]; exact h)⟩
