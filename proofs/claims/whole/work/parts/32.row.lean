/-! tables of ints: what is copied, shifted, put at the end; rows, and what the document tells of them -/
theorem sput_if (g : SG) (a i : Nat) (v : Int32) (b j : Nat) : sput g a i v b j = if b = a ∧ j = i then v else g b j := by
  unfold sput
  by_cases h1 : b = a
  · by_cases h2 : j = i
    · subst h1; subst h2; simp
    · have e : Nat.beq j i = false := by
        cases hq : Nat.beq j i with
        | false => rfl
        | true => exact absurd (Nat.eq_of_beq_eq_true hq) h2
      simp [h2, e]
  · have e : Nat.beq b a = false := by
      cases hq : Nat.beq b a with
      | false => rfl
      | true => exact absurd (Nat.eq_of_beq_eq_true hq) h1
    simp [h1, e]
theorem sput_s (g : SG) (a i : Nat) (v : Int32) : sput g a i v a i = v := by rw [sput_if, if_pos ⟨rfl, rfl⟩]
theorem sput_r {g : SG} {a i b : Nat} {v : Int32} (h : b ≠ a) : sput g a i v b = g b := by
  funext j
  rw [sput_if, if_neg (fun z => h z.1)]
theorem sput_i {g : SG} {a i b j : Nat} {v : Int32} (h : j ≠ i) : sput g a i v b j = g b j := by rw [sput_if, if_neg (fun z => h z.2)]
/-- n places from (rd, od) on are as those from (rs, os) on -/
def cpR (g : SG) (rd od rs os n : Nat) : SG := fun r j => if r = rd ∧ od ≤ j ∧ j < od + n then g rs (os + (j - od)) else g r j
theorem cpR_0 (g : SG) (rd od rs os : Nat) : cpR g rd od rs os 0 = g := by
  funext r j
  unfold cpR
  rw [if_neg (by omega)]
theorem cpR_o {g : SG} {rd od rs os n r : Nat} (h : r ≠ rd) : cpR g rd od rs os n r = g r := by
  funext j
  unfold cpR
  rw [if_neg (fun z => h z.1)]
theorem cpR_i {g : SG} {rd od rs os n k : Nat} (h : k < n) : cpR g rd od rs os n rd (od + k) = g rs (os + k) := by
  unfold cpR
  rw [if_pos ⟨rfl, by omega, by omega⟩, show od + k - od = k by omega]
theorem cpR_x {g : SG} {rd od rs os n j : Nat} (h : j < od ∨ od + n ≤ j) : cpR g rd od rs os n rd j = g rd j := by
  unfold cpR
  rw [if_neg (by omega)]
theorem cpR_succ (g : SG) (rd od rs os n : Nat) : sput (cpR g rd od rs os n) rd (od + n) (g rs (os + n)) = cpR g rd od rs os (n + 1) := by
  funext r j
  rw [sput_if]
  unfold cpR
  by_cases h : r = rd ∧ j = od + n
  · obtain ⟨rfl, rfl⟩ := h
    rw [if_pos ⟨rfl, rfl⟩, if_pos ⟨rfl, by omega, by omega⟩, show od + n - od = n by omega]
  · rw [if_neg h]
    by_cases h2 : r = rd ∧ od ≤ j ∧ j < od + n
    · rw [if_pos h2, if_pos ⟨h2.1, h2.2.1, by omega⟩]
    · rw [if_neg h2, if_neg (fun z => h2 ⟨z.1, z.2.1, by
        have : ¬ j = od + n := fun e => h ⟨z.1, e⟩
        omega⟩)]
/-- m places from o on are as those n further on -/
def shR (g : SG) (rg o n m : Nat) : SG := fun r j => if r = rg ∧ o ≤ j ∧ j < o + m then g rg (j + n) else g r j
theorem shR_0 (g : SG) (rg o n : Nat) : shR g rg o n 0 = g := by
  funext r j
  unfold shR
  rw [if_neg (by omega)]
theorem shR_succ (g : SG) (rg o n m : Nat) : sput (shR g rg o n m) rg (o + m) (g rg (o + m + n)) = shR g rg o n (m + 1) := by
  funext r j
  rw [sput_if]
  unfold shR
  by_cases h : r = rg ∧ j = o + m
  · obtain ⟨rfl, rfl⟩ := h
    rw [if_pos ⟨rfl, rfl⟩, if_pos ⟨rfl, by omega, by omega⟩]
  · rw [if_neg h]
    by_cases h2 : r = rg ∧ o ≤ j ∧ j < o + m
    · rw [if_pos h2, if_pos ⟨h2.1, h2.2.1, by omega⟩]
    · rw [if_neg h2, if_neg (fun z => h2 ⟨z.1, z.2.1, by
        have : ¬ j = o + m := fun e => h ⟨z.1, e⟩
        omega⟩)]
theorem shR_x {g : SG} {rg o n m j : Nat} (h : o + m ≤ j) : shR g rg o n m rg j = g rg j := by
  unfold shR
  rw [if_neg (by omega)]
theorem shR_o {g : SG} {rg o n m r : Nat} (h : r ≠ rg) : shR g rg o n m r = g r := by
  funext j
  unfold shR
  rw [if_neg (fun z => h z.1)]
theorem shR_i {g : SG} {rg o n m k : Nat} (h : k < m) : shR g rg o n m rg (o + k) = g rg (o + k + n) := by
  unfold shR
  rw [if_pos ⟨rfl, by omega, by omega⟩]
/-- k symbols f are put behind n ones: they lie in rg from bs on, their number at (rs, 0) -/
def apS (g : SG) (rs rg bs n : Nat) (f : Nat → Nat) (k : Nat) : SG := fun r j => if r = rg ∧ bs + n ≤ j ∧ j < bs + n + k then nI (f (j - (bs + n))) else if r = rs ∧ j = 0 then nI (n + k) else g r j
theorem apS_0 {g : SG} {rs rg bs n : Nat} {f : Nat → Nat} (h : g rs 0 = nI n) : apS g rs rg bs n f 0 = g := by
  funext r j
  unfold apS
  rw [if_neg (by omega)]
  by_cases h2 : r = rs ∧ j = 0
  · rw [if_pos h2, h2.1, h2.2, h]; rfl
  · rw [if_neg h2]
theorem apS_n {g : SG} {rs rg bs n : Nat} {f : Nat → Nat} {k : Nat} (h : 0 < bs + n ∨ rs ≠ rg) : apS g rs rg bs n f k rs 0 = nI (n + k) := by
  unfold apS
  rw [if_neg (by omega), if_pos ⟨rfl, rfl⟩]
theorem apS_succ {g : SG} {rs rg bs n : Nat} {f : Nat → Nat} {k : Nat} (h : 0 < bs + n ∨ rs ≠ rg) : sput (sput (apS g rs rg bs n f k) rg (bs + n + k) (nI (f k))) rs 0 (nI (n + k + 1)) = apS g rs rg bs n f (k + 1) := by
  funext r j
  rw [sput_if, sput_if]
  unfold apS
  by_cases h1 : r = rs ∧ j = 0
  · rw [if_pos h1, if_neg (by omega), if_pos h1]; rfl
  · rw [if_neg h1, if_neg h1, if_neg h1]
    by_cases h2 : r = rg ∧ j = bs + n + k
    · rw [if_pos h2, if_pos ⟨h2.1, by omega, by omega⟩, h2.2, show bs + n + k - (bs + n) = k by omega]
    · rw [if_neg h2]
      by_cases h3 : r = rg ∧ bs + n ≤ j ∧ j < bs + n + k
      · rw [if_pos h3, if_pos ⟨h3.1, h3.2.1, by omega⟩]
      · rw [if_neg h3, if_neg (fun z => h3 ⟨z.1, z.2.1, by
          have : ¬ j = bs + n + k := fun e => h2 ⟨z.1, e⟩
          omega⟩)]
theorem apS_i {g : SG} {rs rg bs n : Nat} {f : Nat → Nat} {k j : Nat} (h : j < k) : apS g rs rg bs n f k rg (bs + n + j) = nI (f j) := by
  unfold apS
  rw [if_pos ⟨rfl, by omega, by omega⟩, show bs + n + j - (bs + n) = j by omega]
theorem apS_x {g : SG} {rs rg bs n : Nat} {f : Nat → Nat} {k r j : Nat} (h1 : ¬ (r = rg ∧ bs + n ≤ j ∧ j < bs + n + k)) (h2 : ¬ (r = rs ∧ j = 0)) : apS g rs rg bs n f k r j = g r j := by
  unfold apS
  rw [if_neg h1, if_neg h2]
/-! a row of symbols: where minutes begin, frames, what each time misses, the vote -/
def gapN (sy : Nat → Nat) (p : Nat) : Nat → Nat
  | 0 => 0
  | n + 1 => gapN sy p n + (if n % 20 = p ∧ sy n = 3 then 1 else 0)
theorem gapN_le (sy : Nat → Nat) (p : Nat) : ∀ n, gapN sy p n ≤ n
  | 0 => Nat.le_refl _
  | n + 1 => by
    have := gapN_le sy p n
    unfold gapN
    split <;> omega
def phA (G : Nat → Nat) : Nat → Nat
  | 0 => 0
  | i + 1 => if G (phA G i) < G (i + 1) then i + 1 else phA G i
theorem phA_le (G : Nat → Nat) : ∀ i, phA G i ≤ i
  | 0 => Nat.le_refl _
  | i + 1 => by
    have := phA_le G i
    unfold phA
    split <;> omega
def phN (n : Nat) (sy : Nat → Nat) : Nat := phA (fun p => gapN sy p n) 19
theorem phN_lt (n : Nat) (sy : Nat → Nat) : phN n sy < 20 := Nat.lt_succ_of_le (phA_le _ 19)
def fiN (n : Nat) (sy : Nat → Nat) : Nat := (phN n sy + 1) % 20
def cnN (n : Nat) (sy : Nat → Nat) : Nat := if fiN n sy + 19 ≤ n then (n - fiN n sy - 19) / 20 + 1 else 0
theorem cnN_le {n : Nat} {sy : Nat → Nat} (h : n ≤ 120) : cnN n sy ≤ 6 := by
  unfold cnN
  split
  · have : fiN n sy < 20 := Nat.mod_lt _ (by decide)
    omega
  · omega
/-- whether frame f is whole -/
theorem cnN_iff {n : Nat} {sy : Nat → Nat} (f : Nat) : f < cnN n sy ↔ fiN n sy + 20 * f + 19 ≤ n := by
  unfold cnN
  split
  · omega
  · omega
def bmA (c : Nat → Bool) : Nat → Nat
  | 0 => 0
  | i + 1 => bmA c i + (if c i then 2 ^ i else 0)
theorem bmA_lt (c : Nat → Bool) : ∀ i, bmA c i < 2 ^ i
  | 0 => Nat.zero_lt_one
  | i + 1 => by
    have := bmA_lt c i
    unfold bmA
    rw [Nat.pow_succ]
    split <;> omega
theorem bmA_or {c : Nat → Bool} {i : Nat} : bmA c i ||| 2 ^ i = bmA c i + 2 ^ i := Nat.or_two_pow_eq_add_of_lt (bmA_lt c i)
def onN (n : Nat) (sy : Nat → Nat) (f : Nat) : Nat := bmA (fun i => decide (sy (fiN n sy + 20 * f + i) = 1)) 19
def knN (n : Nat) (sy : Nat → Nat) (f : Nat) : Nat := bmA (fun i => decide (sy (fiN n sy + 20 * f + i) < 2)) 19
theorem onN_lt (n : Nat) (sy : Nat → Nat) (f : Nat) : onN n sy f < 524288 := bmA_lt _ 19
theorem knN_lt (n : Nat) (sy : Nat → Nat) (f : Nat) : knN n sy f < 524288 := bmA_lt _ 19
def wrN (n : Nat) (sy : Nat → Nat) (t f : Nat) : Nat := (bitsN t ^^^ onN n sy f) &&& knN n sy f
theorem wrN_lt {n : Nat} {sy : Nat → Nat} {t f : Nat} : wrN n sy t f < 524288 := Nat.and_lt_two_pow (n := 19) _ (knN_lt n sy f)
def miA (n : Nat) (sy : Nat → Nat) (t : Nat) : Nat → Nat
  | 0 => 0
  | f + 1 => miA n sy t f + pop (wrN n sy (laterN t f) f)
def misN (n : Nat) (sy : Nat → Nat) (t : Nat) : Nat := miA n sy t (cnN n sy)
theorem popF_lt : ∀ (k n : Nat), n < 2 ^ k → ∀ j, popF (k + j) n ≤ k := fun k n h j => by rw [popF_more k n j h]; exact popF_le k n
theorem miA_le (n : Nat) (sy : Nat → Nat) (t : Nat) : ∀ f, miA n sy t f ≤ 19 * f
  | 0 => Nat.le_refl _
  | f + 1 => by
    have h1 := miA_le n sy t f
    have h2 : pop (wrN n sy (laterN t f) f) ≤ 19 := popF_lt 19 _ wrN_lt 1
    unfold miA
    omega
theorem misN_le {n : Nat} {sy : Nat → Nat} (h : n ≤ 120) (t : Nat) : misN n sy t ≤ 114 := by
  have h1 := miA_le n sy t (cnN n sy)
  have h2 := cnN_le (sy := sy) h
  unfold misN
  omega
/-- the vote over times 0 .. n: the first of the fewest misses, and the fewest of all others -/
def bsA (m : Nat → Nat) : Nat → Nat × Nat
  | 0 => (0, 115)
  | n + 1 => if m (n + 1) < m (bsA m n).1 then (n + 1, m (bsA m n).1) else if m (n + 1) < (bsA m n).2 then ((bsA m n).1, m (n + 1)) else bsA m n
theorem bsA_le (m : Nat → Nat) : ∀ n, (bsA m n).1 ≤ n
  | 0 => Nat.le_refl _
  | n + 1 => by
    have := bsA_le m n
    unfold bsA
    split
    · exact Nat.le_refl _
    · split <;> exact Nat.le_succ_of_le this
def beN (n : Nat) (sy : Nat → Nat) : Nat := (bsA (misN n sy) 11519).1
def maN (n : Nat) (sy : Nat → Nat) : Nat := (bsA (misN n sy) 11519).2 - misN n sy (beN n sy)
def laN (n : Nat) (sy : Nat → Nat) : Nat := laterN (beN n sy) (cnN n sy - 1)
theorem beN_lt (n : Nat) (sy : Nat → Nat) : beN n sy < 11520 := Nat.lt_succ_of_le (bsA_le _ 11519)
theorem bsA_ge {m : Nat → Nat} (hm : ∀ t, m t ≤ 114) : ∀ n, m (bsA m n).1 ≤ (bsA m n).2 ∧ (bsA m n).2 ≤ 115
  | 0 => ⟨Nat.le_succ_of_le (hm 0), Nat.le_refl _⟩
  | n + 1 => by
    have ih := bsA_ge hm n
    have h1 := hm (bsA m n).1
    unfold bsA
    split
    · refine ⟨?_, ?_⟩ <;> dsimp only <;> omega
    · split
      · refine ⟨?_, ?_⟩ <;> dsimp only <;> omega
      · exact ih
