/-! ===== numbers, bits, sums ===== -/
def sumI (f : Nat → Int32) : Nat → Int32
  | 0 => 0
  | n + 1 => sumI f n + f n
def bitsOf (p : Nat → Bool) : Nat → Nat
  | 0 => 0
  | n + 1 => bitsOf p n ||| (if p n then 2 ^ n else 0)
theorem bitsOf_lt (p : Nat → Bool) : ∀ n, bitsOf p n < 2 ^ n
  | 0 => Nat.one_pos
  | n + 1 => by
    have ih := bitsOf_lt p n
    have h1 : 2 ^ n < 2 ^ (n + 1) := Nat.pow_lt_pow_right (by decide) (Nat.lt_succ_self n)
    refine Nat.or_lt_two_pow (Nat.lt_trans ih h1) ?_
    split
    · exact h1
    · exact Nat.lt_of_le_of_lt (Nat.zero_le _) h1
theorem pow_le64 {n : Nat} (h : n ≤ 6) : 2 ^ n ≤ 64 := Nat.pow_le_pow_right (by decide) h
theorem bitsOf_64 (p : Nat → Bool) {n : Nat} (h : n ≤ 6) : bitsOf p n < 64 := Nat.lt_of_lt_of_le (bitsOf_lt p n) (pow_le64 h)
theorem bitsOf_tb (p : Nat → Bool) : ∀ (n i : Nat), (bitsOf p n).testBit i = (decide (i < n) && p i)
  | 0, i => by simp [bitsOf]
  | n + 1, i => by
    rw [bitsOf, Nat.testBit_or, bitsOf_tb p n i]
    by_cases hp : p n
    · rw [if_pos hp, Nat.testBit_two_pow]
      by_cases hi : n = i
      · subst hi; simp [hp]
      · have e : decide (i < n + 1) = decide (i < n) := by
          by_cases q : i < n
          · simp [q, Nat.lt_succ_of_lt q]
          · simp [q]; omega
        simp [hi, e]
    · rw [if_neg hp, Nat.zero_testBit]
      by_cases hi : n = i
      · subst hi; simp [hp]
      · have e : decide (i < n + 1) = decide (i < n) := by
          by_cases q : i < n
          · simp [q, Nat.lt_succ_of_lt q]
          · simp [q]; omega
        simp [e]
theorem shl1 : ∀ k, k < 31 → (1 : Int32) <<< (nI k &&& 31) = nI (2 ^ k) := by decide +kernel
theorem or_nI (a b : Nat) : nI a ||| nI b = nI (a ||| b) := fa_or a b
theorem or_nI0 (a : Nat) : nI a ||| 0 = nI a := by simp
theorem isIn_eq : ∀ s, s < 64 → ∀ k, k < 6 → eX9_isIn (nI s) (nI k) = if s.testBit k then 1 else 0 := by decide +kernel
theorem isIn_0 {s k : Nat} (hs : s < 64) (hk : k < 6) : eX9_isIn (nI s) (nI k) = 0 ↔ s.testBit k = false := by
  rw [isIn_eq s hs k hk]
  cases s.testBit k <;> simp
theorem all_eq : ∀ n, n ≤ 6 → eX1_all (nI n) = nI (2 ^ n - 1) := by decide +kernel
theorem all_tb : ∀ n, n ≤ 6 → ∀ i, i < 6 → (2 ^ n - 1).testBit i = decide (i < n) := by decide +kernel
theorem has_0 {l : Int32} {n : Nat} (hn : n ≤ 6) : ¬ eX1_has l (nI n) = 0 ↔ ∃ i, i < n ∧ l = nI i := by
  unfold eX1_has
  constructor
  · intro hq
    split at hq
    · exact absurd rfl hq
    · rename_i h0
      split at hq
      · exact absurd rfl hq
      · rename_i h1
        rcases pk_ix l (n := n) (by omega) with h2 | h2 | ⟨j, h3, h4⟩
        · exact absurd h2 h0
        · exact absurd h2 h1
        · exact ⟨j, h3, h4⟩
  · rintro ⟨i, hi, rfl⟩
    rw [if_neg (nI_pos (by omega)), if_neg (nI_ge hi (by omega))]
    decide
theorem has_i {i n : Nat} (hn : n ≤ 6) (hi : i < n) : ¬ eX1_has (nI i) (nI n) = 0 := (has_0 hn).mpr ⟨i, hi, rfl⟩
theorem vin {i N : Nat} (h : i < N) (hN : N < 2 ^ 31) : vp_in (nI i) N := vp_in_nI h hN
theorem clamp {i : Nat} (h : i < 2 ^ 31) : (nI i).toNatClampNeg = i := nI_clamp h
theorem sumI_congr {f g : Nat → Int32} : ∀ {n : Nat}, (∀ i, i < n → f i = g i) → sumI f n = sumI g n
  | 0, _ => rfl
  | n + 1, h => by rw [sumI, sumI, sumI_congr (fun i hi => h i (by omega)), h n (by omega)]
def totS (lv : Nat → Int32) (s n : Nat) : Int32 := sumI (fun i => if s.testBit i then lv i else 0) n
theorem totS_all {lv : Nat → Int32} {n : Nat} (h : n ≤ 6) : totS lv (2 ^ n - 1) n = sumI lv n := by
  apply sumI_congr
  intro i hi
  rw [all_tb n h i (by omega)]
  simp [hi]
