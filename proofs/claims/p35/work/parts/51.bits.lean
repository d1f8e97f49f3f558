/-! sets as numbers -/
theorem nI_and (a b : Nat) : nI a &&& nI b = nI (a &&& b) := by
  apply Int32.toBitVec_inj.mp
  simp [nI, BitVec.ofNat_and]
theorem nI_or (a b : Nat) : nI a ||| nI b = nI (a ||| b) := by
  apply Int32.toBitVec_inj.mp
  simp [nI, BitVec.ofNat_or]
def mskN (p : Nat → Bool) : Nat → Nat
  | 0 => 0
  | n + 1 => if p n = true then mskN p n ||| 2 ^ n else mskN p n
def msk (p : Nat → Bool) (n : Nat) : Int32 := nI (mskN p n)
def cnt (p : Nat → Bool) : Nat → Nat
  | 0 => 0
  | n + 1 => if p n = true then cnt p n + 1 else cnt p n
theorem mskN_bit (p : Nat → Bool) (n i : Nat) : (mskN p n).testBit i = (decide (i < n) && p i) := by
  induction n with
  | zero => simp [mskN]
  | succ n ih =>
    unfold mskN
    by_cases h : p n = true
    · rw [if_pos h, Nat.testBit_or, ih, Nat.testBit_two_pow]
      by_cases e : n = i
      · subst e
        simp [h]
      · have e1 : decide (i < n + 1) = decide (i < n) := by
          by_cases q : i < n
          · simp [q]; omega
          · have : ¬ i < n + 1 := by omega
            simp [q, this]
        simp [e, e1]
    · rw [if_neg h, ih]
      by_cases e : n = i
      · subst e
        simp [h]
      · have e1 : decide (i < n + 1) = decide (i < n) := by
          by_cases q : i < n
          · simp [q]; omega
          · have : ¬ i < n + 1 := by omega
            simp [q, this]
        rw [e1]
theorem mskN_lt (p : Nat → Bool) (n : Nat) : mskN p n < 2 ^ n := by
  apply Nat.lt_pow_two_of_testBit
  intro i hi
  rw [mskN_bit]
  have : ¬ i < n := by omega
  simp [this]
theorem jshl_pow : ∀ n, n < 6 → jshl 1 (nI n) = nI (2 ^ n) := by decide +kernel
theorem msk_step (p : Nat → Bool) (n : Nat) (h : n < 6) : msk p (n + 1) = if p n = true then msk p n ||| jshl (1 : Int32) (nI n) else msk p n := by
  unfold msk
  rw [jshl_pow n h, nI_or]
  show nI (if p n = true then mskN p n ||| 2 ^ n else mskN p n) = _
  split <;> rfl
theorem msk_0 (p : Nat → Bool) : msk p 0 = 0 := rfl
theorem mskN_small (p : Nat → Bool) (n : Nat) (h : n ≤ 6) : mskN p n < 64 := Nat.lt_of_lt_of_le (mskN_lt p n) (Nat.pow_le_pow_right (n := 2) (by decide) h)
theorem nI_eq0 {a : Nat} (h : a < 2 ^ 31) : nI a = 0 ↔ a = 0 := nI_eq (b := 0) h (by decide)
theorem msk_and0 (p q : Nat → Bool) (n m : Nat) (hn : n ≤ 6) (hm : m ≤ 6) : (msk p n &&& msk q m) = 0 ↔ ∀ i, i < n → i < m → p i = true → q i = false := by
  unfold msk
  rw [nI_and, nI_eq0 (Nat.lt_of_le_of_lt Nat.and_le_left (Nat.lt_trans (mskN_small p n hn) (by decide)))]
  constructor
  · intro h i h1 h2 h3
    have := congrArg (fun x => x.testBit i) h
    simp only [Nat.testBit_and, mskN_bit, Nat.zero_testBit] at this
    simpa [h1, h2, h3] using this
  · intro h
    apply Nat.eq_of_testBit_eq
    intro i
    rw [Nat.testBit_and, mskN_bit, mskN_bit, Nat.zero_testBit]
    by_cases h1 : i < n
    · by_cases h2 : i < m
      · cases h3 : p i with
        | false => simp
        | true => simp [h i h1 h2 h3]
      · simp [h2]
    · simp [h1]
theorem msk_bit0 (p : Nat → Bool) (n z : Nat) (hn : n ≤ 6) (hz : z < n) : (msk p n &&& jshl (1 : Int32) (nI z)) = 0 ↔ ¬ p z = true := by
  unfold msk
  rw [jshl_pow z (by omega), nI_and, nI_eq0 (Nat.lt_of_le_of_lt Nat.and_le_left (Nat.lt_trans (mskN_small p n hn) (by decide)))]
  constructor
  · intro h h2
    have := congrArg (fun x => x.testBit z) h
    simp only [Nat.testBit_and, mskN_bit, Nat.zero_testBit, Nat.testBit_two_pow_self] at this
    simp [hz, h2] at this
  · intro h
    apply Nat.eq_of_testBit_eq
    intro i
    rw [Nat.testBit_and, mskN_bit, Nat.zero_testBit, Nat.testBit_two_pow]
    by_cases e : z = i
    · subst e
      simp [h]
    · simp [e]
theorem msk_or (p q : Nat → Bool) (n : Nat) : (msk p n ||| msk q n) = msk (fun i => p i || q i) n := by
  unfold msk
  rw [nI_or]
  congr 1
  apply Nat.eq_of_testBit_eq
  intro i
  rw [Nat.testBit_or, mskN_bit, mskN_bit, mskN_bit]
  cases decide (i < n) <;> simp
theorem mskN_congr {p q : Nat → Bool} {n : Nat} (h : ∀ i, i < n → p i = q i) : mskN p n = mskN q n := by
  apply Nat.eq_of_testBit_eq
  intro i
  rw [mskN_bit, mskN_bit]
  by_cases hi : i < n
  · rw [h i hi]
  · simp [hi]
theorem msk_congr {p q : Nat → Bool} {n : Nat} (h : ∀ i, i < n → p i = q i) : msk p n = msk q n := by
  unfold msk
  rw [mskN_congr h]
theorem conf16 : ∀ k, k < 16 → (Option.bind (fJ6_bitCount_0f7a4 (nI k)) fun v3 => if v3 ≤ (1 : Int32) then (some false) else (some true)) = (if (nI k &&& (nI k - (1 : Int32))) = (0 : Int32) then (some false) else (some true)) := by decide +kernel
theorem not16 : ∀ k, k < 16 → ∀ c, c < 4 → ((nI k &&& ((jshl (1 : Int32) (nI c)) ^^^ (-1 : Int32))) = 0 ↔ (k &&& (15 - 2 ^ c)) = 0) := by decide +kernel
theorem bc_msk (p : Nat → Bool) (n : Nat) (h : n ≤ 4) : fJ6_bitCount_0f7a4 (msk p n) = some (nI (cnt p n)) := by
  have h : n = 0 ∨ n = 1 ∨ n = 2 ∨ n = 3 ∨ n = 4 := by omega
  unfold msk
  rcases h with rfl | rfl | rfl | rfl | rfl <;> simp only [mskN, cnt] <;> cases p 0 <;> cases p 1 <;> cases p 2 <;> cases p 3 <;> decide +kernel
theorem cnt_le (p : Nat → Bool) (n : Nat) : cnt p n ≤ n := by
  induction n with
  | zero => exact Nat.le_refl _
  | succ n ih =>
    unfold cnt
    split <;> omega
theorem cnt_0 (p : Nat → Bool) (n : Nat) : cnt p n = 0 ↔ ∀ i, i < n → ¬ p i = true := by
  induction n with
  | zero => simp [cnt]
  | succ n ih =>
    unfold cnt
    constructor
    · intro h i hi
      by_cases hp : p n = true
      · rw [if_pos hp] at h
        omega
      · rw [if_neg hp] at h
        by_cases e : i = n
        · rw [e]; exact hp
        · exact ih.mp h i (by omega)
    · intro h
      rw [if_neg (h n (by omega))]
      exact ih.mpr (fun i hi => h i (by omega))

