/-! ===== the lowest bit ===== -/
theorem f_low_bits {k m : Nat} (i : Nat) : (2 ^ k * (2 * m + 1)).testBit i = (decide (i = k) || (decide (k < i) && (2 ^ k * (2 * m)).testBit i)) := by
  rw [Nat.testBit_two_pow_mul, Nat.testBit_two_pow_mul]
  by_cases h1 : i = k
  · subst h1
    have : (2 * m + 1) % 2 = 1 := by omega
    simp [Nat.testBit_zero, this]
  · by_cases h2 : k < i
    · obtain ⟨j, hj⟩ : ∃ j, i - k = j + 1 := ⟨i - k - 1, by omega⟩
      rw [hj, Nat.testBit_succ, Nat.testBit_succ, show (2 * m + 1) / 2 = m by omega, show 2 * m / 2 = m by omega]
      simp [h1, h2, show k ≤ i by omega]
    · simp [h1, h2, show ¬ k ≤ i by omega]
theorem f_pred_bits {k m : Nat} (i : Nat) : (2 ^ k * (2 * m + 1) - 1).testBit i = (decide (i < k) || (decide (k < i) && (2 ^ k * (2 * m)).testBit i)) := by
  have hp : 0 < 2 ^ k := Nat.two_pow_pos k
  have e : 2 ^ k * (2 * m + 1) - 1 = 2 ^ k * (2 * m) + (2 ^ k - 1) := by rw [Nat.mul_add, Nat.mul_one]; omega
  rw [e, Nat.two_pow_add_eq_or_of_lt (by omega), Nat.testBit_or, Nat.testBit_two_pow_sub_one, Nat.testBit_two_pow_mul]
  by_cases h1 : i = k
  · subst h1
    have : (2 * m) % 2 = 0 := by omega
    simp [Nat.testBit_zero, this]
  · by_cases h2 : k < i
    · simp [h1, h2, show k ≤ i by omega, show ¬ i < k by omega]
    · simp [h1, h2, show ¬ k ≤ i by omega]
      try omega
theorem f_low_and {k m : Nat} : 2 ^ k * (2 * m + 1) &&& (2 ^ k * (2 * m + 1) - 1) = 2 ^ k * (2 * m) := by
  refine Nat.eq_of_testBit_eq fun i => ?_
  rw [Nat.testBit_and, f_low_bits, f_pred_bits]
  have h3 : (2 ^ k * (2 * m)).testBit i = (decide (k < i) && (2 ^ k * (2 * m)).testBit i) := by
    by_cases h2 : k < i
    · simp [h2]
    · rw [Nat.testBit_two_pow_mul]
      by_cases h1 : i = k
      · subst h1
        have : (2 * m) % 2 = 0 := by omega
        simp [Nat.testBit_zero, this]
      · simp [h2, show ¬ k ≤ i by omega]
  by_cases h1 : i = k
  · subst h1; rw [h3]; simp
  · by_cases h2 : k < i
    · simp [h1, h2]; try exact fun q => Or.inr q
    · rw [h3]; simp [h1, h2]
theorem f_low_ex (n : Nat) (h : 0 < n) : ∃ k m, n = 2 ^ k * (2 * m + 1) := by
  induction n using Nat.strongRecOn with
  | ind n ih =>
    by_cases h2 : n % 2 = 1
    · exact ⟨0, n / 2, by simp; omega⟩
    · obtain ⟨k, m, hk⟩ := ih (n / 2) (by omega) (by omega)
      exact ⟨k + 1, m, by rw [Nat.pow_succ, Nat.mul_comm (2 ^ k) 2, Nat.mul_assoc, ← hk]; omega⟩
theorem f_low_I {k m : Nat} (h : 2 ^ k * (2 * m + 1) < 2 ^ 31) : (nI (2 ^ k * (2 * m + 1)) ^^^ (-1)) &&& (nI (2 ^ k * (2 * m + 1)) - 1) = nI (2 ^ k - 1) := by
  have hp : 0 < 2 ^ k := Nat.two_pow_pos k
  have hpos : 1 ≤ 2 ^ k * (2 * m + 1) := Nat.mul_pos hp (by omega)
  have e : nI (2 ^ k * (2 * m + 1)) - 1 = nI (2 ^ k * (2 * m + 1) - 1) := pk_sub (b := 1) hpos
  rw [e]
  have tb : ∀ (n i : Nat), i < 32 → bt (nI n) i = n.testBit i := fun n i hi => by
    show (BitVec.ofNat 32 n).getLsbD i = _
    rw [BitVec.getLsbD_ofNat]; simp [hi]
  refine b_ext fun i hi => ?_
  rw [b_and, bt_not _ hi, tb _ i hi, tb _ i hi, tb _ i hi, f_low_bits, f_pred_bits, Nat.testBit_two_pow_sub_one]
  by_cases h1 : i = k
  · subst h1; simp
  · by_cases h2 : k < i
    · simp [h1, h2, show ¬ i < k by omega]
    · simp [h1, h2, show i < k by omega]
