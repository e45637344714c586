/-! ===== spreading ===== -/
theorem f_lcmp {n : Nat} (h : n < 2 ^ 63) : lg_cmp (lN n) 0 ≤ 0 ↔ n = 0 := by
  unfold lg_cmp
  by_cases h0 : n = 0
  · subst h0; decide
  · have h1 : lN n > 0 := (pk_lLT (a := 0) (by omega) h).mpr (by omega)
    rw [if_pos h1]
    exact Iff.intro (fun z => absurd z (by decide)) (fun z => absurd z h0)
def f_U : Nat := 129859329600
def f_dst (may : Nat → Nat) (pr : Nat → Nat → Nat) (i : Nat) (s : (Nat → Nat) × Nat) : (Nat → Nat) × Nat :=
  if s.1 i = 0 ∨ f_pc (may (f_set i)) = 0 then s else (f_shr (f_set i) (may (f_set i)) (s.1 i / f_pc (may (f_set i))) 17 (f_us s.1 i 0), s.2 + s.1 i / f_pc (may (f_set i)) * pr (f_set i) (may (f_set i)))
def f_dp (may : Nat → Nat) (pr : Nat → Nat → Nat) (T : Nat) : Nat → (Nat → Nat) × Nat
  | 0 => (fun i => if i = 0 then T else 0, 0)
  | n + 1 => f_dst may pr n (f_dp may pr T n)
def f_tot (may : Nat → Nat) : Nat := f_U * max 1 (f_pc (may 0))
def f_SE (M : fMem) : Prop := ∀ i, i < 697 → M.1 42 i = nI (f_set i)
theorem f_set_pc {i c : Nat} (hc : c ≤ 3) (h : i < f_base c) : f_pc (f_set i) < c ∧ i < 137 := by
  have := f_allr_ok (P := fun i => Nat.blt (f_pc (f_set i)) (if i < 1 then 1 else if i < 17 then 2 else 3)) 137 (by decide +kernel)
  have hi : i < 137 := by unfold f_base at h; split at h <;> (try split at h) <;> (try split at h) <;> omega
  have := Nat.le_of_ble_eq_true (this i hi)
  refine ⟨?_, hi⟩
  unfold f_base at h
  split at this
  · split at h <;> (try split at h) <;> (try split at h) <;> omega
  · split at this
    · split at h <;> (try split at h) <;> (try split at h) <;> omega
    · split at h <;> (try split at h) <;> (try split at h) <;> omega
theorem f_ok_or {S x : Nat} (h : f_ok S) (hp : f_pc S < 3) (h1 : 1 ≤ x) (hx : x < 17) : f_ok (S ||| 2 ^ x) := by
  refine ⟨Nat.or_lt_two_pow h.1 (Nat.pow_lt_pow_right (by decide) hx), ?_, ?_⟩
  · rw [Nat.testBit_or, h.2.1, Nat.testBit_two_pow]; simp; omega
  · have : ∀ n, f_cnt n (fun i => (S ||| 2 ^ x).testBit i) ≤ f_cnt n (fun i => S.testBit i) + (if x < n then 1 else 0) := by
      intro n
      induction n with
      | zero => exact Nat.le_refl _
      | succ n ih =>
        show f_cnt n _ + (if (S ||| 2 ^ x).testBit n = true then 1 else 0) ≤ f_cnt n _ + (if S.testBit n = true then 1 else 0) + _
        rw [Nat.testBit_or, Nat.testBit_two_pow]
        by_cases e : x = n
        · subst e
          rw [if_neg (by omega)] at ih
          rw [if_pos (show x < x + 1 by omega)]
          have : (if (S.testBit x || decide (x = x)) = true then 1 else 0) ≤ 1 := by split <;> omega
          omega
        · have : (S.testBit n || decide (x = n)) = S.testBit n := by simp [e]
          rw [this]
          have : (if x < n then 1 else 0) ≤ (if x < n + 1 then 1 else 0) := by split <;> split <;> omega
          omega
    have h2 := this 17
    rw [if_pos hx] at h2
    show f_cnt 17 _ ≤ 3
    have hp : f_cnt 17 (fun i => S.testBit i) < 3 := hp
    omega
