/-! ===== how many bits ===== -/
def f_cnt : Nat → (Nat → Bool) → Nat
  | 0, _ => 0
  | n + 1, P => f_cnt n P + (if P n then 1 else 0)
def f_pc (S : Nat) : Nat := f_cnt 17 (fun x => S.testBit x)
theorem f_cnt_ext {P Q : Nat → Bool} : ∀ (n : Nat), (∀ x, x < n → P x = Q x) → f_cnt n P = f_cnt n Q := by
  intro n
  induction n with
  | zero => intro _; rfl
  | succ n ih =>
    intro h
    show f_cnt n P + _ = f_cnt n Q + _
    rw [ih (fun x hx => h x (by omega)), h n (by omega)]
def f_bc (n : Nat) : Nat :=
  let a := n - (n / 2 &&& 1431655765)
  let b := (a &&& 858993459) + (a / 4 &&& 858993459)
  let c := (b + b / 16) &&& 252645135
  let d := c + c / 256
  (d + d / 65536) &&& 63
def f_bck : Nat → Nat → Nat → Bool
  | 0, b, c => Nat.beq (f_bc b) c
  | d + 1, b, c => f_bck d b c && f_bck d (b + 2 ^ d) (c + 1)
theorem f_bck_ok : ∀ (d b c : Nat), f_bck d b c = true → ∀ m, m < 2 ^ d → f_bc (b + m) = c + f_cnt d (fun x => m.testBit x) := by
  intro d
  induction d with
  | zero =>
    intro b c h m hm
    have : m = 0 := by simp at hm; exact hm
    subst this
    exact Nat.eq_of_beq_eq_true h
  | succ d ih =>
    intro b c h m hm
    change (f_bck d b c && f_bck d (b + 2 ^ d) (c + 1)) = true at h
    simp only [Bool.and_eq_true] at h
    rw [Nat.pow_succ] at hm
    show _ = c + (f_cnt d _ + (if m.testBit d then 1 else 0))
    by_cases hl : m < 2 ^ d
    · rw [ih b c h.1 m hl, Nat.testBit_lt_two_pow hl]
      simp
    · obtain ⟨m', rfl⟩ : ∃ m', m = 2 ^ d * 1 + m' := ⟨m - 2 ^ d, by omega⟩
      have hm' : m' < 2 ^ d := by omega
      have hd1 : (2 ^ d * 1 + m').testBit d = true := by
        rw [Nat.two_pow_add_eq_or_of_lt hm', Nat.testBit_or, Nat.mul_one, Nat.testBit_two_pow]; simp
      rw [hd1, if_pos rfl, show b + (2 ^ d * 1 + m') = b + 2 ^ d + m' by omega, ih (b + 2 ^ d) (c + 1) h.2 m' hm']
      have : f_cnt d (fun x => (2 ^ d * 1 + m').testBit x) = f_cnt d (fun x => m'.testBit x) := by
        refine f_cnt_ext d fun x hx => ?_
        rw [Nat.two_pow_add_eq_or_of_lt hm', Nat.testBit_or, Nat.mul_one, Nat.testBit_two_pow]
        simp [show ¬ d = x by omega]
      rw [this]
      omega
theorem f_bck_17 : f_bck 17 0 0 = true := by decide +kernel
theorem f_bc_pc {n : Nat} (h : n < 2 ^ 17) : f_bc n = f_pc n := by
  have := f_bck_ok 17 0 0 f_bck_17 n h
  rw [Nat.zero_add, Nat.zero_add] at this
  exact this
