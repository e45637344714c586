theorem f_cnt_and (P : Nat → Bool) : ∀ n, f_cnt n (fun x => decide (1 ≤ x) && P x) ≤ f_cnt n P := by
  intro n
  induction n with
  | zero => exact Nat.le_refl _
  | succ n ih =>
    show f_cnt n _ + (if (decide (1 ≤ n) && P n) = true then 1 else 0) ≤ f_cnt n P + (if P n = true then 1 else 0)
    cases P n with
    | false => rw [Bool.and_false]; simp; exact ih
    | true => rw [Bool.and_true]; simp only [if_true]; split <;> omega
theorem f_dst_sum {may : Nat → Nat} {pr : Nat → Nat → Nat} {i : Nat} {s : (Nat → Nat) × Nat} (hi : i < 697) (hok : ∀ x, 1 ≤ x → x < 17 → (may (f_set i)).testBit x = true → f_ok (f_set i ||| 2 ^ x)) : f_sm 697 (f_dst may pr i s).1 ≤ f_sm 697 s.1 := by
  unfold f_dst
  split
  · exact Nat.le_refl _
  · show f_sm 697 (f_shr _ _ _ 17 _) ≤ _
    rw [f_sm_shr _ _ _ _ hok 17 (Nat.le_refl _)]
    have h1 := f_sm_us s.1 i 0 697
    rw [if_pos hi, if_pos hi] at h1
    have h2 : s.1 i / f_pc (may (f_set i)) * f_cnt 17 (fun x => decide (1 ≤ x) && (may (f_set i)).testBit x) ≤ s.1 i / f_pc (may (f_set i)) * f_pc (may (f_set i)) := Nat.mul_le_mul_left _ (f_cnt_and _ 17)
    have h3 := Nat.div_mul_le_self (s.1 i) (f_pc (may (f_set i)))
    omega
theorem f_sm_zero : ∀ (T n : Nat), f_sm n (fun i => if i = 0 then T else 0) ≤ T := by
  intro T n
  induction n with
  | zero => exact Nat.zero_le _
  | succ n ih =>
    show f_sm n _ + (if n = 0 then T else 0) ≤ T
    by_cases h : n = 0
    · subst h; show 0 + _ ≤ _; simp
    · rw [if_neg h]; omega
theorem f_dp_sum {may : Nat → Nat} {pr : Nat → Nat → Nat} {T c : Nat} (hc : c ≤ 3) (hm : ∀ S, may S < 2 ^ 17) : ∀ n, n ≤ f_base c → f_sm 697 (f_dp may pr T n).1 ≤ T := by
  intro n
  induction n with
  | zero => intro _; exact f_sm_zero T 697
  | succ n ih =>
    intro h
    have hn := f_set_pc hc (show n < f_base c by omega)
    refine Nat.le_trans (f_dst_sum (by omega) fun x h1 hx _ => f_ok_or (f_set_ok (by omega)).1 (by omega) h1 hx) (ih (by omega))
