/-! ===== sums of weights ===== -/
theorem f_wide {n : Nat} (h : n < 2 ^ 31) : (nI n).toInt64 = lN n := by
  apply Int64.toInt_inj.mp
  rw [Int32.toInt_toInt64, nI_toInt h, pk_lT (by omega)]
theorem f_may_lt {rs : List fRl} {L kd v : Nat} {row : Nat → Nat} {br : Nat} (hL : L ≤ 17) : f_may rs L kd v row br < 2 ^ 17 := by
  refine Nat.lt_pow_two_of_testBit _ fun i hi => ?_
  cases hq : (f_may rs L kd v row br).testBit i with
  | false => rfl
  | true => have := f_may_bit hq; omega
theorem f_pcs_len (L br : Nat) : ∀ (n p f : Nat), (f_pcs L br n p f).length ≤ n := by
  intro n
  induction n with
  | zero => intro p f; exact Nat.le_refl _
  | succ n ih =>
    intro p f
    unfold f_pcs
    split
    · have := ih (p + 1) p
      rw [List.length_cons]; omega
    · have := ih (p + 1) f
      omega
theorem f_price_lt {rs : List fRl} {L kd br N : Nat} (hL : L ≤ 17) (hr : rs.length ≤ 10) (h : ∀ q ∈ rs, q.2.1 < 100) : f_price rs L kd br N < 2 ^ 31 := by
  unfold f_price
  have h1 := f_sum_le (f_pcs L br L 1 0) (fun q => f_prc rs q.1 q.2 (f_pc br) kd N) 17000 (fun q _ => by
    have := f_prs_le rs q.1 q.2 (f_pc br) kd (N &&& f_inb q.1 q.2) h
    show f_prs _ _ _ _ _ _ ≤ _
    omega)
  have h2 := f_pcs_len L br L 1 0
  have h3 : (f_pcs L br L 1 0).length * 17000 ≤ 17 * 17000 := Nat.mul_le_mul_right _ (by omega)
  omega
theorem f_YR.lt {M : fMem} {y : Nat} {rs : List fRl} (h : f_YR M y rs) : ∀ q ∈ rs, q.2.1 < 100 := by
  intro q hq
  obtain ⟨i, hi, he⟩ := List.mem_iff_getElem.mp hq
  exact (h.2.2.2 i q (by rw [List.getElem?_eq_getElem hi, he])).2.2.1
def f_sm : Nat → (Nat → Nat) → Nat
  | 0, _ => 0
  | n + 1, w => f_sm n w + w n
theorem f_sm_ua (w : Nat → Nat) (j q : Nat) : ∀ n, f_sm n (f_ua w j q) = f_sm n w + (if j < n then q else 0) := by
  intro n
  induction n with
  | zero => rfl
  | succ n ih =>
    show f_sm n (f_ua w j q) + (if n = j then w n + q else w n) = f_sm n w + w n + _
    rw [ih]
    by_cases h1 : n = j
    · rw [if_pos h1, if_neg (by omega), if_pos (by omega)]; omega
    · rw [if_neg h1]
      by_cases h2 : j < n
      · rw [if_pos h2, if_pos (by omega)]; omega
      · rw [if_neg h2, if_neg (by omega)]; omega
theorem f_sm_us (w : Nat → Nat) (j q : Nat) : ∀ n, f_sm n (f_us w j q) + (if j < n then w j else 0) = f_sm n w + (if j < n then q else 0) := by
  intro n
  induction n with
  | zero => rfl
  | succ n ih =>
    show f_sm n (f_us w j q) + (if n = j then q else w n) + _ = f_sm n w + w n + _
    by_cases h1 : n = j
    · subst h1
      rw [if_neg (by omega), if_neg (by omega)] at ih
      rw [if_pos rfl, if_pos (by omega), if_pos (by omega)]; omega
    · rw [if_neg h1]
      by_cases h2 : j < n
      · rw [if_pos h2, if_pos h2] at ih
        rw [if_pos (by omega), if_pos (by omega)]; omega
      · rw [if_neg h2, if_neg h2] at ih
        rw [if_neg (by omega), if_neg (by omega)]; omega
theorem f_sm_ge (w : Nat → Nat) : ∀ (n j : Nat), j < n → w j ≤ f_sm n w := by
  intro n
  induction n with
  | zero => intro j h; omega
  | succ n ih =>
    intro j h
    show w j ≤ f_sm n w + w n
    by_cases e : j = n
    · rw [e]; omega
    · have := ih j (by omega); omega
theorem f_sm_shr (S may q : Nat) (w : Nat → Nat) (hok : ∀ x, 1 ≤ x → x < 17 → may.testBit x = true → f_ok (S ||| 2 ^ x)) : ∀ n, n ≤ 17 → f_sm 697 (f_shr S may q n w) = f_sm 697 w + q * f_cnt n (fun x => decide (1 ≤ x) && may.testBit x) := by
  intro n
  induction n with
  | zero => intro _; show f_sm 697 w = f_sm 697 w + q * 0; rw [Nat.mul_zero, Nat.add_zero]
  | succ n ih =>
    intro h
    have ih := ih (by omega)
    show f_sm 697 (if (decide (1 ≤ n) && may.testBit n) = true then _ else _) = f_sm 697 w + q * (f_cnt n _ + (if (decide (1 ≤ n) && may.testBit n) = true then 1 else 0))
    by_cases hc : (decide (1 ≤ n) && may.testBit n) = true
    · rw [if_pos hc, if_pos hc, f_sm_ua, ih]
      simp only [Bool.and_eq_true, decide_eq_true_eq] at hc
      rw [if_pos (f_set_slot (hok n hc.1 (by omega) hc.2)).1, Nat.mul_add]; omega
    · rw [if_neg hc, if_neg hc, ih, Nat.add_zero]
