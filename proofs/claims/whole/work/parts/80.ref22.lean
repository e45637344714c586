/-! ===== the reference: rows told back, its sums beside the class's ===== -/
theorem f_acc_cg {P Q : Nat → Bool} {g h : Nat → Nat × Nat} {A B : Nat} : ∀ n, (∀ x, 1 ≤ x → x < n → P x = Q x) → (∀ x, 1 ≤ x → x < n → P x = true → (g x).1 = (h x).1 ∧ (g x).2 * A = B * (h x).2) → (f_acc P g n).1 = (f_acc Q h n).1 ∧ (f_acc P g n).2 * A = B * (f_acc Q h n).2 := by
  intro n
  induction n with
  | zero => intro _ _; exact ⟨rfl, by show 0 * A = B * 0; rw [Nat.zero_mul, Nat.mul_zero]⟩
  | succ n ih =>
    intro hP hg
    have i := ih (fun x a b => hP x a (by omega)) (fun x a b => hg x a (by omega))
    have e1 : f_acc P g (n + 1) = if (decide (1 ≤ n) && P n) = true then ((f_acc P g n).1 + (g n).1, (f_acc P g n).2 + (g n).2) else f_acc P g n := rfl
    have e2 : f_acc Q h (n + 1) = if (decide (1 ≤ n) && Q n) = true then ((f_acc Q h n).1 + (h n).1, (f_acc Q h n).2 + (h n).2) else f_acc Q h n := rfl
    by_cases hn : 1 ≤ n
    · have hp := hP n hn (by omega)
      by_cases hq : P n = true
      · have hq2 : Q n = true := by rw [← hp]; exact hq
        have j := hg n hn (by omega) hq
        rw [e1, e2, if_pos (by rw [decide_eq_true hn, hq]; rfl), if_pos (by rw [decide_eq_true hn, hq2]; rfl)]
        refine ⟨by show _ + _ = _ + _; rw [i.1, j.1], ?_⟩
        show (_ + _) * A = B * (_ + _)
        rw [Nat.add_mul, Nat.mul_add, i.2, j.2]
      · have hq2 : ¬ Q n = true := by rw [← hp]; exact hq
        rw [e1, e2, if_neg (by rw [decide_eq_true hn, Bool.true_and]; exact hq), if_neg (by rw [decide_eq_true hn, Bool.true_and]; exact hq2)]
        exact i
    · rw [e1, e2, if_neg (by rw [decide_eq_false hn, Bool.false_and]; decide), if_neg (by rw [decide_eq_false hn, Bool.false_and]; decide)]
      exact i
theorem f_d15 {n : Nat} (h0 : 0 < n) (h : n ≤ 15) : n * (360360 / n) = 360360 := by
  have : ∀ m, m ≤ 15 → 0 < m → m * (360360 / m) = 360360 := by decide +kernel
  exact this n h h0
theorem f_d16 {n : Nat} (h0 : 0 < n) (h : n ≤ 16) : 720720 / n * n = 720720 := by
  have : ∀ m, m ≤ 16 → 0 < m → 720720 / m * m = 720720 := by decide +kernel
  exact this n h h0
theorem f_cnt_two {P Q : Nat → Bool} (h : ∀ x, P x = true → Q x = false) (hp : P 0 = false) (hq : Q 0 = false) : ∀ n, f_cnt (n + 1) P + f_cnt (n + 1) Q ≤ n := by
  intro n
  induction n with
  | zero =>
    show 0 + (if P 0 = true then 1 else 0) + (0 + (if Q 0 = true then 1 else 0)) ≤ 0
    rw [hp, hq]; decide
  | succ n ih =>
    show f_cnt (n + 1) P + (if P (n + 1) = true then 1 else 0) + (f_cnt (n + 1) Q + (if Q (n + 1) = true then 1 else 0)) ≤ n + 1
    by_cases e : P (n + 1) = true
    · have := h _ e
      rw [if_pos e, this, if_neg (by decide)]
      omega
    · rw [if_neg e]; split <;> omega
theorem f_pc_two {S T : Nat} (h : ∀ x, S.testBit x = true → T.testBit x = false) (hs : S.testBit 0 = false) (ht : T.testBit 0 = false) : f_pc S + f_pc T ≤ 16 := f_cnt_two h hs ht 16
theorem f_pc_z {m : Nat} (h : m < 2 ^ 17) : f_pc m = 0 ↔ m = 0 := by
  refine ⟨fun e => ?_, fun e => by rw [e]; exact f_pc_0⟩
  rcases Nat.eq_zero_or_pos m with z | z
  · exact z
  · have := f_pc_low z h; omega
theorem f_rsw_pow {c : Nat} : ∀ (n k q : Nat), 1 ≤ k → k ≤ c → c ≤ k + n → f_rsw c n k q = q * 360360 ^ (c - k) := by
  intro n
  induction n with
  | zero =>
    intro k q h1 h2 h3
    have : c - k = 0 := by omega
    rw [this]
    show q = q * 1
    omega
  | succ n ih =>
    intro k q h1 h2 h3
    show (if k < c then f_rsw c n (k + 1) (q * f_pO k) else q) = _
    by_cases e : k < c
    · have e2 : f_pO k = 360360 := if_neg (by omega)
      have e3 : c - k = (c - (k + 1)) + 1 := by omega
      rw [if_pos e, ih (k + 1) _ (by omega) (by omega) (by omega), e2, e3, Nat.pow_succ, Nat.mul_assoc, Nat.mul_comm 360360]
    · have : c - k = 0 := by omega
      rw [if_neg e, this]
      show q = q * 1
      omega
theorem f_pc_or1 {S x : Nat} (hx : x < 17) : f_pc (S ||| 2 ^ x) ≤ f_pc S + 1 := by
  cases h : S.testBit x with
  | false => rw [f_pc_add hx h]; omega
  | true =>
    have e : S ||| 2 ^ x = S := by
      refine Nat.eq_of_testBit_eq (fun i => ?_)
      rw [Nat.testBit_or, Nat.testBit_two_pow]
      by_cases e : x = i
      · subst e; rw [h]; rfl
      · simp [e]
    rw [e]; omega
theorem f_oo_bo {may : Nat → Nat} {W c w1 : Nat} (hmb : ∀ S, may S < 2 ^ 17) (hnew : ∀ T x, (may T).testBit x = true → T.testBit x = false ∧ 1 ≤ x) (hcW : f_pc W ≤ c) (hc3 : c ≤ 3) : ∀ (d S k w : Nat), k + d = 3 → 1 ≤ k → k ≤ c → f_pc S = k → (∀ i, S.testBit i = true → W.testBit i = true) → S.testBit 0 = false → (f_oo may W c d S (w1 * w) k).1 = (f_bo may W c d S (360360 ^ (3 - k) * w) k).1 ∧ (f_oo may W c d S (w1 * w) k).2 * 360360 ^ (3 - c) = w1 * (f_bo may W c d S (360360 ^ (3 - k) * w) k).2 := by
  have fin : ∀ (d S k w : Nat), 1 ≤ k → k ≤ c → S = W ∧ (k = c ∨ may S = 0) → (f_oo may W c d S (w1 * w) k).1 = (f_bo may W c d S (360360 ^ (3 - k) * w) k).1 ∧ (f_oo may W c d S (w1 * w) k).2 * 360360 ^ (3 - c) = w1 * (f_bo may W c d S (360360 ^ (3 - k) * w) k).2 := by
    intro d S k w h1 h2 h
    rw [f_oo_end h, f_bo_at may W c d S _ k h.1, if_pos (h.2.elim Or.inl (fun e => Or.inr ((f_pc_z (hmb S)).mpr e)))]
    refine ⟨rfl, ?_⟩
    show f_rsw c 3 k (w1 * w) * 360360 ^ (3 - c) = w1 * (360360 ^ (3 - k) * w)
    rw [f_rsw_pow 3 k _ h1 h2 (by omega), Nat.mul_assoc, ← Nat.pow_add, show c - k + (3 - c) = 3 - k by omega, Nat.mul_assoc, Nat.mul_comm w]
  have stop : ∀ (d S k w : Nat), ¬ (S = W ∧ (k = c ∨ may S = 0)) → (d = 0 ∨ S = W ∨ may S = 0) → (f_oo may W c d S (w1 * w) k).1 = (f_bo may W c d S (360360 ^ (3 - k) * w) k).1 ∧ (f_oo may W c d S (w1 * w) k).2 * 360360 ^ (3 - c) = w1 * (f_bo may W c d S (360360 ^ (3 - k) * w) k).2 := by
    intro d S k w h h2
    rw [f_oo_stop h h2]
    have : f_bo may W c d S (360360 ^ (3 - k) * w) k = (0, 0) := by
      by_cases e : S = W
      · rw [f_bo_at may W c d S _ k e, if_neg (fun z => h ⟨e, z.elim Or.inl (fun z => Or.inr ((f_pc_z (hmb S)).mp z))⟩)]
      · exact f_bo_no may W c d S _ k e (h2.elim Or.inl (fun z => z.elim (fun z => absurd z e) (fun z => Or.inr ((f_pc_z (hmb S)).mpr z))))
    rw [this]
    exact ⟨rfl, by show 0 * _ = w1 * 0; rw [Nat.zero_mul, Nat.mul_zero]⟩
  intro d
  induction d with
  | zero =>
    intro S k w hk h1 h2 hpc hSW hS0
    by_cases h : S = W ∧ (k = c ∨ may S = 0)
    · exact fin 0 S k w h1 h2 h
    · exact stop 0 S k w h (Or.inl rfl)
  | succ d ih =>
    intro S k w hk h1 h2 hpc hSW hS0
    by_cases h : S = W ∧ (k = c ∨ may S = 0)
    · exact fin (d + 1) S k w h1 h2 h
    by_cases h3 : S = W ∨ may S = 0
    · exact stop (d + 1) S k w h (Or.inr h3)
    have hm0 : ¬ may S = 0 := fun z => h3 (Or.inr z)
    have hSne : ¬ S = W := fun z => h3 (Or.inl z)
    have hpz : ¬ f_pc (may S) = 0 := fun z => hm0 ((f_pc_z (hmb S)).mp z)
    have hm00 : (may S).testBit 0 = false := by
      cases q : (may S).testBit 0 with
      | false => rfl
      | true => have := (hnew S 0 q).2; omega
    have hp15 : f_pc (may S) ≤ 15 := by
      have := f_pc_two (S := may S) (T := S) (fun x hx => (hnew S x hx).1) hm00 hS0
      omega
    have e1 : f_oo may W c (d + 1) S (w1 * w) k = f_acc (fun x => (may S &&& W).testBit x && !S.testBit x) (fun x => f_oo may W c d (S ||| 2 ^ x) (w1 * w * (f_pO k / f_pc (may S))) (k + 1)) 17 := by
      have hun : f_oo may W c (d + 1) S (w1 * w) k = if S = W ∧ (k = c ∨ may S = 0) then (1, f_rsw c 3 k (w1 * w)) else if S = W ∨ may S = 0 then (0, 0) else f_acc (fun x => (may S &&& W).testBit x && !S.testBit x) (fun x => f_oo may W c d (S ||| 2 ^ x) (w1 * w * (f_pO k / f_pc (may S))) (k + 1)) 17 := rfl
      rw [hun, if_neg h, if_neg h3]
    have e2 : f_bo may W c (d + 1) S (360360 ^ (3 - k) * w) k = f_acc (fun x => (may S &&& W).testBit x) (fun x => f_bo may W c d (S ||| 2 ^ x) (360360 ^ (3 - k) * w / f_pc (may S)) (k + 1)) 17 := by
      have hun : f_bo may W c (d + 1) S (360360 ^ (3 - k) * w) k = if S = W then (if k = c ∨ f_pc (may S) = 0 then (1, 360360 ^ (3 - k) * w) else (0, 0)) else if f_pc (may S) = 0 then (0, 0) else f_acc (fun x => (may S &&& W).testBit x) (fun x => f_bo may W c d (S ||| 2 ^ x) (360360 ^ (3 - k) * w / f_pc (may S)) (k + 1)) 17 := rfl
      rw [hun, if_neg hSne, if_neg hpz]
    have e3 : w1 * w * (f_pO k / f_pc (may S)) = w1 * (w * (360360 / f_pc (may S))) := by
      rw [show f_pO k = 360360 from if_neg (by omega), Nat.mul_assoc]
    have e4 : 360360 ^ (3 - k) * w / f_pc (may S) = 360360 ^ (3 - (k + 1)) * (w * (360360 / f_pc (may S))) := by
      refine Nat.div_eq_of_eq_mul_right (Nat.pos_of_ne_zero hpz) ?_
      have d15 := f_d15 (Nat.pos_of_ne_zero hpz) hp15
      rw [show 3 - k = 3 - (k + 1) + 1 by omega, Nat.pow_succ, Nat.mul_left_comm, Nat.mul_left_comm (f_pc (may S)) w, d15, Nat.mul_assoc, Nat.mul_comm w]
    rw [e1, e2, e3, e4]
    refine f_acc_cg 17 (fun x hx1 hx2 => ?_) (fun x hx1 hx2 hx => ?_)
    · show ((may S &&& W).testBit x && !S.testBit x) = (may S &&& W).testBit x
      rw [Nat.testBit_and]
      cases q : (may S).testBit x with
      | false => rfl
      | true => rw [(hnew S x q).1]; simp
    · have hx : ((may S &&& W).testBit x && !S.testBit x) = true := hx
      rw [Bool.and_eq_true, Nat.testBit_and, Bool.and_eq_true] at hx
      obtain ⟨⟨zm, zw⟩, zs⟩ := hx
      have zs : S.testBit x = false := by simpa using zs
      have hle := f_pc_sub (x := x) hx2 zs zw hSW
      refine ih (S ||| 2 ^ x) (k + 1) (w * (360360 / f_pc (may S))) (by omega) (by omega) (by omega) (by rw [f_pc_add hx2 zs, hpc]) (fun i hi => ?_) ?_
      · rw [Nat.testBit_or, Nat.testBit_two_pow, Bool.or_eq_true, decide_eq_true_eq] at hi
        rcases hi with hi | hi
        · exact hSW i hi
        · subst hi; exact zw
      · rw [Nat.testBit_or, hS0, Nat.testBit_two_pow]; simp; omega
theorem f_oo_top {may : Nat → Nat} {W c : Nat} (hmb : ∀ S, may S < 2 ^ 17) (hnew : ∀ T x, (may T).testBit x = true → T.testBit x = false ∧ 1 ≤ x) (hcW : f_pc W ≤ c) (hc1 : 1 ≤ c) (hc3 : c ≤ 3) : (f_oo may W c 3 0 1 0).1 = (f_bo may W c 3 0 (f_tot may) 0).1 ∧ (f_oo may W c 3 0 1 0).2 * f_U = (f_bo may W c 3 0 (f_tot may) 0).2 * (720720 / max 1 (f_pc (may 0))) * 360360 ^ (c - 1) := by
  have hz0 : ∀ i, (0 : Nat).testBit i = false := fun i => Nat.zero_testBit i
  by_cases hm0 : may 0 = 0
  · have hp0 : f_pc (may 0) = 0 := (f_pc_z (hmb 0)).mpr hm0
    by_cases hW : 0 = W
    · rw [f_oo_end ⟨hW, Or.inr hm0⟩, f_bo_at may W c 3 0 _ 0 hW, if_pos (Or.inr hp0)]
      refine ⟨rfl, ?_⟩
      show f_rsw c 3 0 1 * f_U = f_tot may * (720720 / max 1 (f_pc (may 0))) * 360360 ^ (c - 1)
      unfold f_tot
      rw [hp0]
      have e : f_rsw c 3 0 1 = f_rsw c 2 1 (1 * f_pO 0) := if_pos (by omega)
      rw [e, f_rsw_pow 2 1 _ (Nat.le_refl _) hc1 (by omega)]
      show 1 * 720720 * 360360 ^ (c - 1) * f_U = f_U * 1 * 720720 * 360360 ^ (c - 1)
      rw [Nat.one_mul, Nat.mul_one, Nat.mul_comm, Nat.mul_assoc]
    · rw [f_oo_stop (fun z => hW z.1) (Or.inr (Or.inr hm0)), f_bo_no may W c 3 0 _ 0 hW (Or.inr hp0)]
      exact ⟨rfl, by show 0 * _ = 0 * _ * _; rw [Nat.zero_mul, Nat.zero_mul, Nat.zero_mul]⟩
  · have hpz : ¬ f_pc (may 0) = 0 := fun z => hm0 ((f_pc_z (hmb 0)).mp z)
    have hmx : max 1 (f_pc (may 0)) = f_pc (may 0) := by omega
    by_cases hW : 0 = W
    · rw [f_oo_stop (fun z => z.2.elim (fun e => by omega) hm0) (Or.inr (Or.inl hW)), f_bo_at may W c 3 0 _ 0 hW, if_neg (fun z => z.elim (fun e => by omega) hpz)]
      exact ⟨rfl, by show 0 * _ = 0 * _ * _; rw [Nat.zero_mul, Nat.zero_mul, Nat.zero_mul]⟩
    have e1 : f_oo may W c 3 0 1 0 = f_acc (fun x => (may 0 &&& W).testBit x && !(0 : Nat).testBit x) (fun x => f_oo may W c 2 (0 ||| 2 ^ x) (1 * (f_pO 0 / f_pc (may 0))) (0 + 1)) 17 := by
      have hun : f_oo may W c 3 0 1 0 = if 0 = W ∧ (0 = c ∨ may 0 = 0) then (1, f_rsw c 3 0 1) else if 0 = W ∨ may 0 = 0 then (0, 0) else f_acc (fun x => (may 0 &&& W).testBit x && !(0 : Nat).testBit x) (fun x => f_oo may W c 2 (0 ||| 2 ^ x) (1 * (f_pO 0 / f_pc (may 0))) (0 + 1)) 17 := rfl
      rw [hun, if_neg (fun z => hW z.1), if_neg (fun z => z.elim hW hm0)]
    have e2 : f_bo may W c 3 0 (f_tot may) 0 = f_acc (fun x => (may 0 &&& W).testBit x) (fun x => f_bo may W c 2 (0 ||| 2 ^ x) (f_tot may / f_pc (may 0)) (0 + 1)) 17 := by
      have hun : f_bo may W c 3 0 (f_tot may) 0 = if 0 = W then (if 0 = c ∨ f_pc (may 0) = 0 then (1, f_tot may) else (0, 0)) else if f_pc (may 0) = 0 then (0, 0) else f_acc (fun x => (may 0 &&& W).testBit x) (fun x => f_bo may W c 2 (0 ||| 2 ^ x) (f_tot may / f_pc (may 0)) (0 + 1)) 17 := rfl
      rw [hun, if_neg hW, if_neg hpz]
    have e3 : 1 * (f_pO 0 / f_pc (may 0)) = 720720 / f_pc (may 0) * 1 := by
      rw [Nat.one_mul, Nat.mul_one]; rfl
    have e4 : f_tot may / f_pc (may 0) = 360360 ^ (3 - (0 + 1)) * 1 := by
      unfold f_tot
      rw [hmx]
      refine Nat.div_eq_of_eq_mul_left (Nat.pos_of_ne_zero hpz) ?_
      rfl
    have main : (f_oo may W c 3 0 1 0).1 = (f_bo may W c 3 0 (f_tot may) 0).1 ∧ (f_oo may W c 3 0 1 0).2 * 360360 ^ (3 - c) = 720720 / f_pc (may 0) * (f_bo may W c 3 0 (f_tot may) 0).2 := by
      rw [e1, e2, e3, e4]
      refine f_acc_cg 17 (fun x hx1 hx2 => ?_) (fun x hx1 hx2 hx => ?_)
      · show ((may 0 &&& W).testBit x && !(0 : Nat).testBit x) = (may 0 &&& W).testBit x
        rw [hz0]; simp
      · have hx : ((may 0 &&& W).testBit x && !(0 : Nat).testBit x) = true := hx
        rw [Bool.and_eq_true, Nat.testBit_and, Bool.and_eq_true] at hx
        obtain ⟨⟨zm, zw⟩, _⟩ := hx
        refine f_oo_bo hmb hnew hcW hc3 2 (0 ||| 2 ^ x) (0 + 1) 1 (by omega) (by omega) hc1 (by rw [f_pc_add hx2 (hz0 x), f_pc_0]) (fun i hi => ?_) ?_
        · rw [Nat.testBit_or, hz0, Nat.testBit_two_pow, Bool.false_or, decide_eq_true_eq] at hi
          subst hi; exact zw
        · rw [Nat.testBit_or, hz0, Nat.testBit_two_pow]; simp; omega
    refine ⟨main.1, ?_⟩
    have hU : f_U = 360360 ^ (3 - c) * 360360 ^ (c - 1) := by
      rw [← Nat.pow_add, show 3 - c + (c - 1) = 2 by omega]; rfl
    rw [hU, ← Nat.mul_assoc, main.2, hmx, Nat.mul_comm (720720 / _)]
theorem f_rcN_pc (a : Nat → Nat) (n : Nat) : ∀ k, f_pc (f_rcN a n k) ≤ min k (n - 1) := by
  intro k
  induction k with
  | zero => show f_pc 0 ≤ _; rw [f_pc_0]; exact Nat.zero_le _
  | succ k ih =>
    show f_pc (f_rcN a n k ||| (if k + 1 < n ∧ f_sm (k + 1) a < 17 then 2 ^ f_sm (k + 1) a else 0)) ≤ _
    split
    · rename_i h
      have := f_pc_or1 (S := f_rcN a n k) h.2
      omega
    · rw [Nat.or_zero]; omega
theorem f_rcN_wt {a : Nat → Nat} {n : Nat} (h : ∀ i, i < n → f_sm i a < 17) : f_rcN a n n = f_wt a n := by
  have step : ∀ k, k < n → f_rcN a n k = f_wt a (k + 1) := by
    intro k
    induction k with
    | zero => intro _; rfl
    | succ k ih =>
      intro hk
      have e1 : f_rcN a n (k + 1) = f_rcN a n k ||| (if k + 1 < n ∧ f_sm (k + 1) a < 17 then 2 ^ f_sm (k + 1) a else 0) := rfl
      have e2 : f_wt a (k + 1 + 1) = if k + 1 = 0 then 0 else f_wt a (k + 1) ||| 2 ^ f_sm (k + 1) a := rfl
      rw [e1, e2, ih (by omega), if_pos ⟨hk, h (k + 1) hk⟩, if_neg (by omega)]
  cases n with
  | zero => rfl
  | succ m =>
    have e1 : f_rcN a (m + 1) (m + 1) = f_rcN a (m + 1) m ||| (if m + 1 < m + 1 ∧ f_sm (m + 1) a < 17 then 2 ^ f_sm (m + 1) a else 0) := rfl
    rw [e1, step m (by omega), if_neg (by omega), Nat.or_zero]
theorem f_sm_st {a : Nat → Nat} {n L : Nat} (h1 : ∀ i, i < n → 1 ≤ a i) (hL : f_sm n a = L) : ∀ i, i < n → f_sm i a < L := by
  intro i hi
  have q := f_sm_mono (a := a) (m := i + 1) (n := n) (by omega)
  have e : f_sm (i + 1) a = f_sm i a + a i := rfl
  have := h1 i hi
  omega
def f_LOL : List Nat := [103, 104, 105, 106, 107, 108, 1011, 1012, 1017, 1021, 1032, 1033]
def S_lfo : fSp := fun G As M R => match As with
  | [.ref 100, .int zb] => ∃ (y : fYd) (b kd v : Nat) (row : Nat → Nat) (n : Nat) (a : Nat → Nat), G = f_GM ∧ f_MB M y b kd v row ∧ 1 ≤ y.2.1 ∧ y.2.1 ≤ 3 ∧ zb = nI b ∧ M.1 101 3 = nI n ∧ n ≤ 4 ∧ (∀ i, i < n → M.1 101 (55 + i) = nI (a i)) ∧ (∀ i, i < n → 1 ≤ a i ∧ a i ≤ 17) ∧ (∀ (M' : fMem) (t : Nat), f_em f_LOL M M' → M'.1 100 33 = nI (f_fol (f_may y.2.2 y.1 kd v row) y.1 y.2.1 a n).1 → M'.2 100 21 = lN t → t * f_U = (f_fol (f_may y.2.2 y.1 kd v row) y.1 y.2.1 a n).2 * (720720 / max 1 (f_pc (f_may y.2.2 y.1 kd v row 0))) * 360360 ^ (y.2.1 - 1) → R G none M')
  | _ => False
set_option maxRecDepth 20000 in
theorem m_lfo : f_Meets 2 (kX12_looksForOrders S_cbe (S_oo 3)) S_lfo := by
  intro G As M R hsp X hX hW
  match As, hsp with
  | [.ref 100, .int zb], ⟨y, b, kd, v, row, n, a, hG, hMB, hc1, hc3, hzb, h3, hn, ha, hab, hsp⟩ =>
    subst hG; subst hzb
    have h17 := hMB.2.2.2.2.1
    have hmb : ∀ T, f_may y.2.2 y.1 kd v row T < 2 ^ 17 := fun T => f_may_lt h17
    have hnew : ∀ T x, (f_may y.2.2 y.1 kd v row T).testBit x = true → T.testBit x = false ∧ 1 ≤ x := fun T x hx => ⟨(f_may_new hx).1, (f_may_new hx).2.1⟩
    have h1L : 1 ≤ y.1 := hMB.2.2.2.1
    have he0 : f_em f_LOL M (f_up M.1 100 33 0, f_upL M.2 100 21 0) := (f_em.rf.uf (k := 33) (v := 0) (by decide)).ufL (k := 21) (v := 0) (by decide)
    refine f_run_ok (stop := fun q => Nat.beq q 14) hX 40 _ _ _ _ _ ?_
    have e101 : (f_up M.1 100 33 0) 101 = M.1 101 := he0.1 101 (by decide) (by decide)
    refine ⟨y, n, a, rfl, hMB.1.cg e101, h17, hc3, by show f_up M.1 100 33 0 101 3 = _; rw [e101]; exact h3, hn, fun i hi => by show f_up M.1 100 33 0 101 (55 + i) = _; rw [e101]; exact ha i hi, hab, fun M1 he1 h32 => ?_⟩
    have he1' : f_em f_LOL M M1 := he0.tr (he1.mono (by decide))
    have k33 : M1.1 100 33 = 0 := he1.2.2.1 33 (by decide)
    have k21 : M1.2 100 21 = 0 := he1.2.2.2 21 (by decide)
    refine f_run_ok (stop := fun q => false) hX 40 _ _ _ _ _ ?_
    refine And.intro (fun z => ?_) (fun z => ?_)
    · have z := of_decide_eq_false (f_b0.mp z)
      have e : f_fol (f_may y.2.2 y.1 kd v row) y.1 y.2.1 a n = (0, 0) := if_neg z
      rw [e] at hsp
      exact hsp M1 0 he1' k33 k21 (by show 0 * _ = 0 * _ * _; rw [Nat.zero_mul, Nat.zero_mul, Nat.zero_mul])
    · have z := of_decide_eq_true (f_b_nt z)
      have hst := f_sm_st (fun i hi => (hab i hi).1) z.2.2
      have eW := f_rcN_wt (a := a) (n := n) (fun i hi => by have := hst i hi; omega)
      have hpW := f_rcN_pc a n n
      have hWl := f_rcN_lt a n n
      have top := f_oo_top (W := f_rcN a n n) hmb hnew (by omega) hc1 hc3
      have e : f_fol (f_may y.2.2 y.1 kd v row) y.1 y.2.1 a n = f_bo (f_may y.2.2 y.1 kd v row) (f_rcN a n n) y.2.1 3 0 (f_tot (f_may y.2.2 y.1 kd v row)) 0 := by rw [eW]; exact if_pos z
      rw [e, ← top.1, ← top.2] at hsp
      refine ⟨y, b, kd, v, row, f_rcN a n n, 0, 1, 0, 0, 0, rfl, hMB.cg (he1'.1 101 (by decide) (by decide)), hc3, rfl, rfl, rfl, rfl, rfl, Nat.pow_pos (by decide), Nat.zero_testBit 0, f_pc_0, fun i hi => absurd hi (by rw [Nat.zero_testBit]; decide), hWl, by omega, h32, k33, k21, fun M3 he3 m33 m21 => ?_⟩
      rw [Nat.zero_add] at m33 m21
      exact hsp M3 _ (he1'.tr (he3.mono (by decide))) m33 m21 rfl
theorem f_RM.lfo {s : fSt} {M : fMem} {b : Nat} {R : fR} (hR : f_RM s M) (hS : f_SW s) (hb : b < 6) (hk : ∀ (M' : fMem) (t : Nat), f_RM s M' → M'.1 100 33 = nI (f_flw s.1 b).1 → M'.2 100 21 = lN t → t * f_U = f_cwt s.1 b * 360360 ^ (s.1.2.2.2.1 - 1) → R f_GM none M') : S_lfo f_GM [.ref 100, .int (nI b)] M R :=
  ⟨s.1.2.2, b, _, _, _, s.1.1 0 5, s.1.1 6, rfl, hR.mb hS hb, hS.c1, hS.c3, rfl, hR.sn, hS.sn, hR.si, hS.si, fun M' t he h1 h2 h3 => hk M' t (hR.em he (by decide)) h1 h2 h3⟩
