/-! ===== the arcs: laid one by one, against counted by where they begin ===== -/
theorem f_sm_split (F : Nat → Nat) (a : Nat) : ∀ b, f_sm (a + b) F = f_sm a F + f_sm b (fun i => F (a + i)) := by
  intro b
  induction b with
  | zero => rfl
  | succ b ih =>
    show f_sm (a + b) F + F (a + b) = f_sm a F + (f_sm b (fun i => F (a + i)) + F (a + b))
    rw [ih, Nat.add_assoc]
theorem f_xtop {s n : Nat} (h : s < 2 ^ n) : s ^^^ 2 ^ n = 2 ^ n + s := by
  have e := Nat.two_pow_add_eq_or_of_lt h 1
  rw [Nat.mul_one] at e
  rw [e]
  refine Nat.eq_of_testBit_eq (fun j => ?_)
  rw [Nat.testBit_xor, Nat.testBit_or, Nat.testBit_two_pow]
  by_cases hj : n = j
  · subst hj
    rw [Nat.testBit_lt_two_pow h]
    simp
  · simp [hj]
theorem f_xtop2 {s n : Nat} (h : s < 2 ^ n) : (2 ^ n + s) ^^^ 2 ^ n = s := by
  rw [← f_xtop h, Nat.xor_assoc, Nat.xor_self, Nat.xor_zero]
theorem f_xlow {s n f : Nat} (h : s < 2 ^ n) (hf : f < n) : (2 ^ n + s) ^^^ 2 ^ f = 2 ^ n + (s ^^^ 2 ^ f) := by
  have hx : s ^^^ 2 ^ f < 2 ^ n := Nat.xor_lt_two_pow h (Nat.pow_lt_pow_right (by decide) hf)
  rw [← f_xtop h, ← f_xtop hx, Nat.xor_assoc, Nat.xor_assoc, Nat.xor_comm (2 ^ n)]
theorem f_sm_xor : ∀ (n f : Nat) (F : Nat → Nat), f < n → f_sm (2 ^ n) (fun s => F (s ^^^ 2 ^ f)) = f_sm (2 ^ n) F := by
  intro n
  induction n with
  | zero => intro f F h; omega
  | succ n ih =>
    intro f F h
    rw [Nat.pow_succ, Nat.mul_two, f_sm_split, f_sm_split F]
    by_cases e : f = n
    · subst e
      have e1 : f_sm (2 ^ f) (fun s => F (s ^^^ 2 ^ f)) = f_sm (2 ^ f) (fun i => F (2 ^ f + i)) := f_sm_cg _ (fun s hs => by
        show F (s ^^^ 2 ^ f) = F (2 ^ f + s)
        rw [f_xtop hs])
      have e2 : f_sm (2 ^ f) (fun i => F ((2 ^ f + i) ^^^ 2 ^ f)) = f_sm (2 ^ f) F := f_sm_cg _ (fun s hs => by
        show F ((2 ^ f + s) ^^^ 2 ^ f) = F s
        rw [f_xtop2 hs])
      rw [e1, e2, Nat.add_comm]
    · have e2 : f_sm (2 ^ n) (fun i => F ((2 ^ n + i) ^^^ 2 ^ f)) = f_sm (2 ^ n) (fun i => (fun j => F (2 ^ n + j)) (i ^^^ 2 ^ f)) := f_sm_cg _ (fun s hs => by
        show F ((2 ^ n + s) ^^^ 2 ^ f) = F (2 ^ n + (s ^^^ 2 ^ f))
        rw [f_xlow hs (by omega)])
      rw [e2, ih f F (by omega), ih f (fun j => F (2 ^ n + j)) (by omega)]
theorem f_sm_put {n f : Nat} (hf : f < n) (φ : Nat → Bool) (g : Nat → Nat) : f_sm (2 ^ n) (fun s => if φ (s ||| 2 ^ f) = true then g s else 0) = f_sm (2 ^ n) (fun s => if φ s = true then (if s.testBit f = true then g s + g (s ^^^ 2 ^ f) else 0) else 0) := by
  have e0 : f_sm (2 ^ n) (fun s => if φ (s ||| 2 ^ f) = true then g s else 0) = f_sm (2 ^ n) (fun s => (if s.testBit f = true then (if φ (s ||| 2 ^ f) = true then g s else 0) else 0) + (if s.testBit f = true then 0 else (if φ (s ||| 2 ^ f) = true then g s else 0))) := f_sm_cg _ (fun s _ => by
    show (if φ (s ||| 2 ^ f) = true then g s else 0) = (if s.testBit f = true then (if φ (s ||| 2 ^ f) = true then g s else 0) else 0) + (if s.testBit f = true then 0 else (if φ (s ||| 2 ^ f) = true then g s else 0))
    by_cases h : s.testBit f = true
    · rw [if_pos h, if_pos h, Nat.add_zero]
    · rw [if_neg h, if_neg h, Nat.zero_add])
  rw [e0, f_sm_add, ← f_sm_xor n f (fun s => if s.testBit f = true then 0 else (if φ (s ||| 2 ^ f) = true then g s else 0)) hf, ← f_sm_add]
  refine f_sm_cg _ (fun s _ => ?_)
  show (if s.testBit f = true then (if φ (s ||| 2 ^ f) = true then g s else 0) else 0) + (if (s ^^^ 2 ^ f).testBit f = true then 0 else (if φ ((s ^^^ 2 ^ f) ||| 2 ^ f) = true then g (s ^^^ 2 ^ f) else 0)) = if φ s = true then (if s.testBit f = true then g s + g (s ^^^ 2 ^ f) else 0) else 0
  have hb : (s ^^^ 2 ^ f).testBit f = !s.testBit f := by rw [Nat.testBit_xor, Nat.testBit_two_pow]; simp
  by_cases h : s.testBit f = true
  · have o1 : s ||| 2 ^ f = s := by
      refine Nat.eq_of_testBit_eq (fun i => ?_)
      rw [Nat.testBit_or, Nat.testBit_two_pow]
      by_cases e : f = i
      · subst e; rw [h]; rfl
      · simp [e]
    have o2 : (s ^^^ 2 ^ f) ||| 2 ^ f = s := by
      refine Nat.eq_of_testBit_eq (fun i => ?_)
      rw [Nat.testBit_or, Nat.testBit_xor, Nat.testBit_two_pow]
      by_cases e : f = i
      · subst e; rw [h]; simp
      · simp [e]
    rw [hb, h, o1, o2]
    by_cases hq : φ s = true
    · simp [hq]
    · simp [hq]
  · rw [if_neg h, hb, if_pos (by simpa using h), if_neg h]
    split <;> rfl
theorem f_sm_swap (F : Nat → Nat → Nat) (m : Nat) : ∀ n, f_sm n (fun i => f_sm m (fun j => F i j)) = f_sm m (fun j => f_sm n (fun i => F i j)) := by
  intro n
  induction n with
  | zero => exact (f_sm_z m (fun _ _ => rfl)).symm
  | succ n ih =>
    show f_sm n (fun i => f_sm m (fun j => F i j)) + f_sm m (fun j => F n j) = f_sm m (fun j => f_sm n (fun i => F i j) + F n j)
    rw [ih, f_sm_add]
theorem f_sm_pick (H : Nat → Nat) (c : Nat) : ∀ m, f_sm m (fun s => if c = s then H s else 0) = if c < m then H c else 0 := by
  intro m
  induction m with
  | zero => rfl
  | succ m ih =>
    show f_sm m (fun s => if c = s then H s else 0) + (if c = m then H m else 0) = _
    rw [ih]
    by_cases e : c = m
    · rw [if_pos e, if_neg (by omega), if_pos (by omega), e, Nat.zero_add]
    · rw [if_neg e, Nat.add_zero]
      by_cases h : c < m
      · rw [if_pos h, if_pos (by omega)]
      · rw [if_neg h, if_neg (by omega)]
theorem f_rot_or (n s t : Nat) : f_rot n (s ||| t) = f_rot n s ||| f_rot n t := by
  have e1 : (s ||| t) * 2 = s * 2 ||| t * 2 := by
    have := @Nat.shiftLeft_or_distrib 1 s t
    rw [Nat.shiftLeft_eq, Nat.shiftLeft_eq, Nat.shiftLeft_eq] at this
    exact this
  have e2 : (s ||| t) / 2 ^ (n - 1) = s / 2 ^ (n - 1) ||| t / 2 ^ (n - 1) := by
    have := @Nat.shiftRight_or_distrib (n - 1) s t
    rw [Nat.shiftRight_eq_div_pow, Nat.shiftRight_eq_div_pow, Nat.shiftRight_eq_div_pow] at this
    exact this
  unfold f_rot
  rw [e1, e2]
  refine Nat.eq_of_testBit_eq (fun i => ?_)
  simp only [Nat.testBit_and, Nat.testBit_or]
  generalize (s * 2).testBit i = a
  generalize (t * 2).testBit i = b
  generalize (s / 2 ^ (n - 1)).testBit i = c
  generalize (t / 2 ^ (n - 1)).testBit i = d
  generalize (2 ^ n - 1).testBit i = e
  cases a <;> cases b <;> cases c <;> cases d <;> cases e <;> rfl
theorem f_trn_or (n s t : Nat) : ∀ i, f_trn n (s ||| t) i = f_trn n s i ||| f_trn n t i := by
  intro i
  induction i with
  | zero => rfl
  | succ i ih =>
    show f_rot n (f_trn n (s ||| t) i) = f_rot n (f_trn n s i) ||| f_rot n (f_trn n t i)
    rw [ih, f_rot_or]
theorem f_cvd_or (n s t : Nat) : ∀ i, f_cvd n (s ||| t) i = f_cvd n s i ||| f_cvd n t i := by
  intro i
  induction i with
  | zero => show (0 : Nat) = 0 ||| 0; decide
  | succ i ih =>
    show f_cvd n (s ||| t) i ||| f_trn n (s ||| t) i = (f_cvd n s i ||| f_trn n s i) ||| (f_cvd n t i ||| f_trn n t i)
    rw [ih, f_trn_or]
    refine Nat.eq_of_testBit_eq (fun j => ?_)
    simp only [Nat.testBit_or]
    generalize (f_cvd n s i).testBit j = a
    generalize (f_cvd n t i).testBit j = b
    generalize (f_trn n s i).testBit j = c
    generalize (f_trn n t i).testBit j = d
    cases a <;> cases b <;> cases c <;> cases d <;> rfl
def f_arc (n x : Nat) : Nat → Nat
  | 0 => 0
  | i + 1 => f_arc n x i ||| 2 ^ ((x + i) % n)
theorem f_rot_pow {n y : Nat} (hn : n ≤ 10) (hy : y < n) : f_rot n (2 ^ y) = 2 ^ ((y + 1) % n) := by
  have : ∀ n, n ≤ 10 → ∀ y, y ≤ 9 → y < n → f_rot n (2 ^ y) = 2 ^ ((y + 1) % n) := by decide +kernel
  exact this n hn y (by omega) hy
theorem f_trn_pow {n x : Nat} (hn : n ≤ 10) (hx : x < n) : ∀ i, f_trn n (2 ^ x) i = 2 ^ ((x + i) % n) := by
  intro i
  induction i with
  | zero => show 2 ^ x = _; rw [Nat.add_zero, Nat.mod_eq_of_lt hx]
  | succ i ih =>
    show f_rot n (f_trn n (2 ^ x) i) = _
    rw [ih, f_rot_pow hn (Nat.mod_lt _ (by omega)), Nat.mod_add_mod, Nat.add_assoc]
theorem f_cvd_pow {n x : Nat} (hn : n ≤ 10) (hx : x < n) : ∀ i, f_cvd n (2 ^ x) i = f_arc n x i := by
  intro i
  induction i with
  | zero => rfl
  | succ i ih =>
    show f_cvd n (2 ^ x) i ||| f_trn n (2 ^ x) i = f_arc n x i ||| _
    rw [ih, f_trn_pow hn hx]
theorem f_cvd_0 (n : Nat) : ∀ i, f_cvd n 0 i = 0 := by
  have ht : ∀ i, f_trn n 0 i = 0 := by
    intro i
    induction i with
    | zero => rfl
    | succ i ih =>
      show f_rot n (f_trn n 0 i) = 0
      rw [ih]
      unfold f_rot
      rw [Nat.zero_mul, Nat.zero_div]
      simp
  intro i
  induction i with
  | zero => rfl
  | succ i ih =>
    show f_cvd n 0 i ||| f_trn n 0 i = 0
    rw [ih, ht]
    rfl
theorem f_arc_lt {n x : Nat} (hn : 0 < n) : ∀ i, f_arc n x i < 2 ^ n := by
  intro i
  induction i with
  | zero => exact Nat.pow_pos (by decide)
  | succ i ih => exact n_or_lt ih (Nat.pow_lt_pow_right (by decide) (Nat.mod_lt _ hn))
/-- how many ways so many arcs lie so -/
def f_ck (n a : Nat) : Nat → Nat → Nat
  | 0, T => if T = 0 then 1 else 0
  | k + 1, T => f_sm n (fun x => f_sm (2 ^ n) (fun s => if s ||| f_arc n x a = T then f_ck n a k s else 0))
theorem f_cnt_cut {S n : Nat} (h : S < 2 ^ n) : ∀ m, f_cnt (n + m) (fun x => S.testBit x) = f_cnt n (fun x => S.testBit x) := by
  intro m
  induction m with
  | zero => rfl
  | succ m ih =>
    show f_cnt (n + m) (fun x => S.testBit x) + (if S.testBit (n + m) = true then 1 else 0) = _
    rw [ih, Nat.testBit_lt_two_pow (Nat.lt_of_lt_of_le h (Nat.pow_le_pow_right (by decide) (by omega))), if_neg (by decide), Nat.add_zero]
theorem f_pc_xor {S x : Nat} (hx : x < 17) (h : S.testBit x = true) : f_pc S = f_pc (S ^^^ 2 ^ x) + 1 := by
  have := f_cnt_one (P := fun z => S.testBit z) (Q := fun z => (S ^^^ 2 ^ x).testBit z) (k := x) (fun z hz => by
    show S.testBit z = (S ^^^ 2 ^ x).testBit z
    rw [Nat.testBit_xor, Nat.testBit_two_pow]; simp [Ne.symm hz]) h (by show (S ^^^ 2 ^ x).testBit x = false; rw [Nat.testBit_xor, Nat.testBit_two_pow, h]; simp) 17
  rw [if_pos hx] at this
  exact this
theorem f_ck_eq {n a : Nat} (hn1 : 1 ≤ n) (hn : n ≤ 10) : ∀ k T, T < 2 ^ n → f_ck n a k T = f_sm (2 ^ n) (fun S => if f_cvd n S a = T then f_onto k (f_pc S) else 0) := by
  have h17 : ∀ S, S < 2 ^ n → S < 2 ^ 17 := fun S hS => Nat.lt_of_lt_of_le hS (Nat.pow_le_pow_right (by decide) (by omega))
  intro k
  induction k with
  | zero =>
    intro T hT
    have e : f_sm (2 ^ n) (fun S => if f_cvd n S a = T then f_onto 0 (f_pc S) else 0) = f_sm (2 ^ n) (fun S => if 0 = S then (if T = 0 then 1 else 0) else 0) := f_sm_cg _ (fun S hS => by
      show (if f_cvd n S a = T then (if f_pc S = 0 then 1 else 0) else 0) = if 0 = S then (if T = 0 then 1 else 0) else 0
      by_cases h : 0 = S
      · subst h
        rw [f_cvd_0, f_pc_0, if_pos rfl, if_pos rfl]
        by_cases hT : T = 0
        · rw [if_pos hT.symm, if_pos hT]
        · rw [if_neg (Ne.symm hT), if_neg hT]
      · rw [if_neg h, if_neg (fun z => h ((f_pc_z (h17 S hS)).mp z).symm)]
        split <;> rfl)
    rw [e, f_sm_pick (fun _ => if T = 0 then 1 else 0), if_pos (Nat.pow_pos (by decide))]
    rfl
  | succ k ih =>
    intro T hT
    show f_sm n (fun x => f_sm (2 ^ n) (fun s => if s ||| f_arc n x a = T then f_ck n a k s else 0)) = _
    have e1 : ∀ x, x < n → f_sm (2 ^ n) (fun s => if s ||| f_arc n x a = T then f_ck n a k s else 0) = f_sm (2 ^ n) (fun S => if decide (f_cvd n S a = T) = true then (if S.testBit x = true then f_onto k (f_pc S) + f_onto k (f_pc S - 1) else 0) else 0) := by
      intro x hx
      have q1 : f_sm (2 ^ n) (fun s => if s ||| f_arc n x a = T then f_ck n a k s else 0) = f_sm (2 ^ n) (fun s => f_sm (2 ^ n) (fun S => if f_cvd n S a = s then (if s ||| f_arc n x a = T then f_onto k (f_pc S) else 0) else 0)) := f_sm_cg _ (fun s hs => by
        show (if s ||| f_arc n x a = T then f_ck n a k s else 0) = f_sm (2 ^ n) (fun S => if f_cvd n S a = s then (if s ||| f_arc n x a = T then f_onto k (f_pc S) else 0) else 0)
        by_cases h : s ||| f_arc n x a = T
        · simp only [if_pos h]
          exact ih s hs
        · simp only [if_neg h]
          refine (f_sm_z _ (fun S _ => ?_)).symm
          show (if f_cvd n S a = s then 0 else 0) = 0
          split <;> rfl)
      have q2 : f_sm (2 ^ n) (fun S => f_sm (2 ^ n) (fun s => if f_cvd n S a = s then (if s ||| f_arc n x a = T then f_onto k (f_pc S) else 0) else 0)) = f_sm (2 ^ n) (fun S => if decide (f_cvd n (S ||| 2 ^ x) a = T) = true then f_onto k (f_pc S) else 0) := f_sm_cg _ (fun S hS => by
        show f_sm (2 ^ n) (fun s => if f_cvd n S a = s then (if s ||| f_arc n x a = T then f_onto k (f_pc S) else 0) else 0) = if decide (f_cvd n (S ||| 2 ^ x) a = T) = true then f_onto k (f_pc S) else 0
        rw [f_sm_pick (fun s => if s ||| f_arc n x a = T then f_onto k (f_pc S) else 0), if_pos (f_cvd_lt hS a), f_cvd_or, f_cvd_pow hn hx]
        by_cases h : f_cvd n S a ||| f_arc n x a = T
        · rw [if_pos h, if_pos (decide_eq_true h)]
        · rw [if_neg h, if_neg (by rw [decide_eq_false h]; decide)])
      rw [q1, f_sm_swap, q2, f_sm_put hx (fun S => decide (f_cvd n S a = T)) (fun S => f_onto k (f_pc S))]
      refine f_sm_cg _ (fun S hS => ?_)
      show (if decide (f_cvd n S a = T) = true then (if S.testBit x = true then f_onto k (f_pc S) + f_onto k (f_pc (S ^^^ 2 ^ x)) else 0) else 0) = if decide (f_cvd n S a = T) = true then (if S.testBit x = true then f_onto k (f_pc S) + f_onto k (f_pc S - 1) else 0) else 0
      by_cases h : S.testBit x = true
      · have := f_pc_xor (S := S) (x := x) (by omega) h
        rw [if_pos h, if_pos h, show f_pc (S ^^^ 2 ^ x) = f_pc S - 1 by omega]
      · rw [if_neg h, if_neg h]
    rw [f_sm_cg n e1, f_sm_swap]
    refine f_sm_cg _ (fun S hS => ?_)
    show f_sm n (fun x => if decide (f_cvd n S a = T) = true then (if S.testBit x = true then f_onto k (f_pc S) + f_onto k (f_pc S - 1) else 0) else 0) = if f_cvd n S a = T then f_onto (k + 1) (f_pc S) else 0
    by_cases h : f_cvd n S a = T
    · simp only [decide_eq_true h, if_pos h, if_true]
      have hc := f_cnt_cut hS (17 - n)
      rw [show n + (17 - n) = 17 by omega] at hc
      have hc : f_pc S = f_cnt n (fun x => S.testBit x) := hc
      have e2 : f_sm n (fun x => if S.testBit x = true then f_onto k (f_pc S) + f_onto k (f_pc S - 1) else 0) = (f_onto k (f_pc S) + f_onto k (f_pc S - 1)) * f_pc S := by
        generalize f_onto k (f_pc S) + f_onto k (f_pc S - 1) = y
        rw [hc, f_cnt_sm, ← f_sm_ifm]
        refine f_sm_cg n (fun x _ => ?_)
        show (if S.testBit x = true then y else 0) = if S.testBit x = true then y * 1 else 0
        rw [Nat.mul_one]
      rw [e2]
      show _ = if f_pc S = 0 then 0 else f_pc S * (f_onto k (f_pc S) + f_onto k (f_pc S - 1))
      split
      · rename_i z; rw [z, Nat.mul_zero]
      · rw [Nat.mul_comm]
    · simp only [decide_eq_false h, if_neg h]
      refine f_sm_z _ (fun x _ => ?_)
      rfl
theorem f_onto_0 : ∀ k u, k < u → f_onto k u = 0 := by
  intro k
  induction k with
  | zero => intro u h; show (if u = 0 then 1 else 0) = 0; rw [if_neg (by omega)]
  | succ k ih =>
    intro u h
    show (if u = 0 then 0 else u * (f_onto k u + f_onto k (u - 1))) = 0
    rw [if_neg (by omega), ih u (by omega), ih (u - 1) (by omega), Nat.mul_zero]
theorem f_ck_cvg {n a : Nat} (hn1 : 1 ≤ n) (hn : n ≤ 10) (k : Nat) : f_ck n a k (2 ^ n - 1) = f_cvg n a k := by
  have hp : 0 < 2 ^ n := Nat.pow_pos (by decide)
  have hp2 : 2 ^ 1 ≤ 2 ^ n := Nat.pow_le_pow_right (by decide) hn1
  rw [f_ck_eq hn1 hn k _ (by omega)]
  refine f_sm_cg _ (fun S hS => ?_)
  show (if f_cvd n S a = 2 ^ n - 1 then f_onto k (f_pc S) else 0) = if S ≠ 0 ∧ f_pc S ≤ k ∧ decide (f_cvd n S a = 2 ^ n - 1) = true then f_onto k (f_pc S) else 0
  by_cases h : f_cvd n S a = 2 ^ n - 1
  · rw [if_pos h, decide_eq_true h]
    have h0 : S ≠ 0 := fun z => by rw [z, f_cvd_0] at h; omega
    by_cases h2 : f_pc S ≤ k
    · rw [if_pos ⟨h0, h2, rfl⟩]
    · rw [if_neg (fun z => h2 z.2.1), f_onto_0 k _ (by omega)]
  · rw [if_neg h, if_neg (fun z => h (of_decide_eq_true z.2.2))]
