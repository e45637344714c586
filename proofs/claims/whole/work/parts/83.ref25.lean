/-! ===== the sums over ends: slot by slot, and break by break ===== -/
def f_gn (ew : Nat → Nat → Nat → Nat) (may : Nat → Nat) (c : Nat) (g nd : Nat → Nat) : Nat → Nat → Nat → Nat → Nat
  | 0, S, q, k => f_rsw c 3 k q * g S
  | d + 1, S, q, k => if k = c ∨ may S = 0 then f_rsw c 3 k q * g S else ew k q (f_pc (may S)) * 360360 ^ (c - 1 - k) * nd S + f_sm 17 (fun x => if (decide (1 ≤ x) && (may S).testBit x) = true then f_gn ew may c g nd d (S ||| 2 ^ x) (ew k q (f_pc (may S))) (k + 1) else 0)
theorem f_gn_at {ew : Nat → Nat → Nat → Nat} {may : Nat → Nat} {c : Nat} {g nd : Nat → Nat} {d S q k : Nat} (h : d = 0 ∨ k = c ∨ may S = 0) : f_gn ew may c g nd d S q k = f_rsw c 3 k q * g S := by
  cases d with
  | zero => rfl
  | succ d =>
    unfold f_gn
    rw [if_pos (by omega)]
theorem f_gn_on {ew : Nat → Nat → Nat → Nat} {may : Nat → Nat} {c : Nat} {g nd : Nat → Nat} {d S q k : Nat} (h : ¬ (k = c ∨ may S = 0)) : f_gn ew may c g nd (d + 1) S q k = ew k q (f_pc (may S)) * 360360 ^ (c - 1 - k) * nd S + f_sm 17 (fun x => if (decide (1 ≤ x) && (may S).testBit x) = true then f_gn ew may c g nd d (S ||| 2 ^ x) (ew k q (f_pc (may S))) (k + 1) else 0) := if_neg h
theorem f_sm_mul {f : Nat → Nat} (q : Nat) : ∀ n, f_sm n (fun x => q * f x) = q * f_sm n f := by
  intro n
  induction n with
  | zero => rfl
  | succ n ih =>
    show f_sm n (fun x => q * f x) + q * f n = q * (f_sm n f + f n)
    rw [ih, Nat.mul_add]
theorem f_sm_add {f h : Nat → Nat} : ∀ n, f_sm n (fun x => f x + h x) = f_sm n f + f_sm n h := by
  intro n
  induction n with
  | zero => rfl
  | succ n ih =>
    show f_sm n (fun x => f x + h x) + (f n + h n) = f_sm n f + f n + (f_sm n h + h n)
    rw [ih]; omega
theorem f_sm_ifm {P : Nat → Bool} {f : Nat → Nat} (q n : Nat) : f_sm n (fun x => if P x = true then q * f x else 0) = q * f_sm n (fun x => if P x = true then f x else 0) := by
  rw [← f_sm_mul]
  refine f_sm_cg n (fun x _ => ?_)
  show (if P x = true then q * f x else 0) = q * (if P x = true then f x else 0)
  split
  · rfl
  · rw [Nat.mul_zero]
theorem f_gn_lin {ew : Nat → Nat → Nat → Nat} {may : Nat → Nat} {c : Nat} {g nd : Nat → Nat} (hew : ∀ k q n, 1 ≤ k → ew k q n = q * (360360 / n)) (hc3 : c ≤ 3) : ∀ (d S q k : Nat), 1 ≤ k → k ≤ c → f_gn ew may c g nd d S q k = q * f_gn ew may c g nd d S 1 k := by
  have fin : ∀ (d S q k : Nat), 1 ≤ k → k ≤ c → d = 0 ∨ k = c ∨ may S = 0 → f_gn ew may c g nd d S q k = q * f_gn ew may c g nd d S 1 k := by
    intro d S q k h1 h2 h
    rw [f_gn_at h, f_gn_at h, f_rsw_pow 3 k q h1 h2 (by omega), f_rsw_pow 3 k 1 h1 h2 (by omega), Nat.one_mul, Nat.mul_assoc]
  intro d
  induction d with
  | zero => intro S q k h1 h2; exact fin 0 S q k h1 h2 (Or.inl rfl)
  | succ d ih =>
    intro S q k h1 h2
    by_cases h : k = c ∨ may S = 0
    · exact fin (d + 1) S q k h1 h2 (Or.inr h)
    rw [f_gn_on h, f_gn_on h, hew k q _ h1, hew k 1 _ h1, Nat.one_mul, Nat.mul_add]
    have e : ∀ w, f_sm 17 (fun x => if (decide (1 ≤ x) && (may S).testBit x) = true then f_gn ew may c g nd d (S ||| 2 ^ x) w (k + 1) else 0) = w * f_sm 17 (fun x => if (decide (1 ≤ x) && (may S).testBit x) = true then f_gn ew may c g nd d (S ||| 2 ^ x) 1 (k + 1) else 0) := by
      intro w
      rw [← f_sm_ifm]
      refine f_sm_cg 17 (fun x _ => ?_)
      show (if _ then _ else _) = (if _ then _ else _)
      split
      · exact ih _ w (k + 1) (by omega) (by omega)
      · rfl
    rw [e, e (360360 / f_pc (may S)), Nat.mul_assoc q, Nat.mul_assoc q, Nat.mul_assoc q]
/-- a set's worth, so that what is shared out keeps its worth -/
def f_vS (ew : Nat → Nat → Nat → Nat) (may : Nat → Nat) (c : Nat) (g nd : Nat → Nat) (S : Nat) : Nat := 360360 ^ (f_pc S - 1) * f_gn ew may c g nd (3 - f_pc S) S 1 (f_pc S)
theorem f_vS_on {ew : Nat → Nat → Nat → Nat} {may : Nat → Nat} {c : Nat} {g nd : Nat → Nat} (hew : ∀ k q n, 1 ≤ k → ew k q n = q * (360360 / n)) (hc3 : c ≤ 3) {S m : Nat} (h1 : 1 ≤ f_pc S) (h2 : f_pc S < c) (hm : may S ≠ 0) (hn : f_pc (may S) * (360360 / f_pc (may S)) = 360360) (hnew : ∀ x, (may S).testBit x = true → S.testBit x = false) : f_pc (may S) * m * f_vS ew may c g nd S = 360360 ^ (c - 1) * (m * nd S) + f_sm 17 (fun x => if (decide (1 ≤ x) && (may S).testBit x) = true then m * f_vS ew may c g nd (S ||| 2 ^ x) else 0) := by
  have eV : f_vS ew may c g nd S = 360360 ^ (f_pc S - 1) * f_gn ew may c g nd (3 - f_pc S) S 1 (f_pc S) := rfl
  have es : f_sm 17 (fun x => if (decide (1 ≤ x) && (may S).testBit x) = true then m * f_vS ew may c g nd (S ||| 2 ^ x) else 0) = m * (360360 ^ f_pc S * f_sm 17 (fun x => if (decide (1 ≤ x) && (may S).testBit x) = true then f_gn ew may c g nd (3 - (f_pc S + 1)) (S ||| 2 ^ x) 1 (f_pc S + 1) else 0)) := by
    rw [f_sm_ifm, ← f_sm_ifm (360360 ^ f_pc S)]
    refine congrArg (m * ·) (f_sm_cg 17 (fun x hx => ?_))
    show (if _ then _ else _) = (if _ then _ else _)
    split
    · rename_i hp
      rw [Bool.and_eq_true] at hp
      have e := f_pc_add hx (hnew x hp.2)
      unfold f_vS
      rw [e, show f_pc S + 1 - 1 = f_pc S by omega]
    · rfl
  have ew1 : f_sm 17 (fun x => if (decide (1 ≤ x) && (may S).testBit x) = true then f_gn ew may c g nd (3 - (f_pc S + 1)) (S ||| 2 ^ x) (360360 / f_pc (may S)) (f_pc S + 1) else 0) = (360360 / f_pc (may S)) * f_sm 17 (fun x => if (decide (1 ≤ x) && (may S).testBit x) = true then f_gn ew may c g nd (3 - (f_pc S + 1)) (S ||| 2 ^ x) 1 (f_pc S + 1) else 0) := by
    rw [← f_sm_ifm]
    refine f_sm_cg 17 (fun x _ => ?_)
    show (if _ then _ else _) = (if _ then _ else _)
    split
    · exact f_gn_lin hew hc3 _ _ _ _ (by omega) (by omega)
    · rfl
  rw [eV, es, show 3 - f_pc S = 3 - (f_pc S + 1) + 1 by omega, f_gn_on (by omega), hew _ 1 _ h1, Nat.one_mul, ew1]
  have ec : 360360 ^ (c - 1) = 360360 ^ f_pc S * 360360 ^ (c - 1 - f_pc S) := by rw [← Nat.pow_add, show f_pc S + (c - 1 - f_pc S) = c - 1 by omega]
  have ek : 360360 ^ f_pc S = 360360 ^ (f_pc S - 1) * (f_pc (may S) * (360360 / f_pc (may S))) := by
    rw [hn, ← Nat.pow_succ, show (f_pc S - 1).succ = f_pc S by omega]
  rw [ec, ek]
  generalize f_sm 17 _ = A
  generalize 360360 / f_pc (may S) = t
  generalize 360360 ^ (f_pc S - 1) = a
  generalize 360360 ^ (c - 1 - f_pc S) = b
  generalize f_pc (may S) = n
  rw [Nat.mul_add, Nat.mul_add]
  congr 1
  · simp only [Nat.mul_assoc, Nat.mul_comm, Nat.mul_left_comm]
  · simp only [Nat.mul_assoc, Nat.mul_comm, Nat.mul_left_comm]
theorem f_sm_uaV (w V : Nat → Nat) (j q : Nat) (hj : j < 697) : f_sm 697 (fun i => f_ua w j q i * V i) = f_sm 697 (fun i => w i * V i) + q * V j := by
  have e := f_sm_ua (fun i => w i * V i) j (q * V j) 697
  rw [if_pos hj] at e
  rw [← e]
  refine f_sm_cg 697 (fun i _ => ?_)
  show (if i = j then w i + q else w i) * V i = if i = j then w i * V i + q * V j else w i * V i
  split
  · rename_i h; rw [h, Nat.add_mul]
  · rfl
theorem f_sm_usV (w V : Nat → Nat) (j : Nat) (hj : j < 697) : f_sm 697 (fun i => f_us w j 0 i * V i) + w j * V j = f_sm 697 (fun i => w i * V i) := by
  have e := f_sm_us (fun i => w i * V i) j 0 697
  rw [if_pos hj, if_pos hj, Nat.add_zero] at e
  rw [← e]
  refine congrArg (· + w j * V j) (f_sm_cg 697 (fun i _ => ?_))
  show (if i = j then 0 else w i) * V i = if i = j then 0 else w i * V i
  split
  · rw [Nat.zero_mul]
  · rfl
theorem f_sm_shrV (S may q : Nat) (w V : Nat → Nat) (hok : ∀ x, 1 ≤ x → x < 17 → may.testBit x = true → f_ok (S ||| 2 ^ x)) : ∀ n, n ≤ 17 → f_sm 697 (fun i => f_shr S may q n w i * V (f_set i)) = f_sm 697 (fun i => w i * V (f_set i)) + f_sm n (fun x => if (decide (1 ≤ x) && may.testBit x) = true then q * V (S ||| 2 ^ x) else 0) := by
  intro n
  induction n with
  | zero => intro _; exact (Nat.add_zero _).symm
  | succ n ih =>
    intro h
    have ih := ih (by omega)
    have e2 : f_sm (n + 1) (fun x => if (decide (1 ≤ x) && may.testBit x) = true then q * V (S ||| 2 ^ x) else 0) = f_sm n (fun x => if (decide (1 ≤ x) && may.testBit x) = true then q * V (S ||| 2 ^ x) else 0) + (if (decide (1 ≤ n) && may.testBit n) = true then q * V (S ||| 2 ^ n) else 0) := rfl
    have e1 : f_shr S may q (n + 1) w = if (decide (1 ≤ n) && may.testBit n) = true then f_ua (f_shr S may q n w) (f_slot (S ||| 2 ^ n)) q else f_shr S may q n w := rfl
    rw [e2, e1]
    by_cases hc : (decide (1 ≤ n) && may.testBit n) = true
    · rw [if_pos hc, if_pos hc]
      simp only [Bool.and_eq_true, decide_eq_true_eq] at hc
      have hs := f_set_slot (hok n hc.1 (by omega) hc.2)
      rw [f_sm_uaV _ (fun i => V (f_set i)) _ _ hs.1, ih, hs.2, Nat.add_assoc]
    · rw [if_neg hc, if_neg hc, ih, Nat.add_zero]
theorem f_shr_inv {S may q : Nat} {P : Nat → Nat → Prop} {w : Nat → Nat} (h0 : ∀ i, i < 697 → P i (w i)) (hs : ∀ x, 1 ≤ x → x < 17 → may.testBit x = true → ∀ v, P (f_slot (S ||| 2 ^ x)) v → P (f_slot (S ||| 2 ^ x)) (v + q)) : ∀ n, n ≤ 17 → ∀ i, i < 697 → P i (f_shr S may q n w i) := by
  intro n
  induction n with
  | zero => intro _ i hi; exact h0 i hi
  | succ n ih =>
    intro h i hi
    have ih := ih (by omega) i hi
    have e1 : f_shr S may q (n + 1) w = if (decide (1 ≤ n) && may.testBit n) = true then f_ua (f_shr S may q n w) (f_slot (S ||| 2 ^ n)) q else f_shr S may q n w := rfl
    rw [e1]
    by_cases hc : (decide (1 ≤ n) && may.testBit n) = true
    · rw [if_pos hc]
      simp only [Bool.and_eq_true, decide_eq_true_eq] at hc
      show P i (if i = f_slot (S ||| 2 ^ n) then f_shr S may q n w i + q else f_shr S may q n w i)
      split
      · rename_i e
        rw [e] at ih ⊢
        exact hs n hc.1 (by omega) hc.2 _ ih
      · exact ih
    · rw [if_neg hc]; exact ih
theorem f_set_tab {i : Nat} (h : i < 697) : f_base (f_pc (f_set i)) ≤ i ∧ (f_pc (f_set i) < 3 → i < f_base (f_pc (f_set i) + 1)) := by
  have := f_allr_ok (P := fun i => Nat.ble (f_base (f_pc (f_set i))) i && (Nat.ble 3 (f_pc (f_set i)) || Nat.blt i (f_base (f_pc (f_set i) + 1)))) 697 (by decide +kernel) i h
  rw [Bool.and_eq_true, Bool.or_eq_true] at this
  refine ⟨Nat.le_of_ble_eq_true this.1, fun h3 => ?_⟩
  rcases this.2 with e | e
  · have := Nat.le_of_ble_eq_true e; omega
  · exact Nat.le_of_ble_eq_true e
theorem f_base_mono {a b : Nat} (h : a ≤ b) (hb : b ≤ 3) : f_base a ≤ f_base b := by
  have : ∀ b, b ≤ 3 → ∀ a, a ≤ 3 → a ≤ b → f_base a ≤ f_base b := by decide +kernel
  exact this b hb a (by omega) h
theorem f_wsum_eq (w g : Nat → Nat) : ∀ n, f_wsum w g n = f_sm n (fun i => w i * g (f_set i)) := by
  intro n
  induction n with
  | zero => rfl
  | succ n ih =>
    show f_wsum w g n + (if w n = 0 then 0 else w n * g (f_set n)) = f_sm n _ + w n * g (f_set n)
    rw [ih]
    split
    · rename_i h; rw [h, Nat.zero_mul]
    · rfl
theorem f_dp_fst (may : Nat → Nat) (pr pr' : Nat → Nat → Nat) (T : Nat) : ∀ n, (f_dp may pr T n).1 = (f_dp may pr' T n).1 := by
  intro n
  induction n with
  | zero => rfl
  | succ n ih =>
    show (f_dst may pr n (f_dp may pr T n)).1 = (f_dst may pr' n (f_dp may pr' T n)).1
    unfold f_dst
    rw [ih]
    split
    · exact ih
    · rfl
/-- what the slots hold while the sharing goes on -/
def f_Pw (may : Nat → Nat) (c n i v : Nat) : Prop := (v ≠ 0 → 1 ≤ f_pc (f_set i) ∧ f_pc (f_set i) ≤ c ∧ (i < n → may (f_set i) = 0)) ∧ 360360 ^ (3 - f_pc (f_set i)) ∣ v
theorem f_Pw.zero {may : Nat → Nat} {c n i : Nat} : f_Pw may c n i 0 := ⟨fun h => absurd rfl h, Nat.dvd_zero _⟩
def f_Kp (ew : Nat → Nat → Nat → Nat) (may : Nat → Nat) (c : Nat) (g : Nat → Nat) (pr : Nat → Nat → Nat) : Nat := 360360 ^ (c - 1) * (f_U * pr 0 (may 0)) + f_U * f_sm 17 (fun x => if (decide (1 ≤ x) && (may 0).testBit x) = true then f_gn ew may c g (fun S => pr S (may S)) 2 (0 ||| 2 ^ x) 1 1 else 0)
theorem f_dp_inv {ew : Nat → Nat → Nat → Nat} {may : Nat → Nat} {c : Nat} {g : Nat → Nat} {pr : Nat → Nat → Nat} (hew : ∀ k q n, 1 ≤ k → ew k q n = q * (360360 / n)) (hc1 : 1 ≤ c) (hc3 : c ≤ 3) (hmb : ∀ S, may S < 2 ^ 17) (hnew : ∀ T x, (may T).testBit x = true → T.testBit x = false ∧ 1 ≤ x) (h0 : may 0 ≠ 0) : ∀ n, n + 1 ≤ f_base c → (∀ i, i < 697 → f_Pw may c (n + 1) i ((f_dp may pr (f_tot may) (n + 1)).1 i)) ∧ 360360 ^ (c - 1) * (f_dp may pr (f_tot may) (n + 1)).2 + f_sm 697 (fun i => (f_dp may pr (f_tot may) (n + 1)).1 i * f_vS ew may c g (fun S => pr S (may S)) (f_set i)) = f_Kp ew may c g pr := by
  have hbit : ∀ S x, x < 17 → (may S).testBit x = true → f_ok S → f_pc S < 3 → f_ok (S ||| 2 ^ x) ∧ f_pc (S ||| 2 ^ x) = f_pc S + 1 := fun S x hx hb hok hp => ⟨f_ok_or hok hp (hnew S x hb).2 hx, f_pc_add hx (hnew S x hb).1⟩
  have hs0 : f_set 0 = 0 := by decide +kernel
  have hU0 : f_U = 360360 ^ 2 := rfl
  intro n
  induction n with
  | zero =>
    intro _
    have hp0 : f_pc (may 0) ≠ 0 := fun z => h0 ((f_pc_z (hmb 0)).mp z)
    have hT : f_tot may = f_U * f_pc (may 0) := by unfold f_tot; rw [show max 1 (f_pc (may 0)) = f_pc (may 0) by omega]
    have e1 : f_dp may pr (f_tot may) (0 + 1) = f_dst may pr 0 (fun i => if i = 0 then f_tot may else 0, 0) := rfl
    have hTn : ¬ (f_tot may = 0 ∨ f_pc (may 0) = 0) := by
      intro z
      rcases z with z | z
      · rw [hT] at z
        rcases Nat.mul_eq_zero.mp z with y | y
        · exact absurd y (by decide)
        · exact hp0 y
      · exact hp0 z
    have e2 : f_dst may pr 0 (fun i => if i = 0 then f_tot may else 0, 0) = (f_shr 0 (may 0) f_U 17 (f_us (fun i => if i = 0 then f_tot may else 0) 0 0), 0 + f_U * pr 0 (may 0)) := by
      unfold f_dst
      rw [hs0]
      show (if f_tot may = 0 ∨ f_pc (may 0) = 0 then _ else (f_shr 0 (may 0) (f_tot may / f_pc (may 0)) 17 _, 0 + f_tot may / f_pc (may 0) * pr 0 (may 0))) = _
      rw [if_neg hTn]
      have : f_tot may / f_pc (may 0) = f_U := by rw [hT]; exact Nat.mul_div_cancel _ (Nat.pos_of_ne_zero hp0)
      rw [this]
    have hz : ∀ i, f_us (fun i => if i = 0 then f_tot may else 0) 0 0 i = 0 := by
      intro i
      show (if i = 0 then 0 else if i = 0 then f_tot may else 0) = 0
      split
      · rfl
      · rfl
    have hok0 : f_ok 0 := ⟨by decide, Nat.zero_testBit 0, by rw [f_pc_0]; decide⟩
    have hokx : ∀ x, x < 17 → (may 0).testBit x = true → f_ok (0 ||| 2 ^ x) ∧ f_pc (0 ||| 2 ^ x) = 1 := fun x hx hb => by
      have := hbit 0 x hx hb hok0 (by rw [f_pc_0]; decide)
      rw [f_pc_0] at this
      exact this
    rw [e1, e2]
    refine ⟨f_shr_inv (fun i _ => by rw [hz]; exact f_Pw.zero) (fun x x1 x2 hb v hv => ?_) 17 (Nat.le_refl _), ?_⟩
    · obtain ⟨o1, o2⟩ := hokx x x2 hb
      obtain ⟨s1, s2⟩ := f_set_slot o1
      refine ⟨fun _ => ?_, Nat.dvd_add hv.2 ?_⟩
      · rw [s2, o2]
        refine ⟨Nat.le_refl _, hc1, fun z => ?_⟩
        have z0 : f_slot (0 ||| 2 ^ x) = 0 := by omega
        rw [z0, hs0] at s2
        rw [← s2, f_pc_0] at o2
        cases o2
      · rw [s2, o2, hU0]
        exact Nat.dvd_refl _
    · rw [f_sm_shrV 0 (may 0) f_U _ _ (fun x x1 x2 hb => (hokx x x2 hb).1) 17 (Nat.le_refl _), f_sm_z 697 (fun i _ => by rw [hz, Nat.zero_mul]), Nat.zero_add, Nat.zero_add, f_sm_ifm]
      unfold f_Kp
      refine congrArg (fun z => _ + f_U * z) (f_sm_cg 17 (fun x hx => ?_))
      show (if _ then _ else _) = (if _ then _ else _)
      split
      · rename_i hp
        rw [Bool.and_eq_true] at hp
        unfold f_vS
        rw [(hokx x hx hp.2).2]
        show 1 * _ = _
        rw [Nat.one_mul]
      · rfl
  | succ n ih =>
    intro hn
    obtain ⟨i1, i2⟩ := ih (by omega)
    obtain ⟨hpc, h137⟩ := f_set_pc hc3 (show n + 1 < f_base c by omega)
    have hS := (f_set_ok (i := n + 1) (by omega)).1
    obtain ⟨t1, t2⟩ := f_set_tab (i := n + 1) (by omega)
    have hk1 : 1 ≤ f_pc (f_set (n + 1)) := by
      rcases Nat.eq_zero_or_pos (f_pc (f_set (n + 1))) with z | z
      · have := t2 (by omega)
        rw [z] at this
        have e : f_base (0 + 1) = 1 := rfl
        omega
      · exact z
    have e1 : f_dp may pr (f_tot may) (n + 1 + 1) = f_dst may pr (n + 1) (f_dp may pr (f_tot may) (n + 1)) := rfl
    rw [e1]
    generalize f_dp may pr (f_tot may) (n + 1) = s at *
    obtain ⟨w, sp⟩ := s
    have i1 : ∀ i, i < 697 → f_Pw may c (n + 1) i (w i) := i1
    have i2 : 360360 ^ (c - 1) * sp + f_sm 697 (fun i => w i * f_vS ew may c g (fun S => pr S (may S)) (f_set i)) = f_Kp ew may c g pr := i2
    have ed : f_dst may pr (n + 1) (w, sp) = if w (n + 1) = 0 ∨ f_pc (may (f_set (n + 1))) = 0 then (w, sp) else (f_shr (f_set (n + 1)) (may (f_set (n + 1))) (w (n + 1) / f_pc (may (f_set (n + 1)))) 17 (f_us w (n + 1) 0), sp + w (n + 1) / f_pc (may (f_set (n + 1))) * pr (f_set (n + 1)) (may (f_set (n + 1)))) := rfl
    rw [ed]
    by_cases hw : w (n + 1) = 0 ∨ f_pc (may (f_set (n + 1))) = 0
    · rw [if_pos hw]
      refine ⟨fun i hi => ⟨fun hv => ?_, (i1 i hi).2⟩, i2⟩
      obtain ⟨a1, a2, a3⟩ := (i1 i hi).1 hv
      refine ⟨a1, a2, fun hlt => ?_⟩
      by_cases e : i = n + 1
      · rw [e]
        rcases hw with z | z
        · rw [← e] at z; exact absurd z hv
        · exact (f_pc_z (hmb _)).mp z
      · exact a3 (by omega)
    · rw [if_neg hw]
      have hd := (i1 (n + 1) (by omega)).2
      generalize hSe : f_set (n + 1) = S at *
      have hp0 : f_pc (may S) ≠ 0 := fun z => hw (Or.inr z)
      have hm0 : may S ≠ 0 := fun z => hp0 ((f_pc_z (hmb S)).mpr z)
      have hm00 : (may S).testBit 0 = false := by
        cases q : (may S).testBit 0 with
        | false => rfl
        | true => have := (hnew S 0 q).2; omega
      have hp15 : f_pc (may S) ≤ 15 := by
        have := f_pc_two (S := may S) (T := S) (fun x hx => (hnew S x hx).1) hm00 hS.2.1
        omega
      have d15 := f_d15 (Nat.pos_of_ne_zero hp0) hp15
      obtain ⟨t, ht⟩ := hd
      have hm : w (n + 1) / f_pc (may S) = 360360 ^ (3 - (f_pc S + 1)) * (360360 / f_pc (may S) * t) := by
        refine Nat.div_eq_of_eq_mul_right (Nat.pos_of_ne_zero hp0) ?_
        have ht : w (n + 1) = 360360 ^ (3 - f_pc S) * t := ht
        rw [ht, show 3 - f_pc S = 3 - (f_pc S + 1) + 1 by omega, Nat.pow_succ, Nat.mul_left_comm, ← Nat.mul_assoc (f_pc (may S)), d15, Nat.mul_assoc]
      have hwm : w (n + 1) = f_pc (may S) * (w (n + 1) / f_pc (may S)) := by
        refine (Nat.mul_div_cancel' ?_).symm
        have ht : w (n + 1) = 360360 ^ (3 - f_pc S) * t := ht
        rw [ht, show 3 - f_pc S = 3 - (f_pc S + 1) + 1 by omega, Nat.pow_succ]
        exact Nat.dvd_trans (Nat.dvd_trans ⟨_, d15.symm⟩ (Nat.dvd_mul_left _ _)) (Nat.dvd_mul_right _ _)
      generalize hme : w (n + 1) / f_pc (may S) = m at *
      have hokx : ∀ x, x < 17 → (may S).testBit x = true → f_ok (S ||| 2 ^ x) ∧ f_pc (S ||| 2 ^ x) = f_pc S + 1 := fun x hx hb => hbit S x hx hb hS (by omega)
      refine ⟨f_shr_inv (fun i hi => ?_) (fun x x1 x2 hb v hv => ?_) 17 (Nat.le_refl _), ?_⟩
      · show f_Pw may c (n + 1 + 1) i (if i = n + 1 then 0 else w i)
        split
        · exact f_Pw.zero
        · rename_i e
          refine ⟨fun hv => ?_, (i1 i hi).2⟩
          obtain ⟨a1, a2, a3⟩ := (i1 i hi).1 hv
          exact ⟨a1, a2, fun hlt => a3 (by omega)⟩
      · obtain ⟨o1, o2⟩ := hokx x x2 hb
        obtain ⟨s1, s2⟩ := f_set_slot o1
        refine ⟨fun _ => ?_, Nat.dvd_add hv.2 ?_⟩
        · have tt := (f_set_tab s1).1
          rw [s2, o2] at tt
          rw [s2, o2]
          refine ⟨by omega, by omega, fun z => ?_⟩
          have := t2 (by omega)
          omega
        · rw [s2, o2, hm]
          exact Nat.dvd_mul_right _ _
      · have q1 := f_sm_usV w (fun i => f_vS ew may c g (fun S => pr S (may S)) (f_set i)) (n + 1) (by omega)
        have q2 := f_vS_on (g := g) (nd := fun S => pr S (may S)) (m := m) hew hc3 hk1 hpc hm0 d15 (fun x hx => (hnew S x hx).1)
        rw [f_sm_shrV S (may S) m _ _ (fun x x1 x2 hb => (hokx x x2 hb).1) 17 (Nat.le_refl _)]
        rw [← hwm] at q2
        have q1 : f_sm 697 (fun i => f_us w (n + 1) 0 i * f_vS ew may c g (fun S => pr S (may S)) (f_set i)) + w (n + 1) * f_vS ew may c g (fun S => pr S (may S)) (f_set (n + 1)) = f_sm 697 (fun i => w i * f_vS ew may c g (fun S => pr S (may S)) (f_set i)) := q1
        rw [hSe, q2] at q1
        show 360360 ^ (c - 1) * (sp + m * pr S (may S)) + _ = _
        rw [Nat.mul_add, ← i2, ← q1]
        omega
theorem f_dp_gn {ew : Nat → Nat → Nat → Nat} {may : Nat → Nat} {c : Nat} {g : Nat → Nat} {pr : Nat → Nat → Nat} (hew : ∀ k q n, 1 ≤ k → ew k q n = q * (360360 / n)) (hc1 : 1 ≤ c) (hc3 : c ≤ 3) (hmb : ∀ S, may S < 2 ^ 17) (hnew : ∀ T x, (may T).testBit x = true → T.testBit x = false ∧ 1 ≤ x) (h0 : may 0 ≠ 0) : 360360 ^ (c - 1) * (f_dp may pr (f_tot may) (f_base c)).2 + 360360 ^ (c - 1) * f_wsum (f_dp may pr (f_tot may) (f_base c)).1 g 697 = f_Kp ew may c g pr := by
  have hb : 1 ≤ f_base c := f_base_mono (a := 1) hc1 hc3
  obtain ⟨m, hm⟩ : ∃ m, f_base c = m + 1 := ⟨f_base c - 1, by omega⟩
  have q := f_dp_inv (g := g) (pr := pr) hew hc1 hc3 hmb hnew h0 m (by omega)
  rw [← hm] at q
  obtain ⟨i1, i2⟩ := q
  rw [← i2, f_wsum_eq, ← f_sm_mul]
  refine congrArg (_ + ·) (f_sm_cg 697 (fun i hi => ?_))
  show 360360 ^ (c - 1) * ((f_dp may pr (f_tot may) (f_base c)).1 i * g (f_set i)) = (f_dp may pr (f_tot may) (f_base c)).1 i * f_vS ew may c g (fun S => pr S (may S)) (f_set i)
  have i1 := (i1 i hi).1
  generalize (f_dp may pr (f_tot may) (f_base c)).1 i = v at *
  by_cases hv : v = 0
  · rw [hv, Nat.zero_mul, Nat.zero_mul, Nat.mul_zero]
  · obtain ⟨a1, a2, a3⟩ := i1 hv
    have hend : 3 - f_pc (f_set i) = 0 ∨ f_pc (f_set i) = c ∨ may (f_set i) = 0 := by
      by_cases e : f_pc (f_set i) = c
      · exact Or.inr (Or.inl e)
      · have t := (f_set_tab hi).2 (by omega)
        have t2 := f_base_mono (a := f_pc (f_set i) + 1) (b := c) (by omega) hc3
        exact Or.inr (Or.inr (a3 (by omega)))
    unfold f_vS
    rw [f_gn_at hend, f_rsw_pow 3 _ 1 a1 a2 (by omega), Nat.one_mul, ← Nat.mul_assoc (360360 ^ (f_pc (f_set i) - 1)), ← Nat.pow_add, show f_pc (f_set i) - 1 + (c - f_pc (f_set i)) = c - 1 by omega, Nat.mul_left_comm]
theorem f_dp_no {may : Nat → Nat} {pr : Nat → Nat → Nat} {T : Nat} (h0 : may 0 = 0) : ∀ n, f_dp may pr T n = (fun i => if i = 0 then T else 0, 0) := by
  intro n
  induction n with
  | zero => rfl
  | succ n ih =>
    show f_dst may pr n (f_dp may pr T n) = _
    rw [ih]
    have hs0 : f_set 0 = 0 := by decide +kernel
    have ed : f_dst may pr n (fun i => if i = 0 then T else 0, 0) = if (if n = 0 then T else 0) = 0 ∨ f_pc (may (f_set n)) = 0 then (fun i => if i = 0 then T else 0, 0) else (f_shr (f_set n) (may (f_set n)) ((if n = 0 then T else 0) / f_pc (may (f_set n))) 17 (f_us (fun i => if i = 0 then T else 0) n 0), 0 + (if n = 0 then T else 0) / f_pc (may (f_set n)) * pr (f_set n) (may (f_set n))) := rfl
    rw [ed, if_pos ?_]
    by_cases e : n = 0
    · right; rw [e, hs0, h0]; exact f_pc_0
    · left; rw [if_neg e]
/-- the sums over ends -/
theorem f_gn_ends {may : Nat → Nat} {c : Nat} {g : Nat → Nat} {pr : Nat → Nat → Nat} (hc1 : 1 ≤ c) (hc3 : c ≤ 3) (hmb : ∀ S, may S < 2 ^ 17) (hnew : ∀ T x, (may T).testBit x = true → T.testBit x = false ∧ 1 ≤ x) : f_gn (fun k q n => q * (f_pO k / n)) may c g (fun _ => 0) 3 0 1 0 * f_tot may = f_wsum (f_dp may pr (f_tot may) (f_base c)).1 g 697 * f_alp c := by
  have hew : ∀ k q n, 1 ≤ k → (fun k q n => q * (f_pO k / n)) k q n = q * (360360 / n) := fun k q n h => by
    show q * (f_pO k / n) = _
    rw [show f_pO k = 360360 from if_neg (by omega)]
  rw [f_alp_pow hc1 hc3, f_dp_fst may pr (fun _ _ => 0)]
  by_cases h0 : may 0 = 0
  · rw [f_dp_no h0, f_gn_at (Or.inr (Or.inr h0))]
    have e : f_rsw c 3 0 1 = f_rsw c 2 1 (1 * f_pO 0) := if_pos (by omega)
    have eT : f_wsum (fun i => if i = 0 then f_tot may else 0) g 697 = f_tot may * g 0 := by
      rw [f_wsum_eq]
      have e2 : ∀ n, f_sm (n + 1) (fun i => (if i = 0 then f_tot may else 0) * g (f_set i)) = f_tot may * g (f_set 0) := by
        intro n
        induction n with
        | zero =>
          show 0 + (if 0 = 0 then f_tot may else 0) * g (f_set 0) = _
          rw [if_pos rfl, Nat.zero_add]
        | succ n ih =>
          show f_sm (n + 1) _ + (if n + 1 = 0 then f_tot may else 0) * g (f_set (n + 1)) = _
          rw [ih, if_neg (by omega), Nat.zero_mul, Nat.add_zero]
      have hs0 : f_set 0 = 0 := by decide +kernel
      rw [e2 696, hs0]
    rw [eT, e, f_rsw_pow 2 1 _ (Nat.le_refl _) hc1 (by omega)]
    show 1 * 720720 * 360360 ^ (c - 1) * g 0 * f_tot may = f_tot may * g 0 * (720720 * 360360 ^ (c - 1))
    rw [Nat.one_mul]
    simp only [Nat.mul_assoc, Nat.mul_comm, Nat.mul_left_comm]
  · have q := f_dp_gn (g := g) (pr := fun _ _ => 0) hew hc1 hc3 hmb hnew h0
    have hp0 : f_pc (may 0) ≠ 0 := fun z => h0 ((f_pc_z (hmb 0)).mp z)
    have hz : ∀ i, (0 : Nat).testBit i = false := fun i => Nat.zero_testBit i
    have hm00 : (may 0).testBit 0 = false := by
      cases q : (may 0).testBit 0 with
      | false => rfl
      | true => have := (hnew 0 0 q).2; omega
    have hp16 : f_pc (may 0) ≤ 16 := by
      have := f_pc_two (S := may 0) (T := 0) (fun x _ => hz x) hm00 (hz 0)
      omega
    have hs2 : ∀ n, (f_dp may (fun _ _ => 0) (f_tot may) n).2 = 0 := by
      intro n
      induction n with
      | zero => rfl
      | succ n ih =>
        show (f_dst may (fun _ _ => 0) n (f_dp may (fun _ _ => 0) (f_tot may) n)).2 = 0
        unfold f_dst
        split
        · exact ih
        · show _ + _ * 0 = 0
          rw [ih, Nat.mul_zero]
    unfold f_Kp at q
    rw [hs2, Nat.mul_zero, Nat.mul_zero, Nat.mul_zero, Nat.zero_add, Nat.zero_add] at q
    have ea : f_gn (fun k q n => q * (f_pO k / n)) may c g (fun _ => 0) 3 0 1 0 = 720720 / f_pc (may 0) * f_sm 17 (fun x => if (decide (1 ≤ x) && (may 0).testBit x) = true then f_gn (fun k q n => q * (f_pO k / n)) may c g (fun _ => 0) 2 (0 ||| 2 ^ x) 1 1 else 0) := by
      rw [f_gn_on (fun z => z.elim (fun e => by omega) h0), Nat.mul_zero, Nat.zero_add, ← f_sm_ifm]
      refine f_sm_cg 17 (fun x _ => ?_)
      show (if _ then f_gn (fun k q n => q * (f_pO k / n)) may c g (fun _ => 0) 2 (0 ||| 2 ^ x) (1 * (f_pO 0 / f_pc (may 0))) (0 + 1) else _) = (if _ then _ else _)
      split
      · rw [Nat.one_mul]
        exact f_gn_lin hew hc3 2 _ _ 1 (Nat.le_refl _) hc1
      · rfl
    have hT : f_tot may = f_U * f_pc (may 0) := by unfold f_tot; rw [show max 1 (f_pc (may 0)) = f_pc (may 0) by omega]
    have d16 := f_d16 (Nat.pos_of_ne_zero hp0) hp16
    have q : 360360 ^ (c - 1) * f_wsum (f_dp may (fun _ _ => 0) (f_tot may) (f_base c)).1 g 697 = f_U * f_sm 17 (fun x => if (decide (1 ≤ x) && (may 0).testBit x) = true then f_gn (fun k q n => q * (f_pO k / n)) may c g (fun _ => 0) 2 (0 ||| 2 ^ x) 1 1 else 0) := q
    rw [ea]
    generalize f_sm 17 _ = A at *
    generalize 720720 / f_pc (may 0) = t at *
    rw [show f_wsum (f_dp may (fun _ _ => 0) (f_tot may) (f_base c)).1 g 697 * (720720 * 360360 ^ (c - 1)) = 720720 * (360360 ^ (c - 1) * f_wsum (f_dp may (fun _ _ => 0) (f_tot may) (f_base c)).1 g 697) by rw [Nat.mul_comm, Nat.mul_assoc], q, hT, ← d16]
    simp only [Nat.mul_assoc, Nat.mul_comm, Nat.mul_left_comm]
/-- and what is spent on the way -/
theorem f_gn_spent {may : Nat → Nat} {c : Nat} {pr : Nat → Nat → Nat} (hc1 : 1 ≤ c) (hc3 : c ≤ 3) (hmb : ∀ S, may S < 2 ^ 17) (hnew : ∀ T x, (may T).testBit x = true → T.testBit x = false ∧ 1 ≤ x) : f_gn (fun k q n => if k = 0 then 1 else q * (360360 / n)) may c (fun _ => 0) (fun S => pr S (may S)) 3 0 1 0 * f_U = (f_dp may pr (f_tot may) (f_base c)).2 * 360360 ^ (c - 1) := by
  have hew : ∀ k q n, 1 ≤ k → (fun k q n => if k = 0 then 1 else q * (360360 / n)) k q n = q * (360360 / n) := fun k q n h => if_neg (by omega)
  by_cases h0 : may 0 = 0
  · rw [f_dp_no h0, f_gn_at (Or.inr (Or.inr h0))]
    show f_rsw c 3 0 1 * 0 * f_U = 0 * _
    rw [Nat.mul_zero, Nat.zero_mul, Nat.zero_mul]
  · have q := f_dp_gn (g := fun _ => 0) (pr := pr) hew hc1 hc3 hmb hnew h0
    have ew0 : ∀ w n, f_wsum w (fun _ => 0) n = 0 := by
      intro w n
      rw [f_wsum_eq]
      exact f_sm_z n (fun i _ => Nat.mul_zero _)
    rw [ew0, Nat.mul_zero, Nat.add_zero] at q
    rw [Nat.mul_comm _ (360360 ^ (c - 1)), q, f_gn_on (fun z => z.elim (fun e => by omega) h0)]
    unfold f_Kp
    show (1 * 360360 ^ (c - 1 - 0) * pr 0 (may 0) + f_sm 17 (fun x => if (decide (1 ≤ x) && (may 0).testBit x) = true then f_gn (fun k q n => if k = 0 then 1 else q * (360360 / n)) may c (fun _ => 0) (fun S => pr S (may S)) 2 (0 ||| 2 ^ x) 1 (0 + 1) else 0)) * f_U = _
    rw [Nat.one_mul, Nat.sub_zero, Nat.add_mul, Nat.mul_comm _ f_U, Nat.mul_comm _ f_U, Nat.mul_left_comm f_U]
