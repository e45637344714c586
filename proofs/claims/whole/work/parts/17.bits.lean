/-! ===== bits; tests of a yard; Judge.passing ===== -/
theorem fa_and (a b : Nat) : nI a &&& nI b = nI (a &&& b) := by
  apply Int32.toBitVec_inj.1
  show BitVec.ofNat 32 a &&& BitVec.ofNat 32 b = BitVec.ofNat 32 (a &&& b)
  apply BitVec.eq_of_getLsbD_eq
  intro i hi
  simp [hi]
theorem fa_or (a b : Nat) : nI a ||| nI b = nI (a ||| b) := by
  apply Int32.toBitVec_inj.1
  show BitVec.ofNat 32 a ||| BitVec.ofNat 32 b = BitVec.ofNat 32 (a ||| b)
  apply BitVec.eq_of_getLsbD_eq
  intro i hi
  simp [hi]
theorem n_sl : ∀ n, n < 32 → ((nI n &&& 31).toBitVec.smod 32).toNat = n := by decide +kernel
theorem n_shl {k : Nat} (hk : k < 31) : (1 : Int32) <<< (nI k &&& 31) = nI (2 ^ k) := by
  have h2 : 2 ^ k < 2 ^ 32 := Nat.pow_lt_pow_right (by decide) (by omega)
  have := pk_shlN (n := 1) (nI k &&& 31) k (n_sl k (by omega)) (by omega)
  rw [Nat.one_mul] at this
  exact this
theorem n_shr {n k : Nat} (hn : n < 2 ^ 31) (hk : k < 31) : nI n >>> (nI k &&& 31) = nI (n / 2 ^ k) := pk_shrN hn (nI k &&& 31) k (n_sl k (by omega))
theorem n_bit {n k : Nat} (hn : n < 2 ^ 31) (hk : k < 31) : f_bit (nI n) (nI k) = n.testBit k := by
  unfold f_bit
  rw [n_shr hn hk]
  have h1 : nI (n / 2 ^ k) &&& 1 = nI (n / 2 ^ k % 2) := by
    show nI (n / 2 ^ k) &&& nI 1 = _
    rw [fa_and, Nat.and_one_is_mod]
  rw [h1, Nat.testBit_eq_decide_div_mod_eq]
  have h2 : n / 2 ^ k % 2 < 2 := Nat.mod_lt _ (by decide)
  exact decide_eq_decide.mpr (nI_eq (b := 1) (by omega) (by omega))
/-- the number whose bits below n are those of P -/
def f_bits : Nat → (Nat → Bool) → Nat
  | 0, _ => 0
  | n + 1, P => f_bits n P + (if P n then 2 ^ n else 0)
theorem f_bits_lt (P : Nat → Bool) : ∀ n, f_bits n P < 2 ^ n := by
  intro n
  induction n with
  | zero => exact Nat.one_pos
  | succ n ih =>
    rw [Nat.pow_succ]
    unfold f_bits
    split <;> omega
theorem f_bits_or (P : Nat → Bool) (n : Nat) (h : P n = true) : f_bits (n + 1) P = f_bits n P ||| 2 ^ n := by
  have h1 := f_bits_lt P n
  have e : f_bits (n + 1) P = 2 ^ n * 1 + f_bits n P := by
    show f_bits n P + (if P n then 2 ^ n else 0) = _
    rw [h, if_pos rfl]; omega
  rw [e, Nat.two_pow_add_eq_or_of_lt h1, Nat.mul_one, Nat.or_comm]
theorem f_bits_no (P : Nat → Bool) (n : Nat) (h : P n = false) : f_bits (n + 1) P = f_bits n P := by
  show f_bits n P + (if P n then 2 ^ n else 0) = _
  rw [h]; simp
theorem f_bits_test (P : Nat → Bool) : ∀ (n x : Nat), (f_bits n P).testBit x = (decide (x < n) && P x) := by
  intro n
  induction n with
  | zero => intro x; simp [f_bits]
  | succ n ih =>
    intro x
    cases hp : P n with
    | true =>
      rw [f_bits_or P n hp, Nat.testBit_or, ih, Nat.testBit_two_pow]
      by_cases hx : x = n
      · subst hx; simp [hp]
      · by_cases hl : x < n
        · simp [hl, show x < n + 1 by omega, show ¬ n = x by omega]
        · simp [hl, show ¬ x < n + 1 by omega, show ¬ n = x by omega]
    | false =>
      rw [f_bits_no P n hp, ih]
      by_cases hx : x = n
      · subst hx; simp [hp]
      · by_cases hl : x < n
        · simp [hl, show x < n + 1 by omega]
        · simp [hl, show ¬ x < n + 1 by omega]
theorem f_bits_ext {n : Nat} {P Q : Nat → Bool} (h : ∀ x, x < n → P x = Q x) : f_bits n P = f_bits n Q := by
  refine Nat.eq_of_testBit_eq fun x => ?_
  rw [f_bits_test, f_bits_test]
  by_cases hx : x < n
  · rw [h x hx]
  · simp [hx]
theorem f_bits_of {n a : Nat} (h : a < 2 ^ n) : f_bits n (fun x => a.testBit x) = a := by
  refine Nat.eq_of_testBit_eq fun x => ?_
  rw [f_bits_test]
  by_cases hx : x < n
  · simp [hx]
  · have h2 : a.testBit x = false := Nat.testBit_lt_two_pow (Nat.lt_of_lt_of_le h (Nat.pow_le_pow_right (by decide) (by omega)))
    simp [hx, h2]
theorem n_orbit {a k : Nat} (hk : k < 31) : nI a ||| (1 : Int32) <<< (nI k &&& 31) = nI (a ||| 2 ^ k) := by rw [n_shl hk, fa_or]
theorem n_andnot {a b n : Nat} (ha : a < 2 ^ n) (hn : n < 32) : nI a &&& (nI b ^^^ (-1)) = nI (f_bits n (fun x => a.testBit x && !b.testBit x)) := by
  apply Int32.toBitVec_inj.1
  show BitVec.ofNat 32 a &&& (BitVec.ofNat 32 b ^^^ (-1 : Int32).toBitVec) = BitVec.ofNat 32 (f_bits n (fun x => a.testBit x && !b.testBit x))
  apply BitVec.eq_of_getLsbD_eq
  intro i hi
  have e1 : (-1 : Int32).toBitVec = BitVec.allOnes 32 := by decide
  rw [e1]
  simp only [BitVec.getLsbD_and, BitVec.getLsbD_xor, BitVec.getLsbD_ofNat, BitVec.getLsbD_allOnes, f_bits_test]
  by_cases hx : i < n
  · simp [hi, hx]
  · have : a.testBit i = false := Nat.testBit_lt_two_pow (Nat.lt_of_lt_of_le ha (Nat.pow_le_pow_right (by decide) (by omega)))
    simp [hi, hx, this]
def S_min : fSp := fun G As M R => match As with
  | [.int a, .int b] => R G (some (.int (if b < a then b else a))) M
  | _ => False
theorem m_min : f_Meets 2 kJ9_min_7cf53 S_min := by
  intro G As M R hsp X hX hW
  match As, hsp with
  | [.int a, .int b], hsp =>
    refine f_run_ok (stop := fun _ => false) hX 20 _ _ _ _ _ ?_
    refine And.intro (fun h => ?_) (fun h => ?_)
    · exact f_fin hsp (by rw [if_pos h]) rfl
    · exact f_fin hsp (by rw [if_neg h]) rfl
def S_max : fSp := fun G As M R => match As with
  | [.int a, .int b] => R G (some (.int (if a < b then b else a))) M
  | _ => False
theorem m_max : f_Meets 2 kJ9_max_7cf53 S_max := by
  intro G As M R hsp X hX hW
  match As, hsp with
  | [.int a, .int b], hsp =>
    refine f_run_ok (stop := fun _ => false) hX 20 _ _ _ _ _ ?_
    refine And.intro (fun h => ?_) (fun h => ?_)
    · exact f_fin hsp (by rw [if_pos h]) rfl
    · exact f_fin hsp (by rw [if_neg h]) rfl
theorem n_min {a b : Nat} (ha : a < 2 ^ 31) (hb : b < 2 ^ 31) : (if nI b < nI a then nI b else nI a) = nI (min a b) := by
  by_cases h : b < a
  · rw [if_pos (nI_lt h ha), Nat.min_eq_right (by omega)]
  · rw [if_neg (nI_nlt (by omega) hb), Nat.min_eq_left (by omega)]
theorem n_max {a b : Nat} (ha : a < 2 ^ 31) (hb : b < 2 ^ 31) : (if nI a < nI b then nI b else nI a) = nI (max a b) := by
  by_cases h : a < b
  · rw [if_pos (nI_lt h hb), Nat.max_eq_right (by omega)]
  · rw [if_neg (nI_nlt (by omega) ha), Nat.max_eq_left (by omega)]
/-! a test: (letter * 3 + how) * 100 + number; at a notch x of the piece from f to t, with c cuts, by a kind k -/
def f_val (l f t c k x : Nat) : Nat := if l = 0 then x else if l = 1 then min (x - f) (t - x) else if l = 2 then t - f else if l = 3 then c else k
def f_cmp (h w v : Nat) : Bool := if h = 0 then decide (w < v) else if h = 1 then decide (w = v) else decide (v < w)
def f_tst (q f t c k x : Nat) : Bool := f_cmp (q / 100 % 3) (f_val (q / 300) f t c k x) (q % 100)

def S_passing : fSp := fun G As M R => match As with
  | [.ref 37, .int z] => ∃ q f t c k : Nat, G = f_GX ∧ z = nI q ∧ q < 2000 ∧ f < t ∧ t ≤ 17 ∧ c < 100 ∧ k < 100 ∧ M.1 37 1 = nI f ∧ M.1 37 2 = nI t ∧ M.1 37 3 = nI c ∧ M.1 37 4 = nI k ∧ R G (some (.int (nI (f_bits t (fun x => decide (f < x) && f_tst q f t c k x))))) M
  | _ => False
theorem m_passing : f_Meets 8 (kX3_passing S_min) S_passing := by
  intro G As M R hsp X hX hW
  match As, hsp with
  | [.ref 37, .int z], ⟨q, f, t, c, k, hG, hz, hq, hft, ht, hc, hk, m1, m2, m3, m4, hsp⟩ =>
    subst hG; subst hz
    have e100 : nI q - nI q / 100 * 100 = nI (q % 100) := pk_rem (d := 100) (by omega) (by omega) (by omega)
    have d100 : nI q / 100 = nI (q / 100) := pk_div (d := 100) (by omega) (by omega) (by omega)
    have e3 : nI (q / 100) - nI (q / 100) / 3 * 3 = nI (q / 100 % 3) := pk_rem (d := 3) (by omega) (by omega) (by omega)
    have d300 : nI q / 300 = nI (q / 300) := pk_div (d := 300) (by omega) (by omega) (by omega)
    have cmp : ∀ (n p w : Nat), f < p → p + n = t → w < 1000 → f_cmp (q / 100 % 3) w (q % 100) = f_tst q f t c k p → (∀ o, X f_GX 30 [some (.ref 37), some (.int (nI q)), some (.int (nI (q % 100))), some (.int (nI (q / 100 % 3))), some (.int (nI (q / 300))), some (.int (nI (f_bits (p + 1) (fun x => decide (f < x) && f_tst q f t c k x)))), some (.int (nI (p + 1))), o] [] M) → X f_GX 130 [some (.ref 37), some (.int (nI q)), some (.int (nI (q % 100))), some (.int (nI (q / 100 % 3))), some (.int (nI (q / 300))), some (.int (nI (f_bits p (fun x => decide (f < x) && f_tst q f t c k x)))), some (.int (nI p)), some (.int (nI w))] [] M := by
      intro n p w hfp hp hw hcmp hnext
      have hcv : ∀ b : Bool, f_cmp (q / 100 % 3) w (q % 100) = b → (decide (f < p) && f_tst q f t c k p) = b := by
        intro b hb
        rw [← hcmp, hb]
        simp [hfp]
      have yes : f_cmp (q / 100 % 3) w (q % 100) = true → X f_GX 163 [some (.ref 37), some (.int (nI q)), some (.int (nI (q % 100))), some (.int (nI (q / 100 % 3))), some (.int (nI (q / 300))), some (.int (nI (f_bits p (fun x => decide (f < x) && f_tst q f t c k x)))), some (.int (nI p)), some (.int (nI w))] [] M := by
        intro hb
        refine f_run_ok (stop := fun q => Nat.beq q 30) hX 20 _ _ _ _ _ ?_
        have := hnext (some (.int (nI w)))
        rw [f_bits_or _ p (hcv true hb), nI_succ, ← n_orbit (by omega)] at this
        exact this
      have no : f_cmp (q / 100 % 3) w (q % 100) = false → X f_GX 172 [some (.ref 37), some (.int (nI q)), some (.int (nI (q % 100))), some (.int (nI (q / 100 % 3))), some (.int (nI (q / 300))), some (.int (nI (f_bits p (fun x => decide (f < x) && f_tst q f t c k x)))), some (.int (nI p)), some (.int (nI w))] [] M := by
        intro hb
        refine f_run_ok (stop := fun q => Nat.beq q 30) hX 20 _ _ _ _ _ ?_
        have := hnext (some (.int (nI w)))
        rw [f_bits_no _ p (hcv false hb), nI_succ] at this
        exact this
      have hm3 : q / 100 % 3 < 3 := Nat.mod_lt _ (by decide)
      have hm100 : q % 100 < 100 := Nat.mod_lt _ (by decide)
      refine f_run_ok (stop := fun q => Nat.beq q 163 || Nat.beq q 172) hX 20 _ _ _ _ _ ?_
      refine And.intro (fun h => ?_) (fun h => ?_)
      · have h : q / 100 % 3 = 0 := (nI_eq (b := 0) (by omega) (by omega)).mp h
        refine And.intro (fun h2 => ?_) (fun h2 => ?_)
        · have h2 := (nI_leI (by omega) (by omega)).mp h2
          exact no (by simp [f_cmp, h]; omega)
        · have h2 : ¬ q % 100 ≤ w := fun z => h2 ((nI_leI (by omega) (by omega)).mpr z)
          exact yes (by simp [f_cmp, h]; omega)
      · have h : ¬ q / 100 % 3 = 0 := fun z => h ((nI_eq (b := 0) (by omega) (by omega)).mpr z)
        refine And.intro (fun h2 => ?_) (fun h2 => ?_)
        · have h2 : q / 100 % 3 = 1 := (nI_eq (b := 1) (by omega) (by omega)).mp h2
          refine And.intro (fun h3 => ?_) (fun h3 => ?_)
          · have h3 := (nI_eq (by omega) (by omega)).mp h3
            exact yes (by simp [f_cmp, h2, h3])
          · have h3 : ¬ w = q % 100 := fun z => h3 ((nI_eq (by omega) (by omega)).mpr z)
            exact no (by simp [f_cmp, h2, h3])
        · have h2 : ¬ q / 100 % 3 = 1 := fun z => h2 ((nI_eq (b := 1) (by omega) (by omega)).mpr z)
          refine And.intro (fun h3 => ?_) (fun h3 => ?_)
          · have h3 := (nI_leI (by omega) (by omega)).mp h3
            exact no (by simp [f_cmp, h, h2]; omega)
          · have h3 : ¬ w ≤ q % 100 := fun z => h3 ((nI_leI (by omega) (by omega)).mpr z)
            exact yes (by simp [f_cmp, h, h2]; omega)
    have loop : ∀ n p, f < p → p + n = t → ∀ o, X f_GX 30 [some (.ref 37), some (.int (nI q)), some (.int (nI (q % 100))), some (.int (nI (q / 100 % 3))), some (.int (nI (q / 300))), some (.int (nI (f_bits p (fun x => decide (f < x) && f_tst q f t c k x)))), some (.int (nI p)), o] [] M := by
      intro n
      induction n with
      | zero =>
        intro p hfp hp o
        refine f_run_ok (stop := fun q => Nat.beq q 30 || Nat.beq q 130) hX 20 _ _ _ _ _ ?_
        refine And.intro (fun h => ?_) (fun h => ?_)
        · exact f_fin hsp (by rw [show p = t by omega]) rfl
        · refine absurd ?_ h
          show M.1 37 2 ≤ nI p
          rw [m2]
          exact nI_le (by omega) (by omega)
      | succ n ih =>
        intro p hfp hp o
        refine f_run_ok (stop := fun q => Nat.beq q 30 || Nat.beq q 130) hX 20 _ _ _ _ _ ?_
        have nx := ih (p + 1) (by omega) (by omega)
        have hq6 : q / 300 < 7 := by omega
        refine And.intro (fun h => ?_) (fun h => ?_)
        · have h : M.1 37 2 ≤ nI p := h
          rw [m2] at h
          have := (nI_leI (by omega) (by omega)).mp h
          omega
        · refine And.intro (fun h2 => ?_) (fun h2 => ?_)
          · have h2 : q / 300 = 0 := (nI_eq (b := 0) (by omega) (by omega)).mp h2
            exact cmp (n + 1) p p hfp (by omega) (by omega) (by unfold f_tst f_val; rw [if_pos h2]) nx
          · have g0 : ¬ q / 300 = 0 := fun z => h2 ((nI_eq (b := 0) (by omega) (by omega)).mpr z)
            refine And.intro (fun h2 => ?_) (fun h2 => ?_)
            · have h2 : q / 300 = 1 := (nI_eq (b := 1) (by omega) (by omega)).mp h2
              have := cmp (n + 1) p (min (p - f) (t - p)) hfp (by omega) (by omega) (by unfold f_tst f_val; rw [if_neg g0, if_pos h2]) nx
              rw [← n_min (by omega) (by omega), ← pk_sub (a := p) (b := f) (by omega), ← pk_sub (a := t) (b := p) (by omega), ← m1, ← m2] at this
              exact this
            · have g1 : ¬ q / 300 = 1 := fun z => h2 ((nI_eq (b := 1) (by omega) (by omega)).mpr z)
              refine And.intro (fun h2 => ?_) (fun h2 => ?_)
              · have h2 : q / 300 = 2 := (nI_eq (b := 2) (by omega) (by omega)).mp h2
                have := cmp (n + 1) p (t - f) hfp (by omega) (by omega) (by unfold f_tst f_val; rw [if_neg g0, if_neg g1, if_pos h2]) nx
                rw [← pk_sub (a := t) (b := f) (by omega), ← m1, ← m2] at this
                exact this
              · have g2 : ¬ q / 300 = 2 := fun z => h2 ((nI_eq (b := 2) (by omega) (by omega)).mpr z)
                refine And.intro (fun h2 => ?_) (fun h2 => ?_)
                · have h2 : q / 300 = 3 := (nI_eq (b := 3) (by omega) (by omega)).mp h2
                  have := cmp (n + 1) p c hfp (by omega) (by omega) (by unfold f_tst f_val; rw [if_neg g0, if_neg g1, if_neg g2, if_pos h2]) nx
                  rw [← m3] at this
                  exact this
                · have g3 : ¬ q / 300 = 3 := fun z => h2 ((nI_eq (b := 3) (by omega) (by omega)).mpr z)
                  have := cmp (n + 1) p k hfp (by omega) (by omega) (by unfold f_tst f_val; rw [if_neg g0, if_neg g1, if_neg g2, if_neg g3]) nx
                  rw [← m4] at this
                  exact this
    refine f_run_ok (stop := fun q => Nat.beq q 30) hX 40 _ _ _ _ _ ?_
    refine And.intro (by decide) ?_
    refine And.intro (by decide) ?_
    refine And.intro (by decide) ?_
    refine And.intro (by decide) ?_
    have := loop (t - (f + 1)) (f + 1) (by omega) (by omega) none
    have z0 : f_bits (f + 1) (fun x => decide (f < x) && f_tst q f t c k x) = 0 := by
      refine Nat.eq_of_testBit_eq fun x => ?_
      rw [f_bits_test, Nat.zero_testBit]
      by_cases hx : x < f + 1
      · simp [show ¬ f < x by omega]
      · simp [hx]
    rw [z0, ← e100, ← e3, ← d100, ← d300, nI_succ, ← m1] at this
    exact this
