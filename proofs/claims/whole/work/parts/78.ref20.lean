/-! ===== the reference: rows told back ===== -/
/-- canBe: the cuts of the row, whether it can be -/
def f_cbe (L c : Nat) (a : Nat → Nat) (n : Nat) : Bool := decide (1 ≤ n ∧ n ≤ c + 1 ∧ f_sm n a = L)
def f_rcN (a : Nat → Nat) (n : Nat) : Nat → Nat
  | 0 => 0
  | k + 1 => f_rcN a n k ||| (if k + 1 < n ∧ f_sm (k + 1) a < 17 then 2 ^ f_sm (k + 1) a else 0)
def S_cbe : fSp := fun G As M R => match As with
  | [.ref 100] => ∃ (y : fYd) (n : Nat) (a : Nat → Nat), G = f_GM ∧ f_HR 101 y M ∧ y.1 ≤ 17 ∧ y.2.1 ≤ 3 ∧ M.1 101 3 = nI n ∧ n ≤ 4 ∧ (∀ i, i < n → M.1 101 (55 + i) = nI (a i)) ∧ (∀ i, i < n → 1 ≤ a i ∧ a i ≤ 17) ∧ (∀ M', f_em [1032] M M' → M'.1 100 32 = nI (f_rcN a n n) → R G (some (.int (f_b (f_cbe y.1 y.2.1 a n)))) M')
  | _ => False
theorem f_sm_mono {a : Nat → Nat} : ∀ {m n : Nat}, m ≤ n → f_sm m a ≤ f_sm n a := by
  intro m n
  induction n with
  | zero => intro h; rw [Nat.le_zero.mp h]; exact Nat.le_refl _
  | succ n ih =>
    intro h
    by_cases e : m = n + 1
    · rw [e]; exact Nat.le_refl _
    · exact Nat.le_trans (ih (by omega)) (Nat.le_add_right _ _)
theorem f_rcN_lt (a : Nat → Nat) (n : Nat) : ∀ k, f_rcN a n k < 2 ^ 17 := by
  intro k
  induction k with
  | zero => show 0 < 2 ^ 17; decide
  | succ k ih =>
    unfold f_rcN
    refine n_or_lt ih ?_
    split
    · rename_i h; exact Nat.pow_lt_pow_right (by decide) h.2
    · decide
set_option maxRecDepth 20000 in
theorem m_cbe : f_Meets 3 (kX12_canBe S_cu S_lo) S_cbe := by
  intro G As M R hsp X hX hW
  match As, hsp with
  | [.ref 100], ⟨y, n, a, hG, hH, hL, hc, h3, hn, ha, hab, hsp⟩ =>
    subst hG
    have hsmb : ∀ k, k ≤ n → f_sm k a ≤ k * 17 := fun k hk => f_sm_le k (fun x hx => (hab x (by omega)).2)
    have loop : ∀ (t k : Nat) (M' : fMem), k + t = n → f_em [1032] M M' → M'.1 100 32 = nI (f_rcN a n k) → X f_GM 9 [some (.ref 100), some (.int (nI (f_sm k a))), some (.int (nI k))] [] M' := by
      intro t
      induction t with
      | zero =>
        intro k M' hk he h32
        have hk : k = n := by omega
        subst hk
        have e101 : M'.1 101 = M.1 101 := he.1 101 (by decide) (by decide)
        have h3' : M'.1 101 3 = nI k := by rw [e101]; exact h3
        have hs := hsmb k (Nat.le_refl _)
        have res := hsp M' he h32
        unfold f_cbe at res
        have no : ¬ (1 ≤ k ∧ k ≤ y.2.1 + 1 ∧ f_sm k a = y.1) → X f_GM 107 [some (.ref 100), some (.int (nI (f_sm k a))), some (.int (nI k))] [] M' := fun h => by
          rw [decide_eq_false h] at res
          exact f_run_ok (stop := fun _ => false) hX 10 _ _ _ _ _ (And.intro rfl res)
        refine f_run_ok (stop := fun q => Nat.beq q 107) hX 40 _ _ _ _ _ ?_
        refine And.intro (v9 3 (by decide)) (And.intro (fun _ => ?_) (fun z => ?_))
        · refine And.intro (v9 3 (by decide)) (And.intro (fun z => ?_) (fun z => ?_))
          · have z : M'.1 101 3 ≤ 0 := z
            rw [h3'] at z
            have := (f_pos_nI (by omega)).mp z
            exact no (by omega)
          · have z : ¬ M'.1 101 3 ≤ 0 := z
            rw [h3'] at z
            have z : ¬ k = 0 := fun e => z ((f_pos_nI (by omega)).mpr e)
            refine And.intro (v9 3 (by decide)) ⟨y, rfl, hH.cg e101, ?_⟩
            refine And.intro (fun z2 => ?_) (fun z2 => ?_)
            · have z2 : nI y.2.1 + 1 < M'.1 101 3 := z2
              rw [h3', ← nI_succ] at z2
              have := (nI_ltI (by omega) (by omega)).mp z2
              exact no (by omega)
            · have z2 : ¬ nI y.2.1 + 1 < M'.1 101 3 := z2
              rw [h3', ← nI_succ] at z2
              have z2 : ¬ y.2.1 + 1 < k := fun e => z2 (nI_lt e (by omega))
              refine ⟨y, rfl, hH.cg e101, ?_⟩
              refine And.intro (fun z3 => ?_) (fun z3 => ?_)
              · have z3 := (nI_eq (by omega) (by omega)).mp z3
                rw [decide_eq_true ⟨by omega, by omega, z3⟩] at res
                exact And.intro rfl res
              · have z3 : ¬ f_sm k a = y.1 := fun e => z3 (by rw [e])
                exact no (fun e => z3 e.2.2)
        · have z : ¬ M'.1 101 3 ≤ nI k := z
          rw [h3'] at z
          exact absurd (Int32.le_refl _) z
      | succ t ih =>
        intro k M' hk he h32
        have e101 : M'.1 101 = M.1 101 := he.1 101 (by decide) (by decide)
        have h3' : M'.1 101 3 = nI n := by rw [e101]; exact h3
        have hs := hsmb (k + 1) (by omega)
        obtain ⟨i1, i2⟩ := f_ix (n := 906) (show 55 + nI k = nI (55 + k) from nI_add 55 k) (by omega) (by omega)
        have eak : M'.1 101 (55 + nI k).toNatClampNeg = nI (a k) := by rw [i2, e101]; exact ha k (by omega)
        have esm : nI (f_sm k a) + nI (a k) = nI (f_sm (k + 1) a) := nI_add _ _
        have hrb := f_rcN_lt a n k
        have fin : ∀ w : Nat, f_rcN a n k ||| w = f_rcN a n (k + 1) → X f_GM 61 [some (.ref 100), some (.int (nI (f_sm (k + 1) a))), some (.int (nI k))] [.int (nI w), .int (nI (f_rcN a n k)), .ref 100] M' := by
          intro w hw
          have q := ih (k + 1) (f_up M'.1 100 32 (nI (f_rcN a n (k + 1))), M'.2) (by omega) (he.uf (by decide)) rfl
          rw [nI_succ k, ← hw, ← fa_or] at q
          exact f_run_ok (stop := fun q => Nat.beq q 9) hX 20 _ _ _ _ _ q
        have hst : f_rcN a n (k + 1) = f_rcN a n k ||| (if k + 1 < n ∧ f_sm (k + 1) a < 17 then 2 ^ f_sm (k + 1) a else 0) := rfl
        refine f_run_ok (stop := fun q => Nat.beq q 36) hX 40 _ _ _ _ _ ?_
        refine And.intro (v9 3 (by decide)) (And.intro (fun z => ?_) (fun _ => And.intro i1 ?_))
        · have z : M'.1 101 3 ≤ nI k := z
          rw [h3'] at z
          exact absurd ((nI_leI (by omega) (by omega)).mp z) (by omega)
        show X f_GM 36 [some (.ref 100), some (.int (nI (f_sm k a) + M'.1 101 (55 + nI k).toNatClampNeg)), some (.int (nI k))] [.int (M'.1 100 32), .ref 100] M'
        rw [eak, esm, h32]
        refine f_run_ok (stop := fun q => Nat.beq q 61) hX 40 _ _ _ _ _ ?_
        have e3 : M'.1 101 3 - 1 = nI (n - 1) := by rw [h3']; exact pk_sub (b := 1) (by omega)
        refine And.intro (v9 3 (by decide)) (And.intro (fun z => ?_) (fun z => And.intro (fun z2 => ?_) (fun z2 => ?_)))
        · have z : M'.1 101 3 - 1 ≤ nI k := z
          rw [e3] at z
          have := (nI_leI (by omega) (by omega)).mp z
          exact fin 0 (by rw [hst, if_neg (by omega)])
        · have z2 := (nI_leI (a := 17) (by omega) (by omega)).mp z2
          exact fin 0 (by rw [hst, if_neg (by omega)])
        · have z : ¬ M'.1 101 3 - 1 ≤ nI k := z
          rw [e3] at z
          have z : ¬ n - 1 ≤ k := fun e => z (nI_le e (by omega))
          have z2 : ¬ 17 ≤ f_sm (k + 1) a := fun e => z2 (nI_le (a := 17) e (by omega))
          have := fin (2 ^ f_sm (k + 1) a) (by rw [hst, if_pos (by omega)])
          rw [← n_shl (by omega)] at this
          exact this
    refine f_run_ok (stop := fun q => Nat.beq q 9) hX 20 _ _ _ _ _ ?_
    exact loop n 0 _ (Nat.zero_add _) (f_em.rf.uf (by decide)) rfl
/-- the rest of the weight, if no more can be broken -/
def f_rsw (c : Nat) : Nat → Nat → Nat → Nat
  | 0, _, w => w
  | n + 1, k, w => if k < c then f_rsw c n (k + 1) (w * f_pO k) else w
def f_oo (may : Nat → Nat) (W c : Nat) : Nat → Nat → Nat → Nat → Nat × Nat
  | 0, S, q, k => if S = W ∧ (k = c ∨ may S = 0) then (1, f_rsw c 3 k q) else (0, 0)
  | d + 1, S, q, k => if S = W ∧ (k = c ∨ may S = 0) then (1, f_rsw c 3 k q) else if S = W ∨ may S = 0 then (0, 0) else f_acc (fun x => (may S &&& W).testBit x && !S.testBit x) (fun x => f_oo may W c d (S ||| 2 ^ x) (q * (f_pO k / f_pc (may S))) (k + 1)) 17
