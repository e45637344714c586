/-! ===== a yard is read: in numbers ===== -/
abbrev fRs : Type := Bool × Nat × List Nat
def f_is (T : Nat → Nat) (n p c : Nat) : Bool := decide (p < n ∧ T p = c)
def f_sg (T : Nat → Nat) (n p : Nat) : Int32 := if p < n then nI (T p) else -1
theorem f_sg_eq {T : Nat → Nat} {n p c : Nat} (hT : ∀ i, i < n → T i < 128) (hc : c < 1000) : f_sg T n p = nI c ↔ f_is T n p c = true := by
  unfold f_sg f_is
  by_cases h : p < n
  · rw [if_pos h, nI_eq (by have := hT p h; omega) (by omega)]
    simp [h]
  · rw [if_neg h]
    constructor
    · intro e
      have := congrArg Int32.toInt e
      rw [nI_toInt (by omega), show (-1 : Int32).toInt = -1 by decide] at this
      omega
    · intro e
      have := of_decide_eq_true e
      exact absurd this.1 h
def f_dg (T : Nat → Nat) (n p : Nat) : Option Nat := if p < n ∧ 48 ≤ T p ∧ T p ≤ 57 then some (T p - 48) else none
theorem f_dg_some {T : Nat → Nat} {n p d : Nat} (h : f_dg T n p = some d) : f_sg T n p - 48 = nI d ∧ d ≤ 9 ∧ p < n ∧ T p = d + 48 := by
  unfold f_dg at h
  split at h
  · rename_i hc
    cases h
    unfold f_sg
    rw [if_pos hc.1]
    exact ⟨pk_sub (b := 48) hc.2.1, by omega, hc.1, by omega⟩
  · cases h
theorem f_sg_int {T : Nat → Nat} {n p : Nat} (hT : ∀ i, i < n → T i < 128) : (f_sg T n p).toInt = if p < n then (T p : Int) else -1 := by
  unfold f_sg
  by_cases h : p < n
  · rw [if_pos h, if_pos h, nI_toInt (by have := hT p h; omega)]
  · rw [if_neg h, if_neg h]; decide
theorem f_dg_none {T : Nat → Nat} {n p : Nat} (hT : ∀ i, i < n → T i < 128) (h : f_dg T n p = none) : f_sg T n p - 48 < 0 ∨ 9 < f_sg T n p - 48 := by
  unfold f_dg at h
  split at h
  · cases h
  · rename_i hc
    unfold f_sg
    by_cases h1 : p < n
    · rw [if_pos h1]
      have h128 := hT p h1
      by_cases h2 : 48 ≤ T p
      · right
        rw [show nI (T p) - 48 = nI (T p - 48) from pk_sub (b := 48) h2]
        exact nI_lt (a := 9) (by omega) (by omega)
      · left
        have : ∀ t, t < 48 → nI t - 48 < 0 := by decide +kernel
        exact this _ (by omega)
    · rw [if_neg h1]
      left; decide
def f_num (T : Nat → Nat) (n p : Nat) : Option (Nat × Nat) := match f_dg T n p with
  | none => none
  | some d => if d = 0 then some (0, p + 1) else match f_dg T n (p + 1) with
    | none => some (d, p + 1)
    | some e => some (d * 10 + e, p + 2)
theorem f_num_ok {T : Nat → Nat} {n p v q : Nat} (h : f_num T n p = some (v, q)) : v < 100 ∧ p < q ∧ q ≤ n := by
  unfold f_num at h
  cases h1 : f_dg T n p with
  | none => rw [h1] at h; cases h
  | some d =>
    rw [h1] at h
    obtain ⟨_, a2, a3, _⟩ := f_dg_some h1
    change (if d = 0 then some (0, p + 1) else match f_dg T n (p + 1) with | none => some (d, p + 1) | some e => some (d * 10 + e, p + 2)) = some (v, q) at h
    split at h
    · cases h; omega
    · cases h2 : f_dg T n (p + 1) with
      | none => rw [h2] at h; cases h; omega
      | some e =>
        rw [h2] at h
        obtain ⟨_, b2, b3, _⟩ := f_dg_some h2
        cases h
        omega
def f_let (T : Nat → Nat) (n p : Nat) : Option Nat := if f_is T n p 120 = true then some 0 else if f_is T n p 114 = true then some 1 else if f_is T n p 108 = true then some 2 else if f_is T n p 99 = true then some 3 else if f_is T n p 107 = true then some 4 else none
def f_cm (T : Nat → Nat) (n p : Nat) : Option Nat := if f_is T n p 60 = true then some 0 else if f_is T n p 61 = true then some 1 else if f_is T n p 62 = true then some 2 else none
theorem f_is_lt {T : Nat → Nat} {n p c : Nat} (h : f_is T n p c = true) : p < n := (of_decide_eq_true h).1
theorem f_let_ok {T : Nat → Nat} {n p a : Nat} (h : f_let T n p = some a) : a < 5 ∧ p < n := by
  unfold f_let at h
  split at h
  · rename_i hc; cases h; exact ⟨by omega, f_is_lt hc⟩
  · split at h
    · rename_i hc; cases h; exact ⟨by omega, f_is_lt hc⟩
    · split at h
      · rename_i hc; cases h; exact ⟨by omega, f_is_lt hc⟩
      · split at h
        · rename_i hc; cases h; exact ⟨by omega, f_is_lt hc⟩
        · split at h
          · rename_i hc; cases h; exact ⟨by omega, f_is_lt hc⟩
          · cases h
theorem f_cm_ok {T : Nat → Nat} {n p a : Nat} (h : f_cm T n p = some a) : a < 3 ∧ p < n := by
  unfold f_cm at h
  split at h
  · rename_i hc; cases h; exact ⟨by omega, f_is_lt hc⟩
  · split at h
    · rename_i hc; cases h; exact ⟨by omega, f_is_lt hc⟩
    · split at h
      · rename_i hc; cases h; exact ⟨by omega, f_is_lt hc⟩
      · cases h
def f_ptst (T : Nat → Nat) (n p : Nat) (C : List Nat) : fRs := match f_let T n p with
  | none => (false, p, C)
  | some a => match f_cm T n (p + 1) with
    | none => (false, p + 1, C)
    | some b => match f_num T n (p + 2) with
      | none => (false, p + 2, C)
      | some (v, q) => (true, q, C ++ [(a * 3 + b) * 100 + v])
def f_rep (T : Nat → Nat) (n ch op : Nat) (sub : Nat → List Nat → fRs) : Nat → Nat → List Nat → fRs
  | 0, p, C => (true, p, C)
  | k + 1, p, C => if f_is T n p ch = true then (if (sub (p + 1) C).1 = true then f_rep T n ch op sub k (sub (p + 1) C).2.1 ((sub (p + 1) C).2.2 ++ [op]) else sub (p + 1) C) else (true, p, C)
def f_ser (T : Nat → Nat) (n ch op : Nat) (sub : Nat → List Nat → fRs) (p : Nat) (C : List Nat) : fRs := if (sub p C).1 = true then f_rep T n ch op sub 100 (sub p C).2.1 (sub p C).2.2 else sub p C
def f_pb (T : Nat → Nat) (n : Nat) (fac : Nat → List Nat → fRs) : Nat → List Nat → fRs := f_ser T n 38 2001 fac
def f_pe (T : Nat → Nat) (n : Nat) (fac : Nat → List Nat → fRs) : Nat → List Nat → fRs := f_ser T n 124 2002 (f_pb T n fac)
def f_pf (T : Nat → Nat) (n : Nat) : Nat → Nat → List Nat → fRs
  | 0, p, C => if f_is T n p 33 = true ∨ f_is T n p 40 = true then (false, p, C) else f_ptst T n p C
  | o + 1, p, C => if f_is T n p 40 = true then (if (f_pe T n (f_pf T n o) (p + 1) C).1 = true then (if f_is T n (f_pe T n (f_pf T n o) (p + 1) C).2.1 41 = true then (true, (f_pe T n (f_pf T n o) (p + 1) C).2.1 + 1, (f_pe T n (f_pf T n o) (p + 1) C).2.2) else (false, (f_pe T n (f_pf T n o) (p + 1) C).2)) else f_pe T n (f_pf T n o) (p + 1) C)
    else if f_is T n p 33 = true then (if (f_pf T n o (p + 1) C).1 = true then (true, (f_pf T n o (p + 1) C).2.1, (f_pf T n o (p + 1) C).2.2 ++ [2000]) else f_pf T n o (p + 1) C) else f_ptst T n p C
/-- a reading goes on in the tape, and writes no more than it reads -/
def f_good (n : Nat) (F : Nat → List Nat → fRs) : Prop := ∀ p C, p ≤ n → p ≤ (F p C).2.1 ∧ (F p C).2.1 ≤ n ∧ (F p C).2.2.length + p ≤ C.length + (F p C).2.1
theorem f_app1 (C : List Nat) (t : Nat) : (C ++ [t]).length = C.length + 1 := by rw [List.length_append]; rfl
theorem f_ptst_good (T : Nat → Nat) (n : Nat) : f_good n (f_ptst T n) := by
  intro p C hp
  unfold f_ptst
  cases h1 : f_let T n p with
  | none => exact ⟨Nat.le_refl _, hp, Nat.le_refl _⟩
  | some a =>
    have := f_let_ok h1
    cases h2 : f_cm T n (p + 1) with
    | none => exact ⟨by show p ≤ p + 1; omega, by show p + 1 ≤ n; omega, by show C.length + p ≤ C.length + (p + 1); omega⟩
    | some b =>
      have := f_cm_ok h2
      cases h3 : f_num T n (p + 2) with
      | none => exact ⟨by show p ≤ p + 2; omega, by show p + 2 ≤ n; omega, by show C.length + p ≤ C.length + (p + 2); omega⟩
      | some r =>
        obtain ⟨v, q⟩ := r
        have := f_num_ok h3
        refine ⟨by show p ≤ q; omega, by show q ≤ n; omega, ?_⟩
        show (C ++ [(a * 3 + b) * 100 + v]).length + p ≤ C.length + q
        rw [f_app1]; omega
theorem f_rep_good {T : Nat → Nat} {n ch op : Nat} {sub : Nat → List Nat → fRs} (hs : f_good n sub) : ∀ k, f_good n (f_rep T n ch op sub k) := by
  intro k
  induction k with
  | zero => intro p C hp; exact ⟨Nat.le_refl _, hp, Nat.le_refl _⟩
  | succ k ih =>
    intro p C hp
    unfold f_rep
    by_cases h1 : f_is T n p ch = true
    · have hlt := f_is_lt h1
      rw [if_pos h1]
      obtain ⟨a1, a2, a3⟩ := hs (p + 1) C (by omega)
      by_cases h2 : (sub (p + 1) C).1 = true
      · rw [if_pos h2]
        obtain ⟨b1, b2, b3⟩ := ih (sub (p + 1) C).2.1 ((sub (p + 1) C).2.2 ++ [op]) a2
        rw [f_app1] at b3
        exact ⟨by omega, b2, by omega⟩
      · rw [if_neg h2]
        exact ⟨by omega, a2, by omega⟩
    · rw [if_neg h1]
      exact ⟨Nat.le_refl _, hp, Nat.le_refl _⟩
theorem f_ser_good {T : Nat → Nat} {n ch op : Nat} {sub : Nat → List Nat → fRs} (hs : f_good n sub) : f_good n (f_ser T n ch op sub) := by
  intro p C hp
  unfold f_ser
  obtain ⟨a1, a2, a3⟩ := hs p C hp
  split
  · obtain ⟨b1, b2, b3⟩ := f_rep_good (T := T) (ch := ch) (op := op) hs 100 (sub p C).2.1 (sub p C).2.2 a2
    exact ⟨by omega, b2, by omega⟩
  · exact ⟨a1, a2, a3⟩
theorem f_pf_good (T : Nat → Nat) (n : Nat) : ∀ o, f_good n (f_pf T n o) := by
  intro o
  induction o with
  | zero =>
    intro p C hp
    unfold f_pf
    split
    · exact ⟨Nat.le_refl _, hp, Nat.le_refl _⟩
    · exact f_ptst_good T n p C hp
  | succ o ih =>
    intro p C hp
    unfold f_pf
    split
    · rename_i h1
      have hlt := f_is_lt h1
      have hg : f_good n (f_pe T n (f_pf T n o)) := f_ser_good (f_ser_good ih)
      obtain ⟨a1, a2, a3⟩ := hg (p + 1) C (by omega)
      generalize f_pe T n (f_pf T n o) (p + 1) C = r at *
      split
      · split
        · rename_i h3
          have hlt3 := f_is_lt h3
          exact ⟨by show p ≤ r.2.1 + 1; omega, by show r.2.1 + 1 ≤ n; omega, by show r.2.2.length + p ≤ C.length + (r.2.1 + 1); omega⟩
        · exact ⟨by show p ≤ r.2.1; omega, a2, by show r.2.2.length + p ≤ C.length + r.2.1; omega⟩
      · exact ⟨by omega, a2, by omega⟩
    · split
      · rename_i h1
        have hlt := f_is_lt h1
        obtain ⟨a1, a2, a3⟩ := ih (p + 1) C (by omega)
        split
        · refine ⟨by show p ≤ (f_pf T n o (p + 1) C).2.1; omega, a2, ?_⟩
          show (_ ++ [2000]).length + p ≤ _
          rw [f_app1]
          show _ ≤ C.length + (f_pf T n o (p + 1) C).2.1
          omega
        · exact ⟨by omega, a2, by omega⟩
      · exact f_ptst_good T n p C hp
theorem f_pb_good (T : Nat → Nat) (n o : Nat) : f_good n (f_pb T n (f_pf T n o)) := f_ser_good (f_pf_good T n o)
theorem f_pe_good (T : Nat → Nat) (n o : Nat) : f_good n (f_pe T n (f_pf T n o)) := f_ser_good (f_pb_good T n o)
