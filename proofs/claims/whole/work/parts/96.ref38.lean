/-! ===== the reference: a yard is read: one clause ===== -/
def f_zy (a k : Nat) : Prop := k = 191 + a ∨ k = 196 + a ∨ f_zs a k
def f_YP (M : fMem) (a : Nat) (y : fYd) : Prop := (∃ l m : Nat, M.1 101 (191 + a) = nI l ∧ l < 100 ∧ max 2 (min 17 l) = y.1 ∧ M.1 101 (196 + a) = nI m ∧ m < 100 ∧ max 1 (min 3 m) = y.2.1) ∧ f_YC M a (f_rsL y.2.2)
def S_clh : fSp := fun G As M R => match As with
  | [.ref 100] => ∃ (T : Nat → Nat) (n p a : Nat) (y : fYd), G = f_GM ∧ f_YS M T n p a false 0 ∧ f_YP M a y ∧ (f_rsL y.2.2).length ≤ p ∧ (∀ M', f_yq (f_zy a) M M' → f_YS M' T n (f_cl T n p y).2.1 a (!(f_cl T n p y).1) 0 → ((f_cl T n p y).1 = true → f_YP M' a (f_cl T n p y).2.2 ∧ (f_rsL (f_cl T n p y).2.2.2.2).length ≤ (f_cl T n p y).2.1) → R G none M')
  | _ => False
theorem f_rsL_app (rs : List fRl) (q : fRl) : f_rsL (rs ++ [q]) = f_rsL rs ++ (q.2.2.map f_rst ++ [f_rsE (q.1, q.2.1)]) := by
  unfold f_rsL
  rw [List.flatMap_append]
  simp
theorem f_hdw_c {T : Nat → Nat} {n p c d : Nat} {w : List Nat} : (f_hdw T n c w p).1 = (f_hdw T n d w p).1 ∧ (f_hdw T n c w p).2.1 = (f_hdw T n d w p).2.1 ∧ (f_hdw T n c w p).2.2.2 = (f_hdw T n d w p).2.2.2 ∧ (f_hdw T n c w p).2.2.1 = c := by
  unfold f_hdw
  split
  · cases f_num T n (f_wrd T n w p).2 with
    | none => exact ⟨rfl, rfl, rfl, rfl⟩
    | some r => exact ⟨rfl, rfl, rfl, rfl⟩
  · exact ⟨rfl, rfl, rfl, rfl⟩
/-- a rule's clause -/
theorem f_cl_rule {T : Nat → Nat} {n p i c : Nat} {y : fYd} (hc : c = 104 ∧ i = 2 ∨ c = 112 ∧ i = 3) (hh : f_head T n p = f_hdw T n c (f_swd i) p) : f_cl T n p y = ((f_mc T n p i).1, (f_mc T n p i).2.1, if (f_mc T n p i).1 = true then (y.1, y.2.1, y.2.2 ++ [(decide (i = 3), (f_mc T n p i).2.2.1, (f_mc T n p i).2.2.2)]) else y) := by
  have hd : decide (c = 112) = decide (i = 3) := by rcases hc with ⟨rfl, rfl⟩ | ⟨rfl, rfl⟩ <;> rfl
  obtain ⟨e1, e2, e3, e4⟩ := f_hdw_c (T := T) (n := n) (p := p) (c := c) (d := 0) (w := f_swd i)
  unfold f_cl f_mc f_keep
  rw [hh, e1, e2, e3, e4]
  have h2 : c = 104 ∨ c = 112 := by omega
  by_cases g1 : (f_hdw T n 0 (f_swd i) p).1 = true
  · rw [if_pos g1, if_pos g1, if_pos h2]
    by_cases g2 : f_is T n (f_hdw T n 0 (f_swd i) p).2.1 32 = true
    · rw [if_pos g2, if_pos g2]
      by_cases g3 : (f_pe T n (f_pf T n 5) ((f_hdw T n 0 (f_swd i) p).2.1 + 1) []).1 = true
      · rw [if_pos g3]
        simp only [g3, if_pos h2, if_true, hd]
      · rw [if_neg g3]
        simp only [Bool.eq_false_iff.mpr g3, Bool.false_eq_true, if_false]
    · rw [if_neg g2, if_neg g2]
      simp only [Bool.false_eq_true, if_false]
  · rw [if_neg g1, if_neg g1]
    simp only [Bool.false_eq_true, if_false]
theorem f_cl_num {T : Nat → Nat} {n p i c : Nat} {y : fYd} (hc : c = 108 ∧ i = 0 ∨ c = 99 ∧ i = 1) (hh : f_head T n p = f_hdw T n c (f_swd i) p) : f_cl T n p y = ((f_hdw T n 0 (f_swd i) p).1, (f_hdw T n 0 (f_swd i) p).2.1, if (f_hdw T n 0 (f_swd i) p).1 = true then (if i = 0 then (max 2 (min 17 (f_hdw T n 0 (f_swd i) p).2.2.2), y.2.1, y.2.2) else (y.1, max 1 (min 3 (f_hdw T n 0 (f_swd i) p).2.2.2), y.2.2)) else y) := by
  obtain ⟨e1, e2, e3, e4⟩ := f_hdw_c (T := T) (n := n) (p := p) (c := c) (d := 0) (w := f_swd i)
  unfold f_cl f_keep
  rw [hh, e1, e2, e3, e4]
  have h2 : ¬ (c = 104 ∨ c = 112) := by omega
  by_cases g1 : (f_hdw T n 0 (f_swd i) p).1 = true
  · simp only [g1, if_true, if_neg h2]
    rcases hc with ⟨rfl, rfl⟩ | ⟨rfl, rfl⟩ <;> rfl
  · simp only [Bool.eq_false_iff.mpr g1, Bool.false_eq_true, if_false]
