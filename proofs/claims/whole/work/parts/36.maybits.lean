/-! ===== which places a breaker may break at ===== -/
theorem f_pcs_le (L br : Nat) : ∀ (n p f : Nat), p + n ≤ L + 1 → ∀ q ∈ f_pcs L br n p f, q.2 ≤ L := by
  intro n
  induction n with
  | zero => intro p f _ q hq; cases hq
  | succ n ih =>
    intro p f h q hq
    unfold f_pcs at hq
    split at hq
    · rcases List.mem_cons.mp hq with e | e
      · rw [e]; show p ≤ L; omega
      · exact ih (p + 1) p (by omega) q e
    · exact ih (p + 1) f (by omega) q hq
theorem f_frb_bit {rs : List fRl} {f t c k x : Nat} (h : (f_frb rs f t c k).testBit x = true) : f < x ∧ x < t := by
  unfold f_frb at h
  rw [f_bits_test] at h
  simp only [Bool.and_eq_true, decide_eq_true_eq] at h
  exact ⟨h.2.1, h.1⟩
theorem f_or_bit {α : Type} (g : α → Nat) (x : Nat) : ∀ (l : List α) (a : Nat), (l.foldl (fun a q => a ||| g q) a).testBit x = true → a.testBit x = true ∨ ∃ q ∈ l, (g q).testBit x = true := by
  intro l
  induction l with
  | nil => intro a h; exact Or.inl h
  | cons q l ih =>
    intro a h
    rcases ih (a ||| g q) h with e | ⟨r, hr, e⟩
    · rw [Nat.testBit_or, Bool.or_eq_true] at e
      rcases e with e | e
      · exact Or.inl e
      · exact Or.inr ⟨q, List.mem_cons_self, e⟩
    · exact Or.inr ⟨r, List.mem_cons_of_mem _ hr, e⟩
theorem f_farN_bit (f t fr x : Nat) : ∀ n, (f_farN f t fr n).2.testBit x = true → fr.testBit x = true := by
  intro n
  induction n with
  | zero => intro h; rw [show (f_farN f t fr 0).2 = 0 from rfl, Nat.zero_testBit] at h; cases h
  | succ n ih =>
    intro h
    unfold f_farN at h
    split at h
    · rename_i hc
      have p2 : (2 ^ (f + 1 + n)).testBit x = true → fr.testBit x = true := by
        intro e
        rw [Nat.testBit_two_pow] at e
        have := of_decide_eq_true e
        rw [← this]; exact hc.1
      dsimp only at h
      split at h
      · exact p2 h
      · rw [Nat.testBit_or, Bool.or_eq_true] at h
        rcases h with h | h
        · exact ih h
        · exact p2 h
    · exact ih h
theorem f_may_bit {rs : List fRl} {L kd v : Nat} {row : Nat → Nat} {br x : Nat} (h : (f_may rs L kd v row br).testBit x = true) : 1 ≤ x ∧ x < L := by
  have key : ∀ q ∈ f_pcs L br L 1 0, (f_frb rs q.1 q.2 (f_pc br) kd).testBit x = true → 1 ≤ x ∧ x < L := by
    intro q hq hb
    have h1 := f_frb_bit hb
    have h2 := f_pcs_le L br L 1 0 (by omega) q hq
    omega
  unfold f_may at h
  split at h
  · unfold f_alls at h
    rcases f_or_bit (fun q : Nat × Nat => f_frb rs q.1 q.2 (f_pc br) kd) x _ 0 h with e | ⟨q, hq, e⟩
    · rw [Nat.zero_testBit] at e; cases e
    · exact key q hq e
  · rename_i hn
    split at h
    · rw [Nat.zero_testBit] at h; cases h
    · rename_i i hi
      have hlt := f_cho_lt _ _ _ _ _ _ (by omega) hi
      have hm : f_og (f_ops rs (f_pc br) kd (f_pcs L br L 1 0)) i ∈ f_ops rs (f_pc br) kd (f_pcs L br L 1 0) := by
        unfold f_og
        rw [List.getD_eq_getElem?_getD, List.getElem?_eq_getElem hlt]
        exact List.getElem_mem hlt
      have hb : (f_og (f_ops rs (f_pc br) kd (f_pcs L br L 1 0)) i).2.2.testBit x = true := by
        split at h
        · exact f_farN_bit _ _ _ _ _ h
        · exact h
      obtain ⟨q, hq, hqe⟩ := List.mem_filterMap.mp hm
      split at hqe
      · cases hqe
      · have hqe := Option.some.inj hqe
        rw [← hqe] at hb
        exact key q hq hb
