/-! ===== the number of trailing zeros ===== -/
def S_ntz : fSp := fun G As M R => match As with
  | [.int v] => ∃ k m : Nat, v = nI (2 ^ k * (2 * m + 1)) ∧ 2 ^ k * (2 * m + 1) < 2 ^ 17 ∧ R G (some (.int (nI k))) M
  | _ => False
theorem f_low_k {k m : Nat} (h : 2 ^ k * (2 * m + 1) < 2 ^ 17) : k ≤ 16 := by
  have h1 : 2 ^ k * 1 ≤ 2 ^ k * (2 * m + 1) := Nat.mul_le_mul_left _ (by omega)
  have h2 : 2 ^ k < 2 ^ 17 := by omega
  have := (Nat.pow_lt_pow_iff_right (a := 2) (by decide)).mp h2
  omega
set_option maxRecDepth 20000 in
theorem m_ntz : f_Meets 2 kJ6_numberOfTrailingZeros_0f7a4 S_ntz := by
  intro G As M R hsp X hX hW
  match As, hsp with
  | [.int v], ⟨k, m, hv, hl, hsp⟩ =>
    have hk := f_low_k hl
    refine f_run_ok (stop := fun q => Nat.beq q 8) hX 30 _ _ _ _ _ ?_
    have q : X G 8 [some (.int (nI (2 ^ k - 1))), none] [] M := by
      have hc : k = 0 ∨ k = 1 ∨ k = 2 ∨ k = 3 ∨ k = 4 ∨ k = 5 ∨ k = 6 ∨ k = 7 ∨ k = 8 ∨ k = 9 ∨ k = 10 ∨ k = 11 ∨ k = 12 ∨ k = 13 ∨ k = 14 ∨ k = 15 ∨ k = 16 := by omega
      rcases hc with rfl | rfl | rfl | rfl | rfl | rfl | rfl | rfl | rfl | rfl | rfl | rfl | rfl | rfl | rfl | rfl | rfl
      all_goals
        refine f_run_ok (stop := fun q => false) hX 60 _ _ _ _ _ ?_
        repeat' (refine And.intro (fun h => ?_) (fun h => ?_) <;> first | exact absurd h (by decide +kernel) | skip)
        all_goals exact f_fin hsp (by decide +kernel) rfl
    rw [← f_low_I (k := k) (m := m) (by omega), ← hv] at q
    exact q
