/-! ===== what every call keeps: yard, breaker, row, breaks, book, act ===== -/
theorem k_yard {s : fSt} (h : f_SW s) : f_SW (p_yard s).2 := by
  unfold p_yard
  split
  · exact h
  · rename_i h1
    have hsg := h.sg
    split
    · obtain ⟨⟨⟨a1, a2, a3, a4, a5, a6, a7⟩, b1, b2, b3, b4, b5, b6, b7, b8, b9⟩, c⟩ := h
      exact ⟨⟨⟨a1, by show s.1.1 0 1 + 1 ≤ 5; omega, ⟨Nat.pow_pos (by decide), Nat.zero_testBit 0⟩, Nat.zero_le _, a5, a6, a7⟩, b1, b2, b3, b4, b5, b6, b7, b8, f_yrd_ok hsg⟩, c⟩
    · obtain ⟨⟨⟨a1, a2, a3, a4, a5, a6, a7⟩, b⟩, c⟩ := h
      exact ⟨⟨⟨a1, a2, a3, Nat.zero_le _, a5, a6, a7⟩, b⟩, c⟩
theorem k_breaker {s : fSt} {k v : Int32} (h : f_SW s) : f_SW (p_breaker s k v).2 := by
  unfold p_breaker
  split
  · exact h
  · rename_i h1
    split
    · exact h
    · rename_i h2
      split
      · exact h
      · rename_i h3
        have k0 : 0 ≤ k := Int32.not_lt.mp (fun z => h1 (Or.inl z))
        have v0 : 0 ≤ v := Int32.not_lt.mp (fun z => h2 (Or.inl z))
        have kb : f_n k < 7 := f_nlt (k := 7) k0 (show k < nI 7 from Int32.not_le.mp (fun z => h1 (Or.inr z))) (by omega)
        have vb := f_nle (k := 9) v0 (Int32.not_lt.mp (fun z => h2 (Or.inr z))) (by omega)
        obtain ⟨⟨⟨a1, a2, a3, a4, a5, a6, a7⟩, b1, b2, b3, b4⟩, c⟩ := h
        refine ⟨⟨⟨by show s.1.1 0 0 + 1 ≤ 6; omega, a2, a3, a4, a5, a6, a7⟩, fun i => ?_, fun i => ?_, fun i => ?_, b4⟩, c⟩
        · show (if i = s.1.1 0 0 then f_n k else s.1.1 1 i) < 7
          split
          · exact kb
          · exact b1 i
        · show (if i = s.1.1 0 0 then f_n v else s.1.1 2 i) < 10
          split
          · omega
          · exact b2 i
        · show (if i = s.1.1 0 0 * 4 + 3 then 0 else if i = s.1.1 0 0 * 4 + 2 then 0 else if i = s.1.1 0 0 * 4 + 1 then 0 else if i = s.1.1 0 0 * 4 then 0 else s.1.1 3 i) < 10
          have := b3 i
          split
          · omega
          · split
            · omega
            · split
              · omega
              · split
                · omega
                · exact this
theorem k_row {s : fSt} {b k n : Int32} (h : f_SW s) : f_SW (p_row s b k n).2 := by
  unfold p_row
  split
  · exact h
  · split
    · exact h
    · rename_i h2
      split
      · exact h
      · have n0 : 0 ≤ n := Int32.not_lt.mp (fun z => h2 (Or.inl z))
        have nb := f_nle (k := 9) n0 (Int32.not_lt.mp (fun z => h2 (Or.inr z))) (by omega)
        obtain ⟨⟨a, b1, b2, b3, b4⟩, c⟩ := h
        refine ⟨⟨a, b1, b2, fun i => ?_, b4⟩, c⟩
        show (if i = f_n b * 4 + f_n k then f_n n else s.1.1 3 i) < 10
        split
        · omega
        · exact b3 i
theorem k_breaks {s : fSt} {b d : Int32} (h : f_SW s) : f_SW (p_breaks s b d).2 := by
  unfold p_breaks
  split
  · exact h
  · split
    · exact h
    · split
      · exact h
      · rename_i h3
        obtain ⟨w1, w2⟩ := f_drw_ok (S := f_mb s.1 (f_n b) (s.1.1 0 2)) (d := d) h3
        obtain ⟨e1, e2, e3⟩ := f_may_new w1
        obtain ⟨⟨⟨a1, a2, ⟨a3, a3'⟩, a4, a5, a6, a7⟩, b1⟩, c⟩ := h
        refine ⟨⟨⟨a1, a2, ⟨?_, ?_⟩, a4, a5, a6, a7⟩, b1⟩, c⟩
        · exact n_or_lt a3 (Nat.pow_lt_pow_right (by decide) e3)
        · show (s.1.1 0 2 ||| 2 ^ f_drw (f_mb s.1 (f_n b) (s.1.1 0 2)) d).testBit 0 = false
          rw [Nat.testBit_or, a3', Nat.testBit_two_pow]
          simp
          omega
theorem k_act {s : fSt} {b a x : Int32} (h : f_SW s) : f_SW (p_act s b a x).2 := by
  unfold p_act
  split
  · exact ⟨h.1, h.2.1, by show 0 < 20; omega⟩
  · rename_i h1
    have a0 : 0 ≤ a := Int32.not_lt.mp (fun z => h1 (Or.inr (Or.inl z)))
    have ab := f_nle (k := 2) a0 (Int32.not_lt.mp (fun z => h1 (Or.inr (Or.inr z)))) (by omega)
    exact ⟨h.1, h.2.1, f_rn_len _ _ _ _ _ (by omega) (h.kd _)⟩
theorem k_book {s : fSt} {x y z d : Int32} (h : f_SW s) : f_SW (p_book s x y z d).2 := by
  unfold p_book
  split
  · obtain ⟨⟨⟨a1, a2, a3, a4, a5, a6, a7⟩, b1, b2, b3, b4, b5, b6, b7, b8⟩, c⟩ := h
    exact ⟨⟨⟨a1, a2, a3, a4, a5, a6, Nat.zero_le _⟩, b1, b2, b3, b4, b5, b6, fun i hi => absurd hi (Nat.not_lt_zero i), b8⟩, c⟩
  · split
    · exact h
    · rename_i h1
      split
      · exact h
      · rename_i h2
        have pos : ∀ q : Int32, 1 ≤ q ∧ q ≤ 99 → 1 ≤ f_n q ∧ f_n q < 100 := fun q hq => by
          have g0 : 0 ≤ q := Int32.le_trans (by decide) hq.1
          have g2 := f_nle (k := 99) g0 hq.2 (by omega)
          have e := f_nn g0
          have g1 := hq.1
          rw [← e] at g1
          exact ⟨(nI_leI (a := 1) (by omega) (by omega)).mp g1, by omega⟩
        have px := pos x (Classical.byContradiction (fun e => h1 (Or.inl e)))
        have py := pos y (Classical.byContradiction (fun e => h1 (Or.inr (Or.inl e))))
        have pz := pos z (Classical.byContradiction (fun e => h1 (Or.inr (Or.inr e))))
        obtain ⟨⟨⟨a1, a2, a3, a4, a5, a6, a7⟩, b1, b2, b3, b4, b5, b6, b7, b8, b9⟩, c⟩ := h
        have val : ∀ j, (f_su (f_su (f_su (f_su (f_su s.1 7 (s.1.1 0 6 * 4) (f_n x)) 7 (s.1.1 0 6 * 4 + 1) (f_n y)) 7 (s.1.1 0 6 * 4 + 2) (f_n z)) 7 (s.1.1 0 6 * 4 + 3) (if d = 0 then 0 else 1)) 0 6 (s.1.1 0 6 + 1)).1 7 j = if j = s.1.1 0 6 * 4 + 3 then (if d = 0 then 0 else 1) else if j = s.1.1 0 6 * 4 + 2 then f_n z else if j = s.1.1 0 6 * 4 + 1 then f_n y else if j = s.1.1 0 6 * 4 then f_n x else s.1.1 7 j := fun j => rfl
        refine ⟨⟨⟨a1, a2, a3, a4, a5, a6, by show s.1.1 0 6 + 1 ≤ 8; omega⟩, b1, b2, b3, b4, b5, b6, fun i hi j hj => ?_, fun i => ?_, b9⟩, c⟩
        · have hi : i < s.1.1 0 6 + 1 := hi
          show 1 ≤ (f_su (f_su (f_su (f_su (f_su s.1 7 (s.1.1 0 6 * 4) (f_n x)) 7 (s.1.1 0 6 * 4 + 1) (f_n y)) 7 (s.1.1 0 6 * 4 + 2) (f_n z)) 7 (s.1.1 0 6 * 4 + 3) (if d = 0 then 0 else 1)) 0 6 (s.1.1 0 6 + 1)).1 7 (i * 4 + j) ∧ (f_su (f_su (f_su (f_su (f_su s.1 7 (s.1.1 0 6 * 4) (f_n x)) 7 (s.1.1 0 6 * 4 + 1) (f_n y)) 7 (s.1.1 0 6 * 4 + 2) (f_n z)) 7 (s.1.1 0 6 * 4 + 3) (if d = 0 then 0 else 1)) 0 6 (s.1.1 0 6 + 1)).1 7 (i * 4 + j) < 100
          rw [val, if_neg (by omega)]
          split
          · exact pz
          · split
            · exact py
            · split
              · exact px
              · exact b7 i (by omega) j hj
        · show (f_su (f_su (f_su (f_su (f_su s.1 7 (s.1.1 0 6 * 4) (f_n x)) 7 (s.1.1 0 6 * 4 + 1) (f_n y)) 7 (s.1.1 0 6 * 4 + 2) (f_n z)) 7 (s.1.1 0 6 * 4 + 3) (if d = 0 then 0 else 1)) 0 6 (s.1.1 0 6 + 1)).1 7 (i * 4 + 3) ≤ 1
          rw [val]
          split
          · split <;> omega
          · rw [if_neg (by omega), if_neg (by omega), if_neg (by omega)]
            exact b8 i
