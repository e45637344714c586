/-! ===== a wrong reading goes on at once; what every call keeps of the state ===== -/
set_option maxRecDepth 20000 in
theorem m_fac0 (sF sS : fSp) : f_Meets 5 (kX12_factor S_he sF S_emt sS S_mst S_am S_fgr) S_wrg := by
  intro G As M R hsp X hX hW
  match As, hsp with
  | [.ref 100], ⟨T, n, p, a, q, hG, hY, hgo⟩ =>
    subst hG
    have h7 : M.1 100 7 = f_b true := hY.2.2.2.2.2.2.1
    refine f_run_ok (stop := fun q => Nat.beq q 8) hX 40 _ _ _ _ _ ?_
    refine And.intro (fun h => ?_) (fun _ => hgo)
    have h : M.1 100 7 = 0 := h
    rw [h7] at h
    exact absurd h (by decide)
set_option maxRecDepth 20000 in
theorem m_evy0 : f_Meets 1 (kX12_every S_wrg S_he S_emt) S_wrg := by
  intro G As M R hsp X hX hW
  match As, hsp with
  | [.ref 100], ⟨T, n, p, a, q, hG, hY, hgo⟩ =>
    subst hG
    have h7 : M.1 100 7 = f_b true := hY.2.2.2.2.2.2.1
    refine f_run_ok (stop := fun q => Nat.beq q 11) hX 40 _ _ _ _ _ ?_
    refine ⟨T, n, p, a, q, rfl, hY, ?_⟩
    refine And.intro (fun h => ?_) (fun _ => hgo)
    have h : M.1 100 7 = 0 := h
    rw [h7] at h
    exact absurd h (by decide)
set_option maxRecDepth 20000 in
theorem m_sme0 : f_Meets 1 (kX12_some S_wrg S_he S_emt) S_wrg := by
  intro G As M R hsp X hX hW
  match As, hsp with
  | [.ref 100], ⟨T, n, p, a, q, hG, hY, hgo⟩ =>
    subst hG
    have h7 : M.1 100 7 = f_b true := hY.2.2.2.2.2.2.1
    refine f_run_ok (stop := fun q => Nat.beq q 11) hX 40 _ _ _ _ _ ?_
    refine ⟨T, n, p, a, q, rfl, hY, ?_⟩
    refine And.intro (fun h => ?_) (fun _ => hgo)
    have h : M.1 100 7 = 0 := h
    rw [h7] at h
    exact absurd h (by decide)
/-- what every call keeps -/
def f_kp (s : fSt) (r : Value × fSt) : Prop := f_SW r.2
theorem f_kp.same {s : fSt} {v : Value} (h : f_SW s) : f_kp s (v, s) := h
theorem f_SW.co {s : fSt} {c : fCo} (h : f_SW s) (hc : f_CW c) : f_SW (c, s.2) := ⟨hc, h.2⟩
theorem k_feed {s : fSt} {x : Int32} (h : f_SW s) : f_SW (p_feed s x).2 := by
  unfold p_feed
  split
  · exact h
  · rename_i h1
    split
    · exact h
    · rename_i h2
      obtain ⟨⟨⟨a1, a2, a3, a4, a5, a6, a7⟩, b1, b2, b3, b4, b5, b6, b7, b8, b9⟩, c⟩ := h
      have hx0 : 0 ≤ x := Int32.not_lt.mp (fun z => h1 (Or.inl z))
      have hx := f_nle (k := 127) hx0 (Int32.not_lt.mp (fun z => h1 (Or.inr z))) (by omega)
      refine ⟨⟨⟨a1, a2, a3, by show s.1.1 0 3 + 1 ≤ 100; omega, a5, a6, a7⟩, b1, b2, b3, fun i => ?_, b5, b6, b7, b8, b9⟩, c⟩
      show (if i = s.1.1 0 3 then f_n x else s.1.1 4 i) < 128
      split
      · omega
      · exact b4 i
theorem k_whole {s : fSt} (h : f_SW s) : f_SW (p_whole s).2 := by
  obtain ⟨⟨⟨a1, a2, a3, a4, a5, a6, a7⟩, b⟩, c⟩ := h
  exact ⟨⟨⟨a1, a2, ⟨Nat.pow_pos (by decide), Nat.zero_testBit 0⟩, a4, a5, a6, a7⟩, b⟩, c⟩
theorem k_box {s : fSt} {l : Int32} (h : f_SW s) : f_SW (p_box s l).2 := by
  unfold p_box
  split
  · obtain ⟨⟨⟨a1, a2, a3, a4, a5, a6, a7⟩, b1, b2, b3, b4, b5, b6⟩, c⟩ := h
    exact ⟨⟨⟨a1, a2, a3, a4, Nat.zero_le _, a6, a7⟩, b1, b2, b3, b4, fun i hi => absurd hi (Nat.not_lt_zero i), b6⟩, c⟩
  · split
    · exact h
    · rename_i h1
      split
      · exact h
      · rename_i h2
        obtain ⟨⟨⟨a1, a2, a3, a4, a5, a6, a7⟩, b1, b2, b3, b4, b5, b6⟩, c⟩ := h
        have g1 : 1 ≤ l := Int32.not_lt.mp (fun z => h1 (Or.inl z))
        have g0 : 0 ≤ l := Int32.le_trans (by decide) g1
        have g2 := f_nle (k := 99) g0 (Int32.not_lt.mp (fun z => h1 (Or.inr z))) (by omega)
        have g3 : 1 ≤ f_n l := by
          have e := f_nn g0
          rw [← e] at g1
          exact (nI_leI (a := 1) (by omega) (by omega)).mp g1
        refine ⟨⟨⟨a1, a2, a3, a4, by show s.1.1 0 4 + 1 ≤ 10; omega, a6, a7⟩, b1, b2, b3, b4, fun i hi => ?_, b6⟩, c⟩
        have hi : i < s.1.1 0 4 + 1 := hi
        show 1 ≤ (if i = s.1.1 0 4 then f_n l else s.1.1 5 i) ∧ (if i = s.1.1 0 4 then f_n l else s.1.1 5 i) < 100
        split
        · exact ⟨g3, by omega⟩
        · exact b5 i (by omega)
theorem k_see {s : fSt} {l : Int32} (h : f_SW s) : f_SW (p_see s l).2 := by
  unfold p_see
  split
  · obtain ⟨⟨⟨a1, a2, a3, a4, a5, a6, a7⟩, b1, b2, b3, b4, b5, b6, b7⟩, c⟩ := h
    exact ⟨⟨⟨a1, a2, a3, a4, a5, Nat.zero_le _, a7⟩, b1, b2, b3, b4, b5, fun i hi => absurd hi (Nat.not_lt_zero i), b7⟩, c⟩
  · split
    · exact h
    · rename_i h1
      split
      · exact h
      · rename_i h2
        obtain ⟨⟨⟨a1, a2, a3, a4, a5, a6, a7⟩, b1, b2, b3, b4, b5, b6, b7⟩, c⟩ := h
        have g1 : 1 ≤ l := Int32.not_lt.mp (fun z => h1 (Or.inl z))
        have g0 : 0 ≤ l := Int32.le_trans (by decide) g1
        have g2 := f_nle (k := 17) g0 (Int32.not_lt.mp (fun z => h1 (Or.inr z))) (by omega)
        have g3 : 1 ≤ f_n l := by
          have e := f_nn g0
          rw [← e] at g1
          exact (nI_leI (a := 1) (by omega) (by omega)).mp g1
        refine ⟨⟨⟨a1, a2, a3, a4, a5, by show s.1.1 0 5 + 1 ≤ 4; omega, a7⟩, b1, b2, b3, b4, b5, fun i hi => ?_, b7⟩, c⟩
        have hi : i < s.1.1 0 5 + 1 := hi
        show 1 ≤ (if i = s.1.1 0 5 then f_n l else s.1.1 6 i) ∧ (if i = s.1.1 0 5 then f_n l else s.1.1 6 i) ≤ 17
        split
        · exact ⟨g3, g2⟩
        · exact b6 i (by omega)
theorem k_image {s : fSt} (h : f_SW s) : f_SW (p_image s).2 := ⟨h.1, fun k hk => by cases hk; exact h.1, h.2.2⟩
theorem k_undo {s : fSt} (h : f_SW s) : f_SW (p_undo s).2 := by
  unfold p_undo
  split
  · exact h
  · rename_i k hk
    exact ⟨h.2.1 k hk, fun k' hk' => by cases hk'; exact h.2.1 k hk, h.2.2⟩
