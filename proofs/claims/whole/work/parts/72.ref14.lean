/-! ===== the reference: looks, the walk ===== -/
set_option maxRecDepth 20000 in
theorem m_lk : f_Meets 14 kX12_looks S_lk := by
  intro G As M R hsp X hX hW
  match As, hsp with
  | [.ref 100, .int zb, .int zx, .int zf, .int zt, .int zc], ⟨y, b, x, f, t, c, kd, hG, hH, hrok, hzb, hb, hkd, hkd7, hzx, hzf, hzt, hzc, hfx, hxt, ht17, hc, hsp⟩ =>
    subst hG; subst hzb; subst hzx; subst hzf; subst hzt; subst hzc
    -- the end: every step done
    have main : ∀ (M1 : fMem), f_em f_LKL M M1 → f_by M1 f t c kd x → M1.1 100 11 = nI 0 → M1.1 100 12 = nI 0 → X f_GM 76 [some (.ref 100), some (.int (nI b)), some (.int (nI x)), some (.int (nI f)), some (.int (nI t)), some (.int (nI c)), none, none, none, none, none, none, none, none] [] M1 := by
      intro M1 he1 hby1 h11 h12
      have e101 : M1.1 101 = M.1 101 := he1.1 101 (by decide) (by decide)
      rcases hH with ⟨h6, hy⟩ | ⟨a, _, _, ha, h6, _, _, _, _, _, _, g1, ⟨g2, g2b⟩, g3⟩
      · refine f_run_ok (stop := fun q => Nat.beq q 133) hX 60 _ _ _ _ _ ?_
        refine And.intro (v9 6 (by decide)) (And.intro (fun _ => ?_) (fun z => absurd (show M1.1 101 6 = -1 by rw [e101]; exact h6) z))
        refine And.intro (v9 6 (by decide)) ?_
        refine f_run_ok (stop := fun q => false) hX 60 _ _ _ _ _ ?_
        refine And.intro (fun _ => ?_) (fun z => ?_)
        · subst hy
          exact hsp M1 he1 h11 h12
        · refine absurd ?_ z
          show (206 + 140 * M1.1 101 6 : Int32) + 0 ≤ 206 + 140 * M1.1 101 6
          rw [f_add0]
          exact Int32.le_refl _
      · sorry
    have half : ∀ v : Int32, v = nI (min (x - f) (t - x)) → X f_GM 32 [some (.ref 100), some (.int (nI b)), some (.int (nI x)), some (.int (nI f)), some (.int (nI t)), some (.int (nI c)), none, none, none, none, none, none, none, none] [.int v, .int 1, .ref 103] (f_up M.1 103 0 (nI x), M.2) := by
      intro v hv
      obtain ⟨i1, i2⟩ := f_ix (n := 906) (show 9 + nI b = nI (9 + b) from nI_add 9 b) (by omega) (by omega)
      refine f_run_ok (stop := fun q => Nat.beq q 76) hX 60 _ _ _ _ _ ?_
      refine And.intro (by decide) (And.intro (by decide) (And.intro (by decide) (And.intro i1 (And.intro (by decide) ?_))))
      refine main _ (((((((f_em.rf.up (c := 103) (by decide)).up (c := 103) (by decide)).up (c := 103) (by decide)).up (c := 103) (by decide)).up (c := 103) (by decide)).uf (k := 11) (by decide)).uf (k := 12) (by decide)) (fun l hl => ?_) rfl rfl
      have : l = 0 ∨ l = 1 ∨ l = 2 ∨ l = 3 ∨ l = 4 := by omega
      rcases this with rfl | rfl | rfl | rfl | rfl
      · rfl
      · exact hv
      · show nI t - nI f = nI (t - f); exact pk_sub (by omega)
      · rfl
      · show M.1 101 (9 + nI b).toNatClampNeg = nI kd; rw [i2]; exact hkd
    refine f_run_ok (stop := fun q => Nat.beq q 32) hX 60 _ _ _ _ _ ?_
    refine And.intro (by decide) (And.intro (fun h => ?_) (fun h => ?_))
    · have h : nI t - nI x ≤ nI x - nI f := h
      rw [pk_sub (by omega), pk_sub (by omega)] at h
      have h := (nI_leI (by omega) (by omega)).mp h
      exact half (nI t - nI x) (by rw [pk_sub (by omega), show min (x - f) (t - x) = t - x by omega])
    · have h : ¬ nI t - nI x ≤ nI x - nI f := h
      rw [pk_sub (by omega), pk_sub (by omega)] at h
      have h : ¬ t - x ≤ x - f := fun z => h (nI_le z (by omega))
      exact half (nI x - nI f) (by rw [pk_sub (by omega), show min (x - f) (t - x) = x - f by omega])
