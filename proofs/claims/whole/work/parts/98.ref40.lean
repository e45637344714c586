/-! ===== the reference: yard ===== -/
def f_rg (rs : List fRl) : Prop := ∀ q ∈ rs, f_t15 q.2.2 ∧ q.2.1 < 100
theorem f_neg_gs {x : Int32} (h : x.toInt < 0) : f_gs x := by
  intro n hn e
  rw [e, nI_toInt hn] at h
  omega
theorem f_rsE_neg {b : Bool} {v : Nat} (hv : v < 100) : (f_rsE (b, v)).toInt < 0 := by
  have h1 : ∀ v, v < 100 → (f_rsE (true, v)).toInt < 0 := by decide +kernel
  have h2 : ∀ v, v < 100 → (f_rsE (false, v)).toInt < 0 := by decide +kernel
  cases b
  · exact h2 v hv
  · exact h1 v hv
theorem f_rg_gs {rs : List fRl} (h : f_rg rs) : ∀ x ∈ f_rsL rs, f_gs x := by
  intro x hx
  unfold f_rsL at hx
  obtain ⟨q, hq, hx⟩ := List.mem_flatMap.mp hx
  obtain ⟨h1, h2⟩ := h q hq
  rcases List.mem_append.mp hx with z | z
  · obtain ⟨t, ht, rfl⟩ := List.mem_map.mp z
    rcases h1 t ht with y | y
    · rw [f_rst_test (by omega)]
      intro n hn e
      have h5 : t / 300 < 5 := by omega
      have h3 : t / 100 % 3 < 3 := by omega
      have h100 : t % 100 < 100 := by omega
      generalize t / 300 = A at *
      generalize t / 100 % 3 = B at *
      generalize t % 100 = C at *
      have := (nI_eq (by omega) hn).mp e
      omega
    · unfold f_rst
      rw [if_neg (by omega)]
      split
      · exact f_neg_gs (by decide)
      · split
        · exact f_neg_gs (by decide)
        · exact f_neg_gs (by decide)
  · rw [List.mem_singleton] at z
    rw [z]
    exact f_neg_gs (f_rsE_neg h2)
theorem f_cl_15 {T : Nat → Nat} {n p : Nat} {y : fYd} (hp : p ≤ n) (h : f_rg y.2.2) : f_rg (f_cl T n p y).2.2.2.2 := by
  obtain ⟨a1, a2, a3, a4⟩ := f_head_p (T := T) hp
  unfold f_cl
  split
  · split
    · split
      · split
        · unfold f_keep
          rename_i hw _ _
          rw [if_pos hw]
          intro q hq
          rcases List.mem_append.mp hq with z | z
          · exact h q z
          · rw [List.mem_singleton] at z
            rw [z]
            exact ⟨f_pe_15 (f_pf_15 T n 5) _ _ (fun t ht => by simp at ht), a3⟩
        · exact h
      · exact h
    · unfold f_keep
      rename_i hw
      rw [if_neg hw]
      split
      · exact h
      · exact h
  · exact h
theorem f_cls_15 {T : Nat → Nat} {n : Nat} : ∀ (k p : Nat) (y : fYd), p ≤ n → f_rg y.2.2 → f_rg (f_cls T n k p y).2.2.2.2 := by
  intro k
  induction k with
  | zero => intro p y _ h; exact h
  | succ k ih =>
    intro p y hp h
    have hc := f_cl_15 (T := T) hp h
    unfold f_cls
    split
    · split
      · exact hc
      · split
        · exact hc
        · split
          · rename_i h59
            exact ih _ _ (f_is_lt h59) hc
          · exact hc
    · exact hc
theorem f_yrd_15 {T : Nat → Nat} {n : Nat} : f_rg (f_yrd T n).2.2.2.2 := f_cls_15 10 0 (12, 2, []) (Nat.zero_le _) (fun q hq => by simp at hq)
set_option maxRecDepth 20000 in
theorem m_y_yard : f_Meets 2 (kX12_yard S_clh S_he) (f_y0 p_yard) := by
  intro G As M R hsp X hX hW
  match As, hsp with
  | [.ref 100], ⟨s, hG, hS, hR, hsp⟩ =>
    subst hG
    unfold p_yard at hsp
    have hny := hS.ny
    have eny := hR.ny
    refine f_run_ok (stop := fun q => Nat.beq q 13) hX 20 _ _ _ _ _ ?_
    refine And.intro (v9 1 (by decide)) (And.intro (fun h => ?_) (fun h => ?_))
    · have h : M.1 101 1 = 5 := h
      rw [eny] at h
      have h := (nI_eq (b := 5) (by omega) (by omega)).mp h
      rw [if_pos (by omega)] at hsp
      exact hsp M hR
    have h : ¬ M.1 101 1 = 5 := h
    rw [eny] at h
    have h : ¬ s.1.1 0 1 = 5 := fun z => h (by rw [z]; rfl)
    rw [if_neg (by omega)] at hsp
    have esg := hR.sg
    have hsg := hS.sg
    have htp := hR.tp
    have hto := hS.tp
    obtain ⟨a, ha⟩ : ∃ a, s.1.1 0 1 = a := ⟨_, rfl⟩
    obtain ⟨n, hn⟩ : ∃ n, s.1.1 0 3 = n := ⟨_, rfl⟩
    obtain ⟨T, hT⟩ : ∃ T, s.1.1 4 = T := ⟨_, rfl⟩
    have a5 : a < 5 := by omega
    rw [ha] at eny
    rw [hn] at esg hsg
    rw [hT] at htp hto
    rw [ha, hn, hT] at hsp
    obtain ⟨i1, i2⟩ := f_ix (z := 191 + nI a) (k := 191 + a) (n := 906) (nI_add 191 a) (by omega) (by omega)
    obtain ⟨j1, j2⟩ := f_ix (z := 196 + nI a) (k := 196 + a) (n := 906) (nI_add 196 a) (by omega) (by omega)
    obtain ⟨k1, k2⟩ := f_ix (z := 201 + nI a) (k := 201 + a) (n := 906) (nI_add 201 a) (by omega) (by omega)
    refine f_run_ok (stop := fun q => Nat.beq q 23) hX 20 _ _ _ _ _ ?_
    refine And.intro (v9 1 (by decide)) ?_
    show X f_GM 23 [some (.ref 100), none] [] (f_up M.1 100 4 (M.1 101 1), M.2)
    rw [eny]
    refine f_run_ok (stop := fun q => Nat.beq q 33) hX 20 _ _ _ _ _ ?_
    refine And.intro (v9 5 (by decide)) ?_
    show X f_GM 33 [some (.ref 100), none] [] (f_up (f_up M.1 100 4 (nI a)) 100 6 (M.1 101 5), M.2)
    rw [esg]
    refine f_run_ok (stop := fun q => Nat.beq q 40) hX 20 _ _ _ _ _ ?_
    refine And.intro (v9 5 (by decide)) ?_
    show X f_GM 40 [some (.ref 100), none] [] (f_up (f_up (f_up M.1 100 4 (nI a)) 100 6 (nI n)) 101 5 0, M.2)
    refine f_run_ok (stop := fun q => Nat.beq q 55) hX 20 _ _ _ _ _ ?_
    refine And.intro i1 ?_
    show X f_GM 55 [some (.ref 100), none] [] (f_up (f_up (f_up (f_up M.1 100 4 (nI a)) 100 6 (nI n)) 101 5 0) 101 (191 + nI a).toNatClampNeg 12, M.2)
    rw [i2]
    refine f_run_ok (stop := fun q => Nat.beq q 69) hX 20 _ _ _ _ _ ?_
    refine And.intro j1 ?_
    show X f_GM 69 [some (.ref 100), none] [] (f_up (f_up (f_up (f_up (f_up M.1 100 4 (nI a)) 100 6 (nI n)) 101 5 0) 101 (191 + a) 12) 101 (196 + nI a).toNatClampNeg 2, M.2)
    rw [j2]
    refine f_run_ok (stop := fun q => Nat.beq q 83) hX 20 _ _ _ _ _ ?_
    refine And.intro k1 ?_
    show X f_GM 83 [some (.ref 100), none] [] (f_up (f_up (f_up (f_up (f_up (f_up M.1 100 4 (nI a)) 100 6 (nI n)) 101 5 0) 101 (191 + a) 12) 101 (196 + a) 2) 101 (201 + nI a).toNatClampNeg 0, M.2)
    rw [k2]
    refine f_run_ok (stop := fun q => Nat.beq q 100) hX 20 _ _ _ _ _ ?_
    refine And.intro (Or.inl rfl) ?_
    show X f_GM 100 [some (.ref 100), some (.int 1)] [] (f_up (f_up (f_up (f_up (f_up (f_up (f_up (f_up (f_up M.1 100 4 (nI a)) 100 6 (nI n)) 101 5 0) 101 (191 + a) 12) 101 (196 + a) 2) 101 (201 + a) 0) 100 5 0) 100 7 0) 100 8 0, M.2)
    have e0 : f_em [101, 1004, 1005, 1006, 1007, 1008] M (f_up (f_up (f_up (f_up (f_up (f_up (f_up (f_up (f_up M.1 100 4 (nI a)) 100 6 (nI n)) 101 5 0) 101 (191 + a) 12) 101 (196 + a) 2) 101 (201 + a) 0) 100 5 0) 100 7 0) 100 8 0, M.2) := ((((((((f_em.rf.uf (k := 4) (by decide)).uf (k := 6) (by decide)).up (c := 101) (by decide)).up (c := 101) (by decide)).up (c := 101) (by decide)).up (c := 101) (by decide)).uf (k := 5) (by decide)).uf (k := 7) (by decide)).uf (k := 8) (by decide)
    have w : ∀ k, (f_up (f_up (f_up (f_up (f_up (f_up (f_up (f_up (f_up M.1 100 4 (nI a)) 100 6 (nI n)) 101 5 0) 101 (191 + a) 12) 101 (196 + a) 2) 101 (201 + a) 0) 100 5 0) 100 7 0) 100 8 0) 101 k = if k = 201 + a then 0 else if k = 196 + a then 2 else if k = 191 + a then 12 else if k = 5 then 0 else M.1 101 k := fun k => rfl
    have y0 : (f_up (f_up (f_up (f_up (f_up (f_up (f_up (f_up (f_up M.1 100 4 (nI a)) 100 6 (nI n)) 101 5 0) 101 (191 + a) 12) 101 (196 + a) 2) 101 (201 + a) 0) 100 5 0) 100 7 0) 100 8 0) 100 4 = nI a ∧ (f_up (f_up (f_up (f_up (f_up (f_up (f_up (f_up (f_up M.1 100 4 (nI a)) 100 6 (nI n)) 101 5 0) 101 (191 + a) 12) 101 (196 + a) 2) 101 (201 + a) 0) 100 5 0) 100 7 0) 100 8 0) 100 6 = nI n ∧ (f_up (f_up (f_up (f_up (f_up (f_up (f_up (f_up (f_up M.1 100 4 (nI a)) 100 6 (nI n)) 101 5 0) 101 (191 + a) 12) 101 (196 + a) 2) 101 (201 + a) 0) 100 5 0) 100 7 0) 100 8 0) 100 5 = 0 ∧ (f_up (f_up (f_up (f_up (f_up (f_up (f_up (f_up (f_up M.1 100 4 (nI a)) 100 6 (nI n)) 101 5 0) 101 (191 + a) 12) 101 (196 + a) 2) 101 (201 + a) 0) 100 5 0) 100 7 0) 100 8 0) 100 7 = 0 ∧ (f_up (f_up (f_up (f_up (f_up (f_up (f_up (f_up (f_up M.1 100 4 (nI a)) 100 6 (nI n)) 101 5 0) 101 (191 + a) 12) 101 (196 + a) 2) 101 (201 + a) 0) 100 5 0) 100 7 0) 100 8 0) 100 8 = 0 := ⟨rfl, rfl, rfl, rfl, rfl⟩
    generalize hM0 : ((f_up (f_up (f_up (f_up (f_up (f_up (f_up (f_up (f_up M.1 100 4 (nI a)) 100 6 (nI n)) 101 5 0) 101 (191 + a) 12) 101 (196 + a) 2) 101 (201 + a) 0) 100 5 0) 100 7 0) 100 8 0, M.2) : fMem) = M0 at *
    have w : ∀ k, M0.1 101 k = if k = 201 + a then 0 else if k = 196 + a then 2 else if k = 191 + a then 12 else if k = 5 then 0 else M.1 101 k := fun k => by rw [← hM0]; exact w k
    have y0 : M0.1 100 4 = nI a ∧ M0.1 100 6 = nI n ∧ M0.1 100 5 = 0 ∧ M0.1 100 7 = 0 ∧ M0.1 100 8 = 0 := by rw [← hM0]; exact y0
    have wo : ∀ k, k ≠ 5 → ¬ f_zy a k → M0.1 101 k = M.1 101 k := fun k h1 h2 => by
      rw [w k, if_neg (fun e => h2 (Or.inr (Or.inr (Or.inl e)))), if_neg (fun e => h2 (Or.inr (Or.inl e))), if_neg (fun e => h2 (Or.inl e)), if_neg h1]
    have hY0 : f_YS M0 T n 0 a false 0 := ⟨y0.1, a5, y0.2.2.1, Nat.zero_le _, y0.2.1, hsg, y0.2.2.2.1, y0.2.2.2.2, by omega, fun i hi => ⟨(wo _ (by omega) (fun z => by rcases z with z | z | z | z <;> omega)).trans (htp i (by omega)), hto i⟩⟩
    have hP0 : f_YP M0 a (12, 2, []) := ⟨⟨12, 2, by rw [w, if_neg (by omega), if_neg (by omega), if_pos rfl]; rfl, by omega, rfl, by rw [w, if_neg (by omega), if_pos rfl]; rfl, by omega, rfl⟩, by rw [w, if_pos rfl]; rfl, fun j x hx => by cases hx⟩
    have same : ∀ M1, f_yq (f_zy a) M0 M1 → ∀ k, k ≠ 5 → ¬ f_zy a k → M1.1 101 k = M.1 101 k := fun M1 hq k h1 h2 => (hq.2 k h2).trans (wo k h1 h2)
    have five : ∀ M1, f_yq (f_zy a) M0 M1 → M1.1 101 5 = nI 0 := fun M1 hq => (hq.2 5 (fun z => by rcases z with z | z | z | z <;> omega)).trans (by rw [w, if_neg (by omega), if_neg (by omega), if_neg (by omega), if_pos rfl]; rfl)
    have rest : ∀ M1 M2 (s1 : fCo), f_yq (f_zy a) M0 M1 → f_em [101] M1 M2 → f_CR 101 s1 M2 → f_RM (s1, s.2) M2 := by
      intro M1 M2 s1 hq he hc
      have et : f_em [101, 1004, 1005, 1006, 1007, 1008] M M2 := (e0.tr (hq.1.mono (by decide))).tr (he.mono (by decide))
      obtain ⟨r1, r2, r3, r4, r5⟩ := hR
      exact ⟨hc, (et.2.2.1 3 (by decide)).trans r2, fun k hk => (r3 k hk).cg (et.1 102 (by decide) (by decide)), (et.2.2.1 35 (by decide)).trans r4, fun i y hi hy => by rw [et.1 116 (by decide) (by decide)]; exact r5 i y hi hy⟩
    have nz : ∀ k, k < 191 → ¬ f_zy a k := fun k hk z => by rcases z with z | z | z | z <;> omega
    sorry
